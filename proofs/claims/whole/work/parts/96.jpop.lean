theorem pop32 {x : Nat} {b : Nat → Nat} (hb : ∀ i, b i ≤ 1) (hz : ∀ i, 32 ≤ i → b i = 0) (hx : x = dsum 1 32 b) :
    ∃ x1 x2 x3 x4 x5, ((x >>> 1) &&& 1431655765) ≤ x ∧ x1 = x - ((x >>> 1) &&& 1431655765) ∧ x2 = (x1 &&& 858993459) + ((x1 >>> 2) &&& 858993459) ∧ x2 + (x2 >>> 4) < 2 ^ 32 ∧ x3 = (x2 + (x2 >>> 4)) &&& 252645135 ∧ x4 = x3 + (x3 >>> 8) ∧ x5 = x4 + (x4 >>> 16) ∧ x1 < 2 ^ 32 ∧ x2 < 2 ^ 32 ∧ x3 < 2 ^ 32 ∧ x4 < 2 ^ 32 ∧ x5 < 2 ^ 32 ∧ x5 % 256 = popS b 32 := by
  have M1 : 1431655765 = dsum 1 (2 * 16) (fun i => if i % 2 = 0 then 2 ^ 1 - 1 else 0) := by decide +kernel
  have M2 : 858993459 = dsum 2 (2 * 8) (fun i => if i % 2 = 0 then 2 ^ 2 - 1 else 0) := by decide +kernel
  have M3 : 252645135 = dsum 4 (2 * 4) (fun i => if i % 2 = 0 then 2 ^ 4 - 1 else 0) := by decide +kernel
  have a1 : (x >>> 1) &&& 1431655765 = dsum 2 16 (fun i => b (2 * i + 1)) := by
    rw [hx, M1, dsum_shift (fun i => by have := hb i; omega) hz]
    exact dsum_even (w := 1) (n := 16) (c := fun i => b (i + 1)) (fun i => by have := hb (i + 1); omega)
  have a2 : x = dsum 2 16 (fun i => b (2 * i) + b (2 * i + 1)) + dsum 2 16 (fun i => b (2 * i + 1)) := by
    rw [hx, show (32 : Nat) = 2 * 16 from rfl, dsum_pair, ← dsum_add]
    exact dsum_congr (fun i _ => by omega)
  let c : Nat → Nat := fun i => b (2 * i) + b (2 * i + 1)
  have hc : ∀ i, c i ≤ 2 := fun i => by have := hb (2 * i); have := hb (2 * i + 1); show b (2 * i) + b (2 * i + 1) ≤ 2; omega
  have cz : ∀ i, 16 ≤ i → c i = 0 := fun i hi => by show b (2 * i) + b (2 * i + 1) = 0; rw [hz _ (by omega), hz _ (by omega)]
  let d : Nat → Nat := fun i => c (2 * i) + c (2 * i + 1)
  have hd : ∀ i, d i ≤ 4 := fun i => by have := hc (2 * i); have := hc (2 * i + 1); show c (2 * i) + c (2 * i + 1) ≤ 4; omega
  have dz : ∀ i, 8 ≤ i → d i = 0 := fun i hi => by show c (2 * i) + c (2 * i + 1) = 0; rw [cz _ (by omega), cz _ (by omega)]
  let e : Nat → Nat := fun i => d (2 * i) + d (2 * i + 1)
  have he : ∀ i, e i ≤ 8 := fun i => by have := hd (2 * i); have := hd (2 * i + 1); show d (2 * i) + d (2 * i + 1) ≤ 8; omega
  have ez : ∀ i, 4 ≤ i → e i = 0 := fun i hi => by show d (2 * i) + d (2 * i + 1) = 0; rw [dz _ (by omega), dz _ (by omega)]
  let f : Nat → Nat := fun i => e i + e (i + 1)
  have hf : ∀ i, f i ≤ 16 := fun i => by have := he i; have := he (i + 1); show e i + e (i + 1) ≤ 16; omega
  have fz : ∀ i, 4 ≤ i → f i = 0 := fun i hi => by show e i + e (i + 1) = 0; rw [ez _ (by omega), ez _ (by omega)]
  let g : Nat → Nat := fun i => f i + f (i + 2)
  have hg : ∀ i, g i ≤ 32 := fun i => by have := hf i; have := hf (i + 2); show f i + f (i + 2) ≤ 32; omega
  have gz : ∀ i, 4 ≤ i → g i = 0 := fun i hi => by show f i + f (i + 2) = 0; rw [fz _ (by omega), fz _ (by omega)]
  have e1 : x - ((x >>> 1) &&& 1431655765) = dsum 2 16 c := by rw [a1, a2]; exact Nat.add_sub_cancel _ _
  have e2 : (dsum 2 16 c &&& 858993459) + ((dsum 2 16 c >>> 2) &&& 858993459) = dsum 4 8 d := by
    have q1 := dsum_even (w := 2) (n := 8) (c := c) (fun i => by have := hc i; omega)
    have q2 := dsum_even (w := 2) (n := 8) (c := fun i => c (i + 1)) (fun i => by have := hc (i + 1); omega)
    rw [M2, dsum_shift (fun i => by have := hc i; omega) cz, show dsum 2 16 c &&& dsum 2 (2 * 8) (fun i => if i % 2 = 0 then 2 ^ 2 - 1 else 0) = dsum 4 8 (fun i => c (2 * i)) from q1, show dsum 2 16 (fun i => c (i + 1)) &&& dsum 2 (2 * 8) (fun i => if i % 2 = 0 then 2 ^ 2 - 1 else 0) = dsum 4 8 (fun i => c (2 * i + 1)) from q2, ← dsum_add]
  have e3a : dsum 4 8 d + (dsum 4 8 d >>> 4) = dsum 4 8 (fun i => d i + d (i + 1)) := by
    rw [dsum_shift (fun i => by have := hd i; omega) dz, ← dsum_add]
  have e3 : (dsum 4 8 d + (dsum 4 8 d >>> 4)) &&& 252645135 = dsum 8 4 e := by
    rw [e3a, M3, show (8 : Nat) = 2 * 4 from rfl, dsum_even (fun i => by have := hd i; have := hd (i + 1); omega)]
  have e4 : dsum 8 4 e + (dsum 8 4 e >>> 8) = dsum 8 4 f := by
    rw [dsum_shift (fun i => by have := he i; omega) ez, ← dsum_add]
  have e5 : dsum 8 4 f + (dsum 8 4 f >>> 16) = dsum 8 4 g := by
    rw [show 16 = 8 * 2 from rfl, dsum_shifts 2 (fun i => by have := hf i; omega) fz, ← dsum_add]
  refine ⟨dsum 2 16 c, dsum 4 8 d, dsum 8 4 e, dsum 8 4 f, dsum 8 4 g, ?_, e1.symm, e2.symm, ?_, e3.symm, e4.symm, e5.symm, ?_, ?_, ?_, ?_, ?_, ?_⟩
  · rw [a1]; exact Nat.le_trans (Nat.le_add_left _ _) (Nat.le_of_eq a2.symm)
  · rw [e3a]; exact dsum_lt (fun i => by have := hd i; have := hd (i + 1); omega)
  · exact dsum_lt (fun i => by have := hc i; omega)
  · exact dsum_lt (fun i => by have := hd i; omega)
  · exact dsum_lt (fun i => by have := he i; omega)
  · exact dsum_lt (fun i => by have := hf i; omega)
  · exact dsum_lt (fun i => by have := hg i; omega)
  · have h0 : dsum 8 4 g % 256 = g 0 := by
      rw [dsum, show (2 ^ 8 : Nat) = 256 from rfl, Nat.add_mul_mod_self_left, Nat.mod_eq_of_lt]
      have := hg 0; omega
    rw [h0]
    simp only [g, f, e, d, c, popS, Nat.reduceMul, Nat.reduceAdd, Nat.mul_zero, Nat.zero_add, hz 32 (by omega), hz 33 (by omega)]
    omega
theorem m32 (x : Int32) : x.toBitVec.toNat < 2 ^ 32 := x.toBitVec.isLt
theorem m_and (x y : Int32) : (x &&& y).toBitVec.toNat = x.toBitVec.toNat &&& y.toBitVec.toNat := by
  rw [Int32.toBitVec_and, BitVec.toNat_and]
theorem m_add {x y : Int32} (h : x.toBitVec.toNat + y.toBitVec.toNat < 2 ^ 32) : (x + y).toBitVec.toNat = x.toBitVec.toNat + y.toBitVec.toNat := by
  rw [Int32.toBitVec_add, BitVec.toNat_add, Nat.mod_eq_of_lt h]
theorem m_sub {x y : Int32} (h : y.toBitVec.toNat ≤ x.toBitVec.toNat) : (x - y).toBitVec.toNat = x.toBitVec.toNat - y.toBitVec.toNat := by
  rw [Int32.toBitVec_sub, BitVec.toNat_sub]
  have := m32 x
  omega
theorem sh32u : ∀ k, k < 32 → ((((nI k).toUInt32 &&& Int32.toUInt32 31)).toBitVec % 32#32).toNat = k := by decide +kernel
theorem m_shr (x : Int32) (k : Nat) (hk : k < 32) : ((x.toUInt32 >>> ((nI k).toUInt32 &&& Int32.toUInt32 31)).toInt32).toBitVec.toNat = x.toBitVec.toNat >>> k := by
  show (x.toUInt32 >>> ((nI k).toUInt32 &&& Int32.toUInt32 31)).toBitVec.toNat = _
  rw [UInt32.toBitVec_shiftRight, BitVec.ushiftRight_eq', BitVec.toNat_ushiftRight]
  have := sh32u k hk
  rw [show (((nI k).toUInt32 &&& Int32.toUInt32 31).toBitVec % 32).toNat = k from this]
  rfl
theorem bc32_end : ∀ t, t < 33 → (nI t &&& nI 63) = nI t := by decide +kernel
theorem bc32 (x : Int32) : f_J6_bitCount_0f7a4 x = nI (popS (fun i => if b32 x i then 1 else 0) 32) := by
  have hz : ∀ i, 32 ≤ i → (if b32 x i then 1 else 0) = 0 := fun i hi => by rw [b32_hi x i hi]; rfl
  have hb : ∀ i, (if b32 x i then 1 else 0) ≤ 1 := fun i => by split <;> omega
  have hx : x.toBitVec.toNat = dsum 1 32 (fun i => if b32 x i then 1 else 0) := by
    refine Eq.trans (dsum_bits 32 _ (m32 x)) (dsum_congr (fun i _ => ?_))
    show (x.toBitVec.getLsbD i).toNat = _
    unfold b32
    cases x.toBitVec.getLsbD i <;> rfl
  obtain ⟨x1, x2, x3, x4, x5, h0, h1, h2, h3, h4, h5, h6, l1, l2, l3, l4, l5, hr⟩ := pop32 hb hz hx
  have k1 : (nI 1431655765).toBitVec.toNat = 1431655765 := by decide +kernel
  have k2 : (nI 858993459).toBitVec.toNat = 858993459 := by decide +kernel
  have k3 : (nI 252645135).toBitVec.toNat = 252645135 := by decide +kernel
  unfold f_J6_bitCount_0f7a4
  extract_lets y1 y2 y3 y4 y5
  have e1 : y1.toBitVec.toNat = x1 := by
    have q := m_shr x 1 (by omega)
    rw [show y1.toBitVec.toNat = x.toBitVec.toNat - _ from m_sub (by rw [m_and, q, k1]; exact h0), m_and, q, k1]
    exact h1.symm
  have e2 : y2.toBitVec.toNat = x2 := by
    have q := m_shr y1 2 (by omega)
    have : (y1 &&& nI 858993459).toBitVec.toNat + ((y1.toUInt32 >>> ((nI 2).toUInt32 &&& Int32.toUInt32 31)).toInt32 &&& nI 858993459).toBitVec.toNat = x2 := by
      rw [m_and, m_and, q, k2, e1]; exact h2.symm
    rw [show y2.toBitVec.toNat = _ from m_add (by rw [this]; exact l2)]
    exact this
  have e3 : y3.toBitVec.toNat = x3 := by
    have q := m_shr y2 4 (by omega)
    rw [show y3.toBitVec.toNat = _ from m_and _ _, m_add (by rw [q, e2]; exact h3), q, e2, k3]
    exact h4.symm
  have e4 : y4.toBitVec.toNat = x4 := by
    have q := m_shr y3 8 (by omega)
    rw [show y4.toBitVec.toNat = _ from m_add (by rw [q, e3, ← h5]; exact l4), q, e3]
    exact h5.symm
  have e5 : y5.toBitVec.toNat = x5 := by
    have q := m_shr y4 16 (by omega)
    rw [show y5.toBitVec.toNat = _ from m_add (by rw [q, e4, ← h6]; exact l5), q, e4]
    exact h6.symm
  have hp : popS (fun i => if b32 x i then 1 else 0) 32 ≤ 32 := popS_le hb 32
  rw [← bc32_end _ (show popS (fun i => if b32 x i then 1 else 0) 32 < 33 by omega)]
  apply Int32.toBitVec_inj.mp
  rw [Int32.toBitVec_and, Int32.toBitVec_and]
  apply BitVec.eq_of_toNat_eq
  rw [BitVec.toNat_and, BitVec.toNat_and]
  have c1 : (nI 63).toBitVec.toNat = 2 ^ 6 - 1 := by decide +kernel
  rw [c1, Nat.and_two_pow_sub_one_eq_mod, Nat.and_two_pow_sub_one_eq_mod]
  have c3 : (nI (popS (fun i => if b32 x i then 1 else 0) 32)).toBitVec.toNat = popS (fun i => if b32 x i then 1 else 0) 32 := by
    show (BitVec.ofNat 32 _).toNat = _
    rw [BitVec.toNat_ofNat, Nat.mod_eq_of_lt (by omega)]
  rw [e5, c3]
  omega
