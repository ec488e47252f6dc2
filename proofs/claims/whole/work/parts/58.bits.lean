/-- digits of w bits, the lowest first -/
def dsum (w : Nat) : Nat → (Nat → Nat) → Nat
  | 0, _ => 0
  | n + 1, c => c 0 + 2 ^ w * dsum w n (fun i => c (i + 1))
theorem dsum_s (w n : Nat) (c : Nat → Nat) : dsum w (n + 1) c = c 0 + 2 ^ w * dsum w n (fun i => c (i + 1)) := rfl
theorem dsum_congr {w : Nat} : ∀ {n : Nat} {a b : Nat → Nat}, (∀ i, i < n → a i = b i) → dsum w n a = dsum w n b := by
  intro n
  induction n with
  | zero => intro a b _; rfl
  | succ n ih =>
    intro a b h
    unfold dsum
    rw [h 0 (by omega), ih (fun i hi => h (i + 1) (by omega))]
theorem dsum_lt {w : Nat} : ∀ {n : Nat} {a : Nat → Nat}, (∀ i, a i < 2 ^ w) → dsum w n a < 2 ^ (w * n) := by
  intro n
  induction n with
  | zero => intro a _; simp [dsum]
  | succ n ih =>
    intro a h
    unfold dsum
    have h1 := ih (a := fun i => a (i + 1)) (fun i => h (i + 1))
    have h2 := h 0
    rw [Nat.mul_succ, Nat.add_comm, Nat.pow_add, Nat.mul_comm (2 ^ (w * n))]
    have h3 : dsum w n (fun i => a (i + 1)) + 1 ≤ 2 ^ (w * n) := h1
    have h4 := Nat.mul_le_mul_left (2 ^ w) h3
    rw [Nat.mul_add, Nat.mul_one] at h4
    omega
theorem dsum_add {w : Nat} : ∀ {n : Nat} {a b : Nat → Nat}, dsum w n (fun i => a i + b i) = dsum w n a + dsum w n b := by
  intro n
  induction n with
  | zero => intro a b; rfl
  | succ n ih =>
    intro a b
    unfold dsum
    have e := ih (a := fun i => a (i + 1)) (b := fun i => b (i + 1))
    show a 0 + b 0 + 2 ^ w * dsum w n (fun i => a (i + 1) + b (i + 1)) = _
    rw [e, Nat.mul_add]
    omega
theorem dsum_pair {w : Nat} : ∀ {n : Nat} {c : Nat → Nat}, dsum w (2 * n) c = dsum (2 * w) n (fun i => c (2 * i) + 2 ^ w * c (2 * i + 1)) := by
  intro n
  induction n with
  | zero => intro c; rfl
  | succ n ih =>
    intro c
    have e := ih (c := fun i => c (i + 1 + 1))
    rw [show 2 * (n + 1) = 2 * n + 1 + 1 from by omega, dsum_s, dsum_s, dsum_s, e, Nat.mul_add, ← Nat.mul_assoc, ← Nat.pow_add, ← Nat.two_mul, ← Nat.add_assoc]
    rfl
theorem and_low {w c m T U : Nat} (hc : c < 2 ^ w) (hm : m < 2 ^ w) : (c + 2 ^ w * T) &&& (m + 2 ^ w * U) = (c &&& m) + 2 ^ w * (T &&& U) := by
  have hcm : c &&& m < 2 ^ w := Nat.and_lt_two_pow _ hm
  apply Nat.eq_of_testBit_eq
  intro i
  rw [Nat.testBit_and, Nat.add_comm c, Nat.add_comm m, Nat.add_comm (c &&& m), Nat.testBit_two_pow_mul_add _ hc, Nat.testBit_two_pow_mul_add _ hm, Nat.testBit_two_pow_mul_add _ hcm]
  split
  · rw [Nat.testBit_and]
  · rw [Nat.testBit_and]
theorem dsum_and {w : Nat} : ∀ {n : Nat} {c m : Nat → Nat}, (∀ i, c i < 2 ^ w) → (∀ i, m i < 2 ^ w) → dsum w n c &&& dsum w n m = dsum w n (fun i => c i &&& m i) := by
  intro n
  induction n with
  | zero => intro c m _ _; exact Nat.and_self 0
  | succ n ih =>
    intro c m h1 h2
    unfold dsum
    rw [and_low (h1 0) (h2 0), ih (fun i => h1 (i + 1)) (fun i => h2 (i + 1))]
theorem dsum_top {w : Nat} : ∀ {n : Nat} {c : Nat → Nat}, c n = 0 → dsum w (n + 1) c = dsum w n c := by
  intro n
  induction n with
  | zero => intro c h; simp [dsum, h]
  | succ n ih =>
    intro c h
    have e := ih (c := fun i => c (i + 1)) h
    rw [dsum, e]
    rfl
theorem dsum_shift {w n : Nat} {c : Nat → Nat} (h : ∀ i, c i < 2 ^ w) (hz : ∀ i, n ≤ i → c i = 0) : dsum w n c >>> w = dsum w n (fun i => c (i + 1)) := by
  cases n with
  | zero => simp [dsum]
  | succ n =>
    rw [dsum_top (c := fun i => c (i + 1)) (hz (n + 1) (by omega)), dsum, Nat.shiftRight_eq_div_pow, Nat.add_mul_div_left _ _ (Nat.two_pow_pos w), Nat.div_eq_of_lt (h 0), Nat.zero_add]
theorem dsum_shifts {w : Nat} : ∀ (k : Nat) {n : Nat} {c : Nat → Nat}, (∀ i, c i < 2 ^ w) → (∀ i, n ≤ i → c i = 0) → dsum w n c >>> (w * k) = dsum w n (fun i => c (i + k)) := by
  intro k
  induction k with
  | zero => intro n c _ _; rfl
  | succ k ih =>
    intro n c h hz
    have e := dsum_shift (w := w) (n := n) (c := fun i => c (i + k)) (fun i => h _) (fun i hi => hz _ (by omega))
    rw [Nat.mul_succ, Nat.shiftRight_add, ih h hz, e]
    exact dsum_congr (fun i _ => by rw [show i + 1 + k = i + (k + 1) from by omega])
theorem dsum_even {w n : Nat} {c : Nat → Nat} (h : ∀ i, c i < 2 ^ w) : dsum w (2 * n) c &&& dsum w (2 * n) (fun i => if i % 2 = 0 then 2 ^ w - 1 else 0) = dsum (2 * w) n (fun i => c (2 * i)) := by
  have p := Nat.two_pow_pos w
  rw [dsum_and h (fun i => by split <;> omega), dsum_pair]
  refine dsum_congr (fun i _ => ?_)
  rw [if_pos (show 2 * i % 2 = 0 from by omega), if_neg (show ¬ (2 * i + 1) % 2 = 0 from by omega), Nat.and_zero, Nat.mul_zero, Nat.add_zero, Nat.and_two_pow_sub_one_eq_mod, Nat.mod_eq_of_lt (h _)]
theorem dsum_bits : ∀ (n x : Nat), x < 2 ^ n → x = dsum 1 n (fun i => (x.testBit i).toNat) := by
  intro n
  induction n with
  | zero => intro x h; simp [dsum]; simpa using h
  | succ n ih =>
    intro x h
    have h2 : x / 2 < 2 ^ n := by rw [Nat.pow_succ] at h; omega
    have e := ih (x / 2) h2
    have e2 : dsum 1 n (fun i => (x.testBit (i + 1)).toNat) = x / 2 := by
      refine Eq.trans (dsum_congr (fun i _ => ?_)) e.symm
      rw [Nat.testBit_succ]
    have e3 : (x.testBit 0).toNat = x % 2 := by
      rw [Nat.testBit_zero]
      have : x % 2 = 0 ∨ x % 2 = 1 := by omega
      rcases this with q | q <;> simp [q]
    rw [dsum, e2, e3]
    omega
/-- how many of the digits' ones -/
def popS (b : Nat → Nat) : Nat → Nat
  | 0 => 0
  | n + 1 => popS b n + b n
theorem popS_le {b : Nat → Nat} (h : ∀ i, b i ≤ 1) : ∀ n, popS b n ≤ n := by
  intro n
  induction n with
  | zero => exact Nat.le_refl _
  | succ n ih => have := h n; unfold popS; omega
theorem pop64 {x : Nat} {b : Nat → Nat} (hb : ∀ i, b i ≤ 1) (hz : ∀ i, 64 ≤ i → b i = 0) (hx : x = dsum 1 64 b) :
    ∃ x1 x2 x3 x4 x5 x6, ((x >>> 1) &&& 6148914691236517205) ≤ x ∧ x1 = x - ((x >>> 1) &&& 6148914691236517205) ∧ x2 = (x1 &&& 3689348814741910323) + ((x1 >>> 2) &&& 3689348814741910323) ∧ x2 + (x2 >>> 4) < 2 ^ 64 ∧ x3 = (x2 + (x2 >>> 4)) &&& 1085102592571150095 ∧ x4 = x3 + (x3 >>> 8) ∧ x5 = x4 + (x4 >>> 16) ∧ x6 = x5 + (x5 >>> 32) ∧ x1 < 2 ^ 64 ∧ x2 < 2 ^ 64 ∧ x3 < 2 ^ 64 ∧ x4 < 2 ^ 64 ∧ x5 < 2 ^ 64 ∧ x6 < 2 ^ 64 ∧ x6 % 256 = popS b 64 := by
  have M1 : 6148914691236517205 = dsum 1 (2 * 32) (fun i => if i % 2 = 0 then 2 ^ 1 - 1 else 0) := by decide +kernel
  have M2 : 3689348814741910323 = dsum 2 (2 * 16) (fun i => if i % 2 = 0 then 2 ^ 2 - 1 else 0) := by decide +kernel
  have M3 : 1085102592571150095 = dsum 4 (2 * 8) (fun i => if i % 2 = 0 then 2 ^ 4 - 1 else 0) := by decide +kernel
  have a1 : (x >>> 1) &&& 6148914691236517205 = dsum 2 32 (fun i => b (2 * i + 1)) := by
    rw [hx, M1, dsum_shift (fun i => by have := hb i; omega) hz]
    exact dsum_even (w := 1) (n := 32) (c := fun i => b (i + 1)) (fun i => by have := hb (i + 1); omega)
  have a2 : x = dsum 2 32 (fun i => b (2 * i) + b (2 * i + 1)) + dsum 2 32 (fun i => b (2 * i + 1)) := by
    rw [hx, show (64 : Nat) = 2 * 32 from rfl, dsum_pair, ← dsum_add]
    exact dsum_congr (fun i _ => by omega)
  let c : Nat → Nat := fun i => b (2 * i) + b (2 * i + 1)
  have hc : ∀ i, c i ≤ 2 := fun i => by have := hb (2 * i); have := hb (2 * i + 1); show b (2 * i) + b (2 * i + 1) ≤ 2; omega
  have cz : ∀ i, 32 ≤ i → c i = 0 := fun i hi => by show b (2 * i) + b (2 * i + 1) = 0; rw [hz _ (by omega), hz _ (by omega)]
  let d : Nat → Nat := fun i => c (2 * i) + c (2 * i + 1)
  have hd : ∀ i, d i ≤ 4 := fun i => by have := hc (2 * i); have := hc (2 * i + 1); show c (2 * i) + c (2 * i + 1) ≤ 4; omega
  have dz : ∀ i, 16 ≤ i → d i = 0 := fun i hi => by show c (2 * i) + c (2 * i + 1) = 0; rw [cz _ (by omega), cz _ (by omega)]
  let e : Nat → Nat := fun i => d (2 * i) + d (2 * i + 1)
  have he : ∀ i, e i ≤ 8 := fun i => by have := hd (2 * i); have := hd (2 * i + 1); show d (2 * i) + d (2 * i + 1) ≤ 8; omega
  have ez : ∀ i, 8 ≤ i → e i = 0 := fun i hi => by show d (2 * i) + d (2 * i + 1) = 0; rw [dz _ (by omega), dz _ (by omega)]
  let f : Nat → Nat := fun i => e i + e (i + 1)
  have hf : ∀ i, f i ≤ 16 := fun i => by have := he i; have := he (i + 1); show e i + e (i + 1) ≤ 16; omega
  have fz : ∀ i, 8 ≤ i → f i = 0 := fun i hi => by show e i + e (i + 1) = 0; rw [ez _ (by omega), ez _ (by omega)]
  let g : Nat → Nat := fun i => f i + f (i + 2)
  have hg : ∀ i, g i ≤ 32 := fun i => by have := hf i; have := hf (i + 2); show f i + f (i + 2) ≤ 32; omega
  have gz : ∀ i, 8 ≤ i → g i = 0 := fun i hi => by show f i + f (i + 2) = 0; rw [fz _ (by omega), fz _ (by omega)]
  let k : Nat → Nat := fun i => g i + g (i + 4)
  have hk : ∀ i, k i ≤ 64 := fun i => by have := hg i; have := hg (i + 4); show g i + g (i + 4) ≤ 64; omega
  have e1 : x - ((x >>> 1) &&& 6148914691236517205) = dsum 2 32 c := by rw [a1, a2]; exact Nat.add_sub_cancel _ _
  have e2 : (dsum 2 32 c &&& 3689348814741910323) + ((dsum 2 32 c >>> 2) &&& 3689348814741910323) = dsum 4 16 d := by
    have q1 := dsum_even (w := 2) (n := 16) (c := c) (fun i => by have := hc i; omega)
    have q2 := dsum_even (w := 2) (n := 16) (c := fun i => c (i + 1)) (fun i => by have := hc (i + 1); omega)
    rw [M2, dsum_shift (fun i => by have := hc i; omega) cz, show dsum 2 32 c &&& dsum 2 (2 * 16) (fun i => if i % 2 = 0 then 2 ^ 2 - 1 else 0) = dsum 4 16 (fun i => c (2 * i)) from q1, show dsum 2 32 (fun i => c (i + 1)) &&& dsum 2 (2 * 16) (fun i => if i % 2 = 0 then 2 ^ 2 - 1 else 0) = dsum 4 16 (fun i => c (2 * i + 1)) from q2, ← dsum_add]
  have e3a : dsum 4 16 d + (dsum 4 16 d >>> 4) = dsum 4 16 (fun i => d i + d (i + 1)) := by
    rw [dsum_shift (fun i => by have := hd i; omega) dz, ← dsum_add]
  have e3 : (dsum 4 16 d + (dsum 4 16 d >>> 4)) &&& 1085102592571150095 = dsum 8 8 e := by
    rw [e3a, M3, show (16 : Nat) = 2 * 8 from rfl, dsum_even (fun i => by have := hd i; have := hd (i + 1); omega)]
  have e4 : dsum 8 8 e + (dsum 8 8 e >>> 8) = dsum 8 8 f := by
    rw [dsum_shift (fun i => by have := he i; omega) ez, ← dsum_add]
  have e5 : dsum 8 8 f + (dsum 8 8 f >>> 16) = dsum 8 8 g := by
    rw [show 16 = 8 * 2 from rfl, dsum_shifts 2 (fun i => by have := hf i; omega) fz, ← dsum_add]
  have e6 : dsum 8 8 g + (dsum 8 8 g >>> 32) = dsum 8 8 k := by
    rw [show 32 = 8 * 4 from rfl, dsum_shifts 4 (fun i => by have := hg i; omega) gz, ← dsum_add]
  refine ⟨dsum 2 32 c, dsum 4 16 d, dsum 8 8 e, dsum 8 8 f, dsum 8 8 g, dsum 8 8 k, ?_, e1.symm, e2.symm, ?_, e3.symm, e4.symm, e5.symm, e6.symm, ?_, ?_, ?_, ?_, ?_, ?_, ?_⟩
  · rw [a1]; exact Nat.le_trans (Nat.le_add_left _ _) (Nat.le_of_eq a2.symm)
  · rw [e3a]; exact dsum_lt (fun i => by have := hd i; have := hd (i + 1); omega)
  · exact dsum_lt (fun i => by have := hc i; omega)
  · exact dsum_lt (fun i => by have := hd i; omega)
  · exact dsum_lt (fun i => by have := he i; omega)
  · exact dsum_lt (fun i => by have := hf i; omega)
  · exact dsum_lt (fun i => by have := hg i; omega)
  · exact dsum_lt (fun i => by have := hk i; omega)
  · have h0 : dsum 8 8 k % 256 = k 0 := by
      rw [dsum, show (2 ^ 8 : Nat) = 256 from rfl, Nat.add_mul_mod_self_left, Nat.mod_eq_of_lt]
      have := hk 0; omega
    rw [h0]
    simp only [k, g, f, e, d, c, popS, Nat.reduceMul, Nat.reduceAdd, Nat.mul_zero, Nat.zero_add, hz 64 (by omega), hz 65 (by omega), hz 66 (by omega), hz 67 (by omega), hz 68 (by omega), hz 69 (by omega), hz 70 (by omega), hz 71 (by omega)]
    omega
theorem n64 (x : Int64) : x.toBitVec.toNat < 2 ^ 64 := x.toBitVec.isLt
theorem n_and (x y : Int64) : (x &&& y).toBitVec.toNat = x.toBitVec.toNat &&& y.toBitVec.toNat := by
  rw [Int64.toBitVec_and, BitVec.toNat_and]
theorem n_add {x y : Int64} (h : x.toBitVec.toNat + y.toBitVec.toNat < 2 ^ 64) : (x + y).toBitVec.toNat = x.toBitVec.toNat + y.toBitVec.toNat := by
  rw [Int64.toBitVec_add, BitVec.toNat_add, Nat.mod_eq_of_lt h]
theorem n_sub {x y : Int64} (h : y.toBitVec.toNat ≤ x.toBitVec.toNat) : (x - y).toBitVec.toNat = x.toBitVec.toNat - y.toBitVec.toNat := by
  rw [Int64.toBitVec_sub, BitVec.toNat_sub]
  have := n64 x
  omega
theorem sh64u : ∀ k, k < 64 → ((((nI k).toInt64.toUInt64 &&& Int64.toUInt64 63)).toBitVec % 64#64).toNat = k := by decide +kernel
theorem n_shr (x : Int64) (k : Nat) (hk : k < 64) : ((x.toUInt64 >>> ((nI k).toInt64.toUInt64 &&& Int64.toUInt64 63)).toInt64).toBitVec.toNat = x.toBitVec.toNat >>> k := by
  show (x.toUInt64 >>> ((nI k).toInt64.toUInt64 &&& Int64.toUInt64 63)).toBitVec.toNat = _
  rw [UInt64.toBitVec_shiftRight, BitVec.ushiftRight_eq', BitVec.toNat_ushiftRight]
  have := sh64u k hk
  rw [show (((nI k).toInt64.toUInt64 &&& Int64.toUInt64 63).toBitVec % 64).toNat = k from this]
  rfl
theorem bc64_end : ∀ t, t < 65 → (nI t &&& nI 127) = nI t := by decide +kernel
theorem bc64 (x : Int64) : f_J13_bitCount_95d88 x = nI (popS (fun i => if bitL x i then 1 else 0) 64) := by
  have hz : ∀ i, 64 ≤ i → (if bitL x i then 1 else 0) = 0 := fun i hi => by rw [bit_hi x i hi]; rfl
  have hb : ∀ i, (if bitL x i then 1 else 0) ≤ 1 := fun i => by split <;> omega
  have hx : x.toBitVec.toNat = dsum 1 64 (fun i => if bitL x i then 1 else 0) := by
    refine Eq.trans (dsum_bits 64 _ (n64 x)) (dsum_congr (fun i _ => ?_))
    show (x.toBitVec.getLsbD i).toNat = _
    unfold bitL
    cases x.toBitVec.getLsbD i <;> rfl
  obtain ⟨x1, x2, x3, x4, x5, x6, h0, h1, h2, h3, h4, h5, h6, h7, l1, l2, l3, l4, l5, l6, hr⟩ := pop64 hb hz hx
  have k1 : (6148914691236517205 : Int64).toBitVec.toNat = 6148914691236517205 := by decide +kernel
  have k2 : (3689348814741910323 : Int64).toBitVec.toNat = 3689348814741910323 := by decide +kernel
  have k3 : (1085102592571150095 : Int64).toBitVec.toNat = 1085102592571150095 := by decide +kernel
  unfold f_J13_bitCount_95d88
  extract_lets y1 y2 y3 y4 y5 y6
  have e1 : y1.toBitVec.toNat = x1 := by
    have q := n_shr x 1 (by omega)
    rw [show y1.toBitVec.toNat = x.toBitVec.toNat - _ from n_sub (by rw [n_and, q, k1]; exact h0), n_and, q, k1]
    exact h1.symm
  have e2 : y2.toBitVec.toNat = x2 := by
    have q := n_shr y1 2 (by omega)
    have : (y1 &&& 3689348814741910323).toBitVec.toNat + ((y1.toUInt64 >>> ((nI 2).toInt64.toUInt64 &&& Int64.toUInt64 63)).toInt64 &&& 3689348814741910323).toBitVec.toNat = x2 := by
      rw [n_and, n_and, q, k2, e1]; exact h2.symm
    rw [show y2.toBitVec.toNat = _ from n_add (by rw [this]; exact l2)]
    exact this
  have e3 : y3.toBitVec.toNat = x3 := by
    have q := n_shr y2 4 (by omega)
    rw [show y3.toBitVec.toNat = _ from n_and _ _, n_add (by rw [q, e2]; exact h3), q, e2, k3]
    exact h4.symm
  have e4 : y4.toBitVec.toNat = x4 := by
    have q := n_shr y3 8 (by omega)
    rw [show y4.toBitVec.toNat = _ from n_add (by rw [q, e3, ← h5]; exact l4), q, e3]
    exact h5.symm
  have e5 : y5.toBitVec.toNat = x5 := by
    have q := n_shr y4 16 (by omega)
    rw [show y5.toBitVec.toNat = _ from n_add (by rw [q, e4, ← h6]; exact l5), q, e4]
    exact h6.symm
  have e6 : y6.toBitVec.toNat = x6 := by
    have q := n_shr y5 32 (by omega)
    rw [show y6.toBitVec.toNat = _ from n_add (by rw [q, e5, ← h7]; exact l6), q, e5]
    exact h7.symm
  have hp : popS (fun i => if bitL x i then 1 else 0) 64 ≤ 64 := popS_le hb 64
  rw [← bc64_end _ (show popS (fun i => if bitL x i then 1 else 0) 64 < 65 by omega)]
  apply Int32.toBitVec_inj.mp
  rw [Int32.toBitVec_and, Int32.toBitVec_and]
  apply BitVec.eq_of_toNat_eq
  rw [BitVec.toNat_and, BitVec.toNat_and]
  have c1 : (nI 127).toBitVec.toNat = 2 ^ 7 - 1 := by decide +kernel
  rw [c1, Nat.and_two_pow_sub_one_eq_mod, Nat.and_two_pow_sub_one_eq_mod]
  have c2 : y6.toInt32.toBitVec.toNat = x6 % 2 ^ 32 := by
    rw [Int64.toBitVec_toInt32, BitVec.signExtend_eq_setWidth_of_le _ (by omega), BitVec.toNat_setWidth, e6]
  have c3 : (nI (popS (fun i => if bitL x i then 1 else 0) 64)).toBitVec.toNat = popS (fun i => if bitL x i then 1 else 0) 64 := by
    show (BitVec.ofNat 32 _).toNat = _
    rw [BitVec.toNat_ofNat, Nat.mod_eq_of_lt (by omega)]
  rw [c2, c3]
  omega
