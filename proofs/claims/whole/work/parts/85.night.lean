theorem setF : ∀ t, t < 64 → ∀ d, d < 6 → (nI t ^^^ (nI 1 <<< (nI d &&& 31))) = nI (t ^^^ 2 ^ d) ∧ t ^^^ 2 ^ d < 64 ∧ (t.testBit d = true → t ^^^ 2 ^ d = t - 2 ^ d ∧ t ^^^ 2 ^ d < t ∧ (nI t &&& ((nI 1 <<< (nI d &&& 31)) ^^^ (-1))) = nI (t - 2 ^ d)) ∧ ((nI t >>> (nI d &&& 31)) &&& nI 1) = nI (if t.testBit d then 1 else 0) := by decide +kernel
theorem shlF : ∀ d, d < 7 → (nI 1 <<< (nI d &&& 31)) = nI (2 ^ d) ∧ 2 ^ d ≤ 64 ∧ 1 ≤ 2 ^ d := by decide +kernel
/-- a set of doors within another one -/
def subD (t S : Nat) : Prop := ∀ i, t.testBit i = true → S.testBit i = true
theorem b32_nat (t i : Nat) : b32 (nI t) i = (decide (i < 32) && t.testBit i) := by
  unfold b32
  show (BitVec.ofNat 32 t).getLsbD i = _
  rw [BitVec.getLsbD_ofNat]
theorem b32_not (x : Int32) (i : Nat) (hi : i < 32) : b32 (x ^^^ (-1)) i = !(b32 x i) := by
  unfold b32
  rw [Int32.toBitVec_xor, BitVec.getLsbD_xor]
  have : (-1 : Int32).toBitVec.getLsbD i = true := by
    show (BitVec.allOnes 32).getLsbD i = true
    rw [BitVec.getLsbD_allOnes]
    exact decide_eq_true hi
  rw [this, Bool.xor_true]
theorem bit_lt {t i : Nat} {k : Nat} (h : t < 2 ^ k) (hb : t.testBit i = true) : i < k := by
  apply Classical.byContradiction
  intro g
  have : t < 2 ^ i := Nat.lt_of_lt_of_le h (Nat.pow_le_pow_right (by omega) (by omega))
  rw [Nat.testBit_lt_two_pow this] at hb
  cases hb
theorem sub_eq {t S : Nat} (ht : t < 64) : ((nI t &&& (nI S ^^^ (-1))) = 0) = subD t S := by
  apply propext
  rw [b32_z]
  constructor
  · intro h i hi
    have i6 : i < 6 := bit_lt (k := 6) ht hi
    have := h i (by omega)
    rw [b32_and, b32_not _ _ (by omega), b32_nat, b32_nat, decide_eq_true (show i < 32 by omega), Bool.true_and, Bool.true_and, hi, Bool.true_and] at this
    cases hS : S.testBit i
    · rw [hS] at this; cases this
    · rfl
  · intro h i hi
    rw [b32_and, b32_not _ _ hi, b32_nat, b32_nat, decide_eq_true hi, Bool.true_and, Bool.true_and]
    cases ht2 : t.testBit i
    · rfl
    · rw [h i ht2]; rfl
theorem sub_xor {t S d : Nat} (h : subD t S) (hd : t.testBit d = true) : subD (t ^^^ 2 ^ d) S := by
  intro i hi
  rw [Nat.testBit_xor, Nat.testBit_two_pow] at hi
  by_cases e : d = i
  · rw [← e, hd, decide_eq_true rfl] at hi
    cases hi
  · rw [decide_eq_false e, Bool.xor_false] at hi
    exact h i hi
theorem sub_self {S : Nat} : subD S S := fun _ h => h
theorem sub_all {t d : Nat} (h : t < 2 ^ d) : subD t (2 ^ d - 1) := by
  intro i hi
  rw [Nat.testBit_two_pow_sub_one]
  exact decide_eq_true (bit_lt h hi)
/-- a door painted at the hour -/
def padS (ds fh lh : Nat → Int32) (h t a i : Nat) : Prop := t.testBit i = true ∧ ds i = nI a ∧ fh i ≤ nI h ∧ nI h ≤ lh i
theorem cls_plast {t h d : Nat} {ds fh lh W : Nat → Int32} {Q : Int32 → Prop} (ht : t < 64) (hh : h < 24) (hd : d ≤ 6) (hf : ∀ i, i < d → ∃ q f l, q < 30 ∧ f < 24 ∧ l < 24 ∧ ds i = nI q ∧ fh i = nI f ∧ lh i = nI l) (hQ : ∀ y, (∀ a, b32 y a = true ↔ ∃ i, i < d ∧ padS ds fh lh h t a i ∧ b32 (W (t ^^^ 2 ^ i)) a = true) → Q y) : wp_X6_paintingLast (nI t) (nI h) ds fh lh (nI d) W Q := by
  unfold wp_X6_paintingLast
  refine meas2 (F := wl_X6_paintingLast_5 (nI t) (nI h) ds fh lh (nI d) W Q) (fun y v => ∃ k, k ≤ d ∧ v = nI k ∧ ∀ a, b32 y a = true ↔ ∃ i, i < k ∧ padS ds fh lh h t a i ∧ b32 (W (t ^^^ 2 ^ i)) a = true) (fun _ v => d - v.toNatClampNeg) ?_ _ _ ⟨0, by omega, rfl, fun a => ⟨fun z => absurd z (by rw [b32_0]; decide), fun ⟨i, hi, _⟩ => by omega⟩⟩
  rintro y v ⟨k, hk, rfl, hy⟩ m ih
  rw [wl_X6_paintingLast_5]
  by_cases w : k = d
  · subst w
    simp (disch := omega) only [wb_X6_paintingLast_5, nI_natle, Nat.le_refl, not_true_eq_false, not_false_eq_true, forall_const, true_implies, false_implies, implies_true, and_true, true_and, and_false, false_and, or_true, true_or, or_false, false_or, forall_eq, ↓reduceIte, ne_eq, nI1ne, nI0eq, Classical.not_not, eq_self, reduceCtorEq]
    exact hQ y hy
  · obtain ⟨q, f, l, hq, hf24, hl, e1, e2, e3⟩ := hf k (by omega)
    obtain ⟨s1, s2, s3, s4⟩ := setF t ht k (by omega)
    have mu : d - (nI (k + 1)).toNatClampNeg < d - (nI k).toNatClampNeg := by rw [nI_clamp (by omega), nI_clamp (by omega)]; omega
    have next : ∀ y', (∀ a, b32 y' a = true ↔ b32 y a = true ∨ padS ds fh lh h t a k ∧ b32 (W (t ^^^ 2 ^ k)) a = true) → ∀ a, b32 y' a = true ↔ ∃ i, i < k + 1 ∧ padS ds fh lh h t a i ∧ b32 (W (t ^^^ 2 ^ i)) a = true := by
      intro y' hy' a
      rw [hy', hy]
      constructor
      · rintro (⟨i, h1, h2⟩ | h2)
        · exact ⟨i, by omega, h2⟩
        · exact ⟨k, by omega, h2⟩
      · rintro ⟨i, h1, h2⟩
        by_cases e : i = k
        · rw [e] at h2; exact Or.inr h2
        · exact Or.inl ⟨i, by omega, h2⟩
    simp (disch := omega) only [wb_X6_paintingLast_5, nI_natle, show ¬ d ≤ k from by omega, vpin, nI_clamp, nI_add, s1, s4, e1, e2, e3, nI_natlt, not_true_eq_false, not_false_eq_true, forall_const, true_implies, false_implies, implies_true, and_true, true_and, and_false, false_and, or_true, true_or, or_false, false_or, forall_eq, ↓reduceIte, ne_eq, nI1ne, nI0eq, Classical.not_not, eq_self, reduceCtorEq]
    refine ih _ _ ⟨k + 1, by omega, rfl, next _ (fun a => ?_)⟩ mu
    unfold padS
    rw [e1, e2, e3, nI_natle (by omega) (by omega), nI_natle (by omega) (by omega)]
    cases hb : t.testBit k
    · simp only [Bool.false_eq_true, nI0eq, not_true_eq_false, not_false_eq_true, forall_const, true_implies, false_implies, implies_true, and_true, true_and, and_false, false_and, or_true, true_or, or_false, false_or, forall_eq, ↓reduceIte, ne_eq, nI1ne, nI0eq, Classical.not_not, eq_self, reduceCtorEq]
    · simp only [nI1ne, not_true_eq_false, not_false_eq_true, forall_const, true_implies, false_implies, implies_true, and_true, true_and, and_false, false_and, or_true, true_or, or_false, false_or, forall_eq, ↓reduceIte, ne_eq, nI1ne, nI0eq, Classical.not_not, eq_self, reduceCtorEq]
      by_cases c1 : h < f
      · rw [if_pos c1]
        exact ⟨Or.inl, fun z => z.elim id (fun z => absurd z.1.2.1 (by omega))⟩
      · rw [if_neg c1]
        by_cases c2 : l < h
        · rw [if_pos c2]
          exact ⟨Or.inl, fun z => z.elim id (fun z => absurd z.1.2.2 (by omega))⟩
        · rw [if_neg c2, b32_or, Bool.or_eq_true, b32_and, Bool.and_eq_true, b32_one q a (by omega), decide_eq_true_eq]
          constructor
          · rintro (z | ⟨z1, z2⟩)
            · exact Or.inl z
            · exact Or.inr ⟨⟨by rw [z2], by omega, by omega⟩, z1⟩
          · rintro (z | ⟨⟨z1, -⟩, z2⟩)
            · exact Or.inl z
            · refine Or.inr ⟨z2, ?_⟩
              have a32 : a < 32 := by
                apply Classical.byContradiction
                intro g
                rw [b32_hi _ _ (by omega)] at z2
                cases z2
              exact ((nI_eq (by omega) (by omega)).mp z1).symm
/-- painting, from the greatest set down -/
theorem cls_dusk {S h d : Nat} {ds fh lh W1 : Nat → Int32} {L : Int32 → (Nat → Int32) → Prop} (hS : S < 64) (hh : h < 24) (hd : d ≤ 6) (hf : ∀ i, i < d → ∃ q f l, q < 30 ∧ f < 24 ∧ l < 24 ∧ ds i = nI q ∧ fh i = nI f ∧ lh i = nI l) (hsp : ∀ t, t ≤ S → spo (W1 t)) (hQ : ∀ W2, (∀ t, t ≤ S → spo (W2 t) ∧ (subD t S → ∀ a, b32 (W2 t) a = true ↔ b32 (W1 t) a = true ∨ ∃ i, i < d ∧ padS ds fh lh h t a i ∧ b32 (W1 (t ^^^ 2 ^ i)) a = true)) → L (nI h + nI 1) W2) : ∃ n, wl_X6_roam_94 (nI S) ds fh lh (nI d) (nI h) L n (nI S) W1 := by
  refine meas2 (F := wl_X6_roam_94 (nI S) ds fh lh (nI d) (nI h) L) (fun v W => ∃ t, t ≤ S ∧ v = nI t ∧ (∀ u, u ≤ t → W u = W1 u) ∧ ∀ u, t < u → u ≤ S → spo (W u) ∧ (subD u S → ∀ a, b32 (W u) a = true ↔ b32 (W1 u) a = true ∨ ∃ i, i < d ∧ padS ds fh lh h u a i ∧ b32 (W1 (u ^^^ 2 ^ i)) a = true)) (fun v _ => v.toNatClampNeg) ?_ _ _ ⟨S, Nat.le_refl S, rfl, fun _ _ => rfl, fun u h1 h2 => by omega⟩
  rintro v W ⟨t, htS, rfl, i1, i2⟩ m ih
  rw [wl_X6_roam_94]
  unfold wb_X6_roam_94
  rw [le_0 (by omega)]
  refine ⟨fun z => ?_, fun z => ?_⟩
  · subst z
    refine hQ W (fun u hu => ?_)
    by_cases e : u = 0
    · subst e
      rw [i1 0 (Nat.le_refl 0)]
      refine ⟨hsp 0 hu, fun _ a => ⟨Or.inl, fun z => z.elim id (fun ⟨i, _, z, _⟩ => ?_)⟩⟩
      have := z.1
      rw [Nat.zero_testBit] at this
      cases this
    · exact i2 u (by omega) hu
  · have mu : (nI (t - 1)).toNatClampNeg < (nI t).toNatClampNeg := by rw [nI_clamp (by omega), nI_clamp (by omega)]; omega
    rw [sub_eq (by omega), nI_m1 (by omega)]
    refine ⟨fun ns => ?_, fun sb => ⟨vp_in_nI (by omega) (by omega), ?_⟩⟩
    · refine ih _ _ ⟨t - 1, by omega, rfl, fun u hu => i1 u (by omega), fun u h1 h2 => ?_⟩ mu
      by_cases e : u = t
      · subst e
        rw [i1 u (Nat.le_refl u)]
        exact ⟨hsp u htS, fun q => absurd q ns⟩
      · exact i2 u (by omega) h2
    · refine cls_plast (by omega) hh hd hf (fun y hy => ⟨vp_in_nI (by omega) (by omega), ?_⟩)
      rw [nI_clamp (by omega)]
      refine ih _ _ ⟨t - 1, by omega, rfl, fun u hu => by rw [updne (by omega)]; exact i1 u (by omega), fun u h1 h2 => ?_⟩ mu
      by_cases e : u = t
      · subst e
        rw [upde, i1 u (Nat.le_refl u)]
        have hy' : ∀ a, b32 y a = true ↔ ∃ i, i < d ∧ padS ds fh lh h u a i ∧ b32 (W1 (u ^^^ 2 ^ i)) a = true := by
          intro a
          rw [hy]
          constructor
          · rintro ⟨i, h3, h4, h5⟩
            refine ⟨i, h3, h4, ?_⟩
            rw [i1 _ (by have := ((setF u (by omega) i (by omega)).2.2.1 h4.1).2.1; omega)] at h5
            exact h5
          · rintro ⟨i, h3, h4, h5⟩
            refine ⟨i, h3, h4, ?_⟩
            rw [i1 _ (by have := ((setF u (by omega) i (by omega)).2.2.1 h4.1).2.1; omega)]
            exact h5
        refine ⟨fun j hj => ?_, fun _ a => ?_⟩
        · rw [b32_or, hsp u h2 j hj, Bool.false_or]
          apply Bool.eq_false_iff.mpr
          intro z
          obtain ⟨i, h3, h4, h5⟩ := (hy j).mp z
          obtain ⟨q, f, l, hq, -, -, e1, -⟩ := hf i h3
          have j32 : j < 32 := by
            apply Classical.byContradiction
            intro g
            rw [b32_hi _ _ (by omega)] at z
            cases z
          have := h4.2.1
          rw [e1] at this
          have := (nI_eq (by omega) (by omega)).mp this
          omega
        · rw [b32_or, Bool.or_eq_true, hy']
      · rw [updne e]
        exact i2 u (by omega) h2
theorem cls_dawn {S h d : Nat} {ds fh lh W0 : Nat → Int32} {y : Int32} {L : Int32 → (Nat → Int32) → Prop} (hS : S < 64) (hh : h < 24) (hd : d ≤ 6) (hf : ∀ i, i < d → ∃ q f l, q < 30 ∧ f < 24 ∧ l < 24 ∧ ds i = nI q ∧ fh i = nI f ∧ lh i = nI l) (hy : spo y) (hQ : ∀ W2, (∀ t, t ≤ S → spo (W2 t) ∧ (subD t S → ∀ a, b32 (W2 t) a = true ↔ b32 (f_X11_withBeside (W0 t) &&& y) a = true ∨ ∃ i, i < d ∧ padS ds fh lh h t a i ∧ b32 (f_X11_withBeside (W0 (t ^^^ 2 ^ i)) &&& y) a = true)) → L (nI h + nI 1) W2) : ∃ n, wl_X6_roam_59 (nI S) ds fh lh (nI d) (nI h) L y n (nI 0) W0 := by
  refine meas2 (F := wl_X6_roam_59 (nI S) ds fh lh (nI d) (nI h) L y) (fun v W => ∃ t, t ≤ S + 1 ∧ v = nI t ∧ (∀ u, u < t → W u = (f_X11_withBeside (W0 u) &&& y)) ∧ ∀ u, t ≤ u → W u = W0 u) (fun v _ => S + 1 - v.toNatClampNeg) ?_ _ _ ⟨0, by omega, rfl, fun u hu => by omega, fun _ _ => rfl⟩
  rintro v W ⟨t, htS, rfl, i1, i2⟩ m ih
  rw [wl_X6_roam_59]
  unfold wb_X6_roam_59
  rw [nI_natlt (by omega) (by omega)]
  refine ⟨fun z => ?_, fun z => ⟨vp_in_nI (by omega) (by omega), vp_in_nI (by omega) (by omega), ?_⟩⟩
  · have e : t = S + 1 := by omega
    subst e
    refine cls_dusk hS hh hd hf (fun u hu => ?_) (fun W2 h2 => hQ W2 (fun u hu => ⟨(h2 u hu).1, fun sb a => ?_⟩))
    · rw [i1 u (by omega)]; exact and_spo hy
    · rw [(h2 u hu).2 sb a, i1 u (by omega)]
      constructor
      · rintro (q | ⟨i, h3, h4, h5⟩)
        · exact Or.inl q
        · refine Or.inr ⟨i, h3, h4, ?_⟩
          rw [i1 _ (by have := ((setF u (by omega) i (by omega)).2.2.1 h4.1).2.1; omega)] at h5
          exact h5
      · rintro (q | ⟨i, h3, h4, h5⟩)
        · exact Or.inl q
        · refine Or.inr ⟨i, h3, h4, ?_⟩
          rw [i1 _ (by have := ((setF u (by omega) i (by omega)).2.2.1 h4.1).2.1; omega)]
          exact h5
  · rw [nI_clamp (by omega), nI_add]
    refine ih _ _ ⟨t + 1, by omega, rfl, fun u hu => ?_, fun u hu => ?_⟩ (by rw [nI_clamp (by omega), nI_clamp (by omega)]; omega)
    · by_cases e : u = t
      · subst e; rw [upde, i2 u (Nat.le_refl u)]
      · rw [updne e]; exact i1 u (by omega)
    · rw [updne (by omega)]; exact i2 u (by omega)
theorem canN_iff {s : Nat → Int32} {p h a c : Nat} (hc : c ≤ 12) (e : s (250 + p) = nI c) : canN s p h a = true ↔ a < 30 ∧ ¬ s (20 + a) = nI 5 ∧ ∀ k, k < c → s (356 + 12 * p + k) = nI h → s (260 + 12 * p + k) = nI a := by
  unfold canN
  rw [Bool.and_eq_true, Bool.and_eq_true, decide_eq_true_eq, decide_eq_true_eq, List.all_eq_true]
  constructor
  · rintro ⟨⟨h1, h2⟩, h3⟩
    refine ⟨h1, h2, fun k hk h4 => ?_⟩
    have := h3 k (List.mem_range.mpr (by omega))
    have d1 : decide (nI k < nI c) = true := decide_eq_true (by rw [nI_natlt (by omega) (by omega)]; exact hk)
    rw [e, d1, decide_eq_true h4, Bool.true_and, Bool.true_and] at this
    apply Classical.byContradiction
    intro g
    rw [decide_eq_true (show s (260 + 12 * p + k) ≠ nI a from g)] at this
    cases this
  · rintro ⟨h1, h2, h3⟩
    refine ⟨⟨h1, h2⟩, fun k hk => ?_⟩
    have hk2 := List.mem_range.mp hk
    rw [e]
    have cN : (nI k < nI c) = (k < c) := nI_natlt (by omega) (by omega)
    by_cases c1 : nI k < nI c
    · have c3 : k < c := cN ▸ c1
      by_cases c2 : s (356 + 12 * p + k) = nI h
      · rw [decide_eq_false (show ¬ s (260 + 12 * p + k) ≠ nI a from fun g => g (h3 k c3 c2)), Bool.and_false]; rfl
      · rw [decide_eq_false c2, Bool.and_false, Bool.false_and]; rfl
    · rw [decide_eq_false c1, Bool.false_and, Bool.false_and]; rfl
theorem can_sight {ds fh lh : Nat → Int32} {dc : Int32} {si s : Nat → Int32} (h : INight ds fh lh dc si s) {p hr : Nat} (hp : p < 8) (hh : hr < 24) : (si (p * 24 + hr) = -1 ∧ ∀ a, canN s p hr a = true ↔ a < 30 ∧ ¬ s (20 + a) = nI 5) ∨ ∃ q, q < 30 ∧ si (p * 24 + hr) = nI q ∧ ∀ a, canN s p hr a = true ↔ (a < 30 ∧ ¬ s (20 + a) = nI 5) ∧ a = q := by
  obtain ⟨c, ho, sp, hc, e1, e2, A, B⟩ := h.2 p hp
  rcases B hr hh with em | ⟨k, hk, ek⟩
  · refine Or.inl ⟨em, fun a => ?_⟩
    rw [canN_iff hc e1]
    refine ⟨fun z => ⟨z.1, z.2.1⟩, fun z => ⟨z.1, z.2, fun k hk e => ?_⟩⟩
    obtain ⟨a1, a2, a3, a4, a5⟩ := A k hk
    rw [a4] at e
    have := (nI_eq (by omega) (by omega)).mp e
    rw [this, em] at a5
    exact absurd a5 (m1_ne (by omega))
  · obtain ⟨a1, a2, a3, a4, a5⟩ := A k hk
    rw [ek] at a5
    refine Or.inr ⟨sp k, a2, a5, fun a => ?_⟩
    rw [canN_iff hc e1]
    constructor
    · rintro ⟨z1, z2, z3⟩
      have := z3 k hk (by rw [a4, ek])
      rw [a3] at this
      exact ⟨⟨z1, z2⟩, ((nI_eq (by omega) (by omega)).mp this).symm⟩
    · rintro ⟨⟨z1, z2⟩, rfl⟩
      refine ⟨z1, z2, fun k2 hk2 e => ?_⟩
      obtain ⟨b1, b2, b3, b4, b5⟩ := A k2 hk2
      rw [b4] at e
      have e2 := (nI_eq (by omega) (by omega)).mp e
      rw [e2, a5] at b5
      rw [b3]; exact b5.symm
theorem beside_sym (a b : Nat) : besideN a b = besideN b a := by
  unfold besideN
  rw [Bool.eq_iff_iff, decide_eq_true_eq, decide_eq_true_eq]
  omega
theorem nxN_iff (s : Nat → Int32) (p h : Nat) (M : Nat → Nat → Bool) (a t : Nat) : nxN s p h M a t = true ↔ canN s p h a = true ∧ (M a t = true ∨ 0 < h ∧ ∃ b, b < 30 ∧ besideN a b = true ∧ M b t = true) := by
  unfold nxN
  rw [Bool.and_eq_true, Bool.or_eq_true, Bool.and_eq_true, decide_eq_true_eq, List.any_eq_true]
  constructor
  · rintro ⟨h1, h2 | ⟨h2, b, h3, h4⟩⟩
    · exact ⟨h1, Or.inl h2⟩
    · rw [Bool.and_eq_true] at h4
      exact ⟨h1, Or.inr ⟨h2, b, List.mem_range.mp h3, h4.1, h4.2⟩⟩
  · rintro ⟨h1, h2 | ⟨h2, b, h3, h4, h5⟩⟩
    · exact ⟨h1, Or.inl h2⟩
    · exact ⟨h1, Or.inr ⟨h2, b, List.mem_range.mpr h3, by rw [h4, h5]; rfl⟩⟩
theorem stepN_iff {s : Nat → Int32} {d : Nat} (hd : d ≤ 6) (e6 : s 6 = nI d) (p h : Nat) (M : Nat → Nat → Bool) (a t : Nat) : stepN s p h M a t = true ↔ nxN s p h M a t = true ∨ ∃ i, i < d ∧ padS (fun i => s (230 + i)) (fun i => s (236 + i)) (fun i => s (242 + i)) h t a i ∧ nxN s p h M a (t - 2 ^ i) = true := by
  unfold stepN padS
  rw [Bool.or_eq_true, List.any_eq_true]
  constructor
  · rintro (h1 | ⟨i, h2, h3⟩)
    · exact Or.inl h1
    · rw [Bool.and_eq_true, Bool.and_eq_true, Bool.and_eq_true, Bool.and_eq_true, Bool.and_eq_true, decide_eq_true_eq, decide_eq_true_eq, decide_eq_true_eq, decide_eq_true_eq, e6] at h3
      obtain ⟨⟨⟨⟨⟨g1, g2⟩, g3⟩, g4⟩, g5⟩, g6⟩ := h3
      have := List.mem_range.mp h2
      rw [nI_natlt (by omega) (by omega)] at g1
      exact Or.inr ⟨i, g1, ⟨g2, g3, g4, g5⟩, g6⟩
  · rintro (h1 | ⟨i, g1, ⟨g2, g3, g4, g5⟩, g6⟩)
    · exact Or.inl h1
    · refine Or.inr ⟨i, List.mem_range.mpr (by omega), ?_⟩
      rw [Bool.and_eq_true, Bool.and_eq_true, Bool.and_eq_true, Bool.and_eq_true, Bool.and_eq_true, decide_eq_true_eq, decide_eq_true_eq, decide_eq_true_eq, decide_eq_true_eq, e6, nI_natlt (by omega) (by omega)]
      exact ⟨⟨⟨⟨⟨g1, g2⟩, g3⟩, g4⟩, g5⟩, g6⟩
theorem cls_roam {gr ds fh lh : Nat → Int32} {dc : Int32} {si s W : Nat → Int32} {p S d : Nat} {y : Int32} {Q : (Nat → Int32) → Prop} (h : INight ds fh lh dc si s) (hp : p < 8) (hd : d ≤ 6) (e6 : s 6 = nI d) (hS : S < 64) (hy : ∀ i, b32 y i = true ↔ i < 30 ∧ ¬ s (20 + i) = nI 5) (hQ : ∀ W', (∀ t, t ≤ S → spo (W' t) ∧ (subD t S → ∀ a, a < 30 → (b32 (W' t) a = true ↔ mayN s p 24 a t = true))) → Q W') : wp_X6_roam (nI p) (nI S) y ds fh lh dc si W Q := by
  obtain ⟨⟨d', hd', rfl, e6', g1, g2⟩, g3⟩ := id h
  have ed : d' = d := by rw [e6'] at e6; exact (nI_eq (by omega) (by omega)).mp e6
  subst ed
  have ys : spo y := fun i hi => Bool.eq_false_iff.mpr (fun z => by
    have := ((hy i).mp z).1
    omega)
  have hf : ∀ i, i < d' → ∃ q f l, q < 30 ∧ f < 24 ∧ l < 24 ∧ ds i = nI q ∧ fh i = nI f ∧ lh i = nI l := by
    intro i hi
    obtain ⟨q, f, l, h1, h2, h3, h4, h5, h6⟩ := g2 i hi
    obtain ⟨k1, k2, k3⟩ := g1 i (by omega)
    exact ⟨q, f, l, h1, by omega, h3, by rw [k1, h4], by rw [k2, h5], by rw [k3, h6]⟩
  unfold wp_X6_roam
  refine meas2 (F := wl_X6_roam_18 (nI p) (nI S) y ds fh lh (nI d') si Q) (fun v W => ∃ hr, hr ≤ 24 ∧ v = nI hr ∧ ∀ t, t ≤ S → spo (W t) ∧ (subD t S → ∀ a, a < 30 → (b32 (W t) a = true ↔ if hr = 0 then t = 0 ∧ ¬ s (20 + a) = nI 5 else mayN s p hr a t = true))) (fun v _ => 24 - v.toNatClampNeg) ?_ _ _ ⟨0, by omega, rfl, fun t ht => ?_⟩
  · rintro v W ⟨hr, hhr, rfl, hW⟩ m ih
    rw [wl_X6_roam_18]
    by_cases w : hr = 24
    · subst w
      simp (disch := omega) only [wb_X6_roam_18, nI_natle, Nat.le_refl, not_true_eq_false, not_false_eq_true, forall_const, true_implies, false_implies, implies_true, and_true, true_and, and_false, false_and, or_true, true_or, or_false, false_or, forall_eq, ↓reduceIte, ne_eq, nI1ne, nI0eq, Classical.not_not, eq_self, reduceCtorEq]
      refine hQ W (fun t ht => ⟨(hW t ht).1, fun sb a ha => ?_⟩)
      rw [(hW t ht).2 sb a ha, if_neg (by omega)]
    · unfold wb_X6_roam_18
      rw [nI_natle (by omega) (by omega), nI_mul, nI_add, nI_clamp (by omega)]
      refine ⟨fun z => absurd z (by omega), fun _ => ⟨vp_in_nI (by omega) (by omega), fun x hx y0 hy0 => ?_⟩⟩
      have y0s : spo y0 ∧ ∀ a, b32 y0 a = true ↔ canN s p hr a = true := by
        rcases can_sight h hp (show hr < 24 by omega) with ⟨em, ec⟩ | ⟨q, hq, em, ec⟩
        · rw [hx, em, if_neg (by rw [m1le]; exact id)] at hy0
          rw [hy0]
          exact ⟨ys, fun a => by rw [hy, ec]⟩
        · rw [hx, em, if_pos (nI_pos' (by omega))] at hy0
          rw [hy0]
          refine ⟨fun i hi => by rw [b32_and, ys i hi, Bool.false_and], fun a => ?_⟩
          rw [b32_and, Bool.and_eq_true, hy, ec, b32_one q a (by omega), decide_eq_true_eq]
      refine cls_dawn hS (by omega) hd hf y0s.1 (fun W2 h2 => ?_)
      rw [nI_add]
      refine ih _ _ ⟨hr + 1, by omega, rfl, fun t ht => ⟨(h2 t ht).1, fun sb a ha => ?_⟩⟩ (by rw [nI_clamp (by omega), nI_clamp (by omega)]; omega)
      rw [if_neg (by omega)]
      have nx : ∀ t, t ≤ S → subD t S → (b32 (f_X11_withBeside (W t) &&& y0) a = true ↔ nxN s p hr (mayN s p hr) a t = true) := by
        intro t ht sb
        rw [b32_and, Bool.and_eq_true, y0s.2, wB_bit (hW t ht).1, nxN_iff]
        by_cases h0 : hr = 0
        · subst h0
          have hm : ∀ a, mayN s p 0 a t = decide (t = 0) := fun a => rfl
          rw [hm, decide_eq_true_eq]
          constructor
          · rintro ⟨⟨z1, z2⟩, z3⟩
            refine ⟨z3, Or.inl ?_⟩
            rcases z2 with z2 | ⟨b, b1, b2, b3⟩
            · have := ((hW t ht).2 sb a ha).mp z2
              rw [if_pos rfl] at this
              exact this.1
            · have := ((hW t ht).2 sb b b1).mp b3
              rw [if_pos rfl] at this
              exact this.1
          · rintro ⟨z3, z2⟩
            have z4 : t = 0 := z2.elim id (fun z => absurd z.1 (by omega))
            have z5 : ¬ s (20 + a) = nI 5 := by
              rcases can_sight h hp (show 0 < 24 by omega) with ⟨-, ec⟩ | ⟨q, -, -, ec⟩
              · exact ((ec a).mp z3).2
              · exact ((ec a).mp z3).1.2
            refine ⟨⟨ha, Or.inl (((hW t ht).2 sb a ha).mpr ?_)⟩, z3⟩
            rw [if_pos rfl]
            exact ⟨z4, z5⟩
        · have hm : ∀ b, b < 30 → (b32 (W t) b = true ↔ mayN s p hr b t = true) := by
            intro b hb
            have := (hW t ht).2 sb b hb
            rw [if_neg h0] at this
            exact this
          constructor
          · rintro ⟨⟨z1, z2⟩, z3⟩
            refine ⟨z3, ?_⟩
            rcases z2 with z2 | ⟨b, b1, b2, b3⟩
            · exact Or.inl ((hm a ha).mp z2)
            · exact Or.inr ⟨by omega, b, b1, by rw [beside_sym]; exact b2, (hm b b1).mp b3⟩
          · rintro ⟨z3, z2⟩
            refine ⟨⟨ha, ?_⟩, z3⟩
            rcases z2 with z2 | ⟨-, b, b1, b2, b3⟩
            · exact Or.inl ((hm a ha).mpr z2)
            · exact Or.inr ⟨b, b1, by rw [beside_sym]; exact b2, (hm b b1).mpr b3⟩
      rw [(h2 t ht).2 sb a, nx t ht sb]
      show _ ↔ stepN s p hr (mayN s p hr) a t = true
      rw [stepN_iff hd e6']
      have pe : ∀ i, i < d' → (padS ds fh lh hr t a i ↔ padS (fun i => s (230 + i)) (fun i => s (236 + i)) (fun i => s (242 + i)) hr t a i) := by
        intro i hi
        obtain ⟨k1, k2, k3⟩ := g1 i (by omega)
        unfold padS
        rw [k1, k2, k3]
      constructor
      · rintro (z | ⟨i, z1, z2, z3⟩)
        · exact Or.inl z
        · obtain ⟨s1, s2, s3, s4⟩ := setF t (by omega) i (by omega)
          obtain ⟨s5, s6, -⟩ := s3 z2.1
          refine Or.inr ⟨i, z1, (pe i z1).mp z2, ?_⟩
          rw [← s5]
          exact (nx _ (by omega) (sub_xor sb z2.1)).mp z3
      · rintro (z | ⟨i, z1, z2, z3⟩)
        · exact Or.inl z
        · obtain ⟨s1, s2, s3, s4⟩ := setF t (by omega) i (by omega)
          obtain ⟨s5, s6, -⟩ := s3 z2.1
          refine Or.inr ⟨i, z1, (pe i z1).mpr z2, ?_⟩
          rw [← s5] at z3
          exact (nx _ (by omega) (sub_xor sb z2.1)).mpr z3
  · by_cases e : t = 0
    · subst e
      rw [upde]
      refine ⟨ys, fun _ a ha => ?_⟩
      rw [if_pos rfl, hy]
      exact ⟨fun z => ⟨rfl, z.2⟩, fun z => ⟨ha, z.2⟩⟩
    · have z : upd (fil 64 (nI 0) W) 0 y t = nI 0 := by
        rw [updne e]
        unfold fil
        rw [if_pos (by omega)]
      rw [z]
      refine ⟨fun i _ => b32_0 i, fun _ a _ => ?_⟩
      rw [if_pos rfl, b32_0]
      exact ⟨fun z => absurd z (by decide), fun z => absurd z.1 e⟩
