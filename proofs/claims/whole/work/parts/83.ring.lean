/-- a walk of n leans -/
def Wk (r : Nat) (M : Nat → Nat → Bool) : Nat → Nat → Nat → Prop
  | 0 => fun x y => x = y
  | n + 1 => fun x y => ∃ z, (x < r ∧ M x z = true) ∧ Wk r M n z y
theorem Wk_back {r : Nat} {M : Nat → Nat → Bool} : ∀ {n x y : Nat}, Wk r M (n + 1) x y ↔ ∃ z, Wk r M n x z ∧ (z < r ∧ M z y = true) := by
  intro n
  induction n with
  | zero =>
    intro x y
    constructor
    · rintro ⟨z, h, rfl⟩; exact ⟨x, rfl, h⟩
    · rintro ⟨z, rfl, h⟩; exact ⟨y, h, rfl⟩
  | succ n ih =>
    intro x y
    constructor
    · rintro ⟨z, h, g⟩
      obtain ⟨w, g1, g2⟩ := ih.mp g
      exact ⟨w, ⟨z, h, g1⟩, g2⟩
    · rintro ⟨w, ⟨z, h, g1⟩, g2⟩
      exact ⟨z, h, ih.mpr ⟨w, g1, g2⟩⟩
theorem Wk_app {r : Nat} {M : Nat → Nat → Bool} : ∀ {m n x y z : Nat}, Wk r M m x y → Wk r M n y z → Wk r M (m + n) x z := by
  intro m
  induction m with
  | zero =>
    intro n x y z h g
    rw [show 0 + n = n from Nat.zero_add n]
    have e : x = y := h
    rw [e]; exact g
  | succ m ih =>
    rintro n x y z ⟨w, h1, h2⟩ g
    rw [show m + 1 + n = (m + n) + 1 from by omega]
    exact ⟨w, h1, ih h2 g⟩
theorem Wk_lt {r : Nat} {M : Nat → Nat → Bool} (hM : ∀ i j, i < r → M i j = true → j < r) : ∀ {n x y : Nat}, Wk r M n x y → x < r → y < r := by
  intro n
  induction n with
  | zero => intro x y h hx; have e : x = y := h; rw [← e]; exact hx
  | succ n ih =>
    rintro x y ⟨z, h1, h2⟩ hx
    exact ih h2 (hM x z h1.1 h1.2)
theorem one_bit {i : Nat} (hi : i < 64) (j : Nat) : bitL ((1 : Int64) <<< ((nI i).toInt64 &&& 63)) j = true ↔ j = i := by
  rcases Nat.lt_or_ge j 64 with q | q
  · rw [bit_one i j hi q, decide_eq_true_eq]
  · rw [bit_hi _ _ q]
    constructor
    · intro h; cases h
    · intro h; omega
theorem or_any (x y : Int64) (j : Nat) : bitL (x ||| y) j = true ↔ (bitL x j = true ∨ bitL y j = true) := by
  rw [bit_or, Bool.or_eq_true]
theorem cls_onby {r : Nat} {leans : Nat → Int64} {p : Int64} {Q : Int64 → Prop} (hr : r ≤ 50) (hQ : ∀ y, (∀ z, bitL y z = true ↔ ∃ x, bitL p x = true ∧ x < r ∧ Mx leans x z = true) → Q y) : wp_X2_leanedOnBy p (nI r) leans Q := by
  unfold wp_X2_leanedOnBy
  refine meas2 (F := wl_X2_leanedOnBy_5 p (nI r) leans Q) (fun y v => ∃ k, k ≤ r ∧ v = nI k ∧ ∀ z, bitL y z = true ↔ ∃ x, bitL p x = true ∧ x < k ∧ Mx leans x z = true) (fun _ v => r - v.toNatClampNeg) ?_ _ _ ⟨0, by omega, rfl, fun z => ⟨fun h => absurd h (by rw [bit_0]; decide), fun ⟨x, _, h, _⟩ => by omega⟩⟩
  rintro y v ⟨k, hk, rfl, hy⟩ m ih
  rw [wl_X2_leanedOnBy_5]
  by_cases w : k = r
  · subst w
    simp (disch := omega) only [wb_X2_leanedOnBy_5, nI_natle, Nat.le_refl, not_true_eq_false, not_false_eq_true, forall_const, true_implies, false_implies, implies_true, and_true, true_and, and_false, false_and, or_true, true_or, or_false, false_or, forall_eq, ↓reduceIte, ne_eq, nI1ne, nI0eq, Classical.not_not, eq_self, reduceCtorEq]
    exact hQ y hy
  · have mu : r - (nI (k + 1)).toNatClampNeg < r - (nI k).toNatClampNeg := by rw [nI_clamp (by omega), nI_clamp (by omega)]; omega
    simp (disch := omega) only [wb_X2_leanedOnBy_5, nI_natle, show ¬ r ≤ k from by omega, vpin, nI_clamp, hasBit, nB0, nI_add, not_true_eq_false, not_false_eq_true, forall_const, true_implies, false_implies, implies_true, and_true, true_and, and_false, false_and, or_true, true_or, or_false, false_or, forall_eq, ↓reduceIte, ne_eq, nI1ne, nI0eq, Classical.not_not, eq_self, reduceCtorEq]
    refine ih _ _ ⟨k + 1, by omega, rfl, fun z => ?_⟩ mu
    cases b : bitL p k
    · rw [if_pos rfl, hy]
      constructor
      · rintro ⟨x, h1, h2, h3⟩; exact ⟨x, h1, by omega, h3⟩
      · rintro ⟨x, h1, h2, h3⟩
        refine ⟨x, h1, ?_, h3⟩
        by_cases e : x = k
        · rw [e, b] at h1; cases h1
        · omega
    · rw [if_neg (by decide), or_any, hy]
      constructor
      · rintro (⟨x, h1, h2, h3⟩ | h)
        · exact ⟨x, h1, by omega, h3⟩
        · exact ⟨k, b, by omega, h⟩
      · rintro ⟨x, h1, h2, h3⟩
        by_cases e : x = k
        · rw [e] at h3; exact Or.inr h3
        · exact Or.inl ⟨x, h1, by omega, h3⟩
theorem cls_donby {r : Nat} {leans : Nat → Int64} {p : Int64} {Q : Int64 → Prop} (hr : r ≤ 50) (hQ : ∀ y, (∀ i, bitL y i = true ↔ i < r ∧ ∃ z, Mx leans i z = true ∧ bitL p z = true) → Q y) : wp_X2_directlyLeaningOn p (nI r) leans Q := by
  unfold wp_X2_directlyLeaningOn
  refine meas2 (F := wl_X2_directlyLeaningOn_5 p (nI r) leans Q) (fun y v => ∃ k, k ≤ r ∧ v = nI k ∧ ∀ i, bitL y i = true ↔ i < k ∧ ∃ z, Mx leans i z = true ∧ bitL p z = true) (fun _ v => r - v.toNatClampNeg) ?_ _ _ ⟨0, by omega, rfl, fun z => ⟨fun h => absurd h (by rw [bit_0]; decide), fun h => absurd h.1 (by omega)⟩⟩
  rintro y v ⟨k, hk, rfl, hy⟩ m ih
  rw [wl_X2_directlyLeaningOn_5]
  by_cases w : k = r
  · subst w
    simp (disch := omega) only [wb_X2_directlyLeaningOn_5, nI_natle, Nat.le_refl, not_true_eq_false, not_false_eq_true, forall_const, true_implies, false_implies, implies_true, and_true, true_and, and_false, false_and, or_true, true_or, or_false, false_or, forall_eq, ↓reduceIte, ne_eq, nI1ne, nI0eq, Classical.not_not, eq_self, reduceCtorEq]
    exact hQ y hy
  · have mu : r - (nI (k + 1)).toNatClampNeg < r - (nI k).toNatClampNeg := by rw [nI_clamp (by omega), nI_clamp (by omega)]; omega
    simp (disch := omega) only [wb_X2_directlyLeaningOn_5, nI_natle, show ¬ r ≤ k from by omega, vpin, nI_clamp, cmp0, nI_add, not_true_eq_false, not_false_eq_true, forall_const, true_implies, false_implies, implies_true, and_true, true_and, and_false, false_and, or_true, true_or, or_false, false_or, forall_eq, ↓reduceIte, ne_eq, nI1ne, nI0eq, Classical.not_not, eq_self, reduceCtorEq]
    refine ih _ _ ⟨k + 1, by omega, rfl, fun i => ?_⟩ mu
    by_cases b : (leans k &&& p) = 0
    · rw [if_pos b, hy]
      constructor
      · rintro ⟨h1, h2⟩; exact ⟨by omega, h2⟩
      · rintro ⟨h1, z, h2, h3⟩
        refine ⟨?_, z, h2, h3⟩
        by_cases e : i = k
        · rw [e] at h2; exact (and_0 b z h2 h3).elim
        · omega
    · rw [if_neg b, or_bit (by omega), hy]
      constructor
      · rintro (⟨h1, h2⟩ | rfl)
        · exact ⟨by omega, h2⟩
        · obtain ⟨z, -, h1, h2⟩ := and_ne b
          exact ⟨by omega, z, h1, h2⟩
      · rintro ⟨h1, h2⟩
        by_cases e : i = k
        · exact Or.inr e
        · exact Or.inl ⟨by omega, h2⟩
/-- a layer that is empty ends the walks -/
theorem Wk_short {r : Nat} {M : Nat → Nat → Bool} {i k : Nat} (h : ∀ z, Wk r M k i z → ∃ j, 0 < j ∧ j < k ∧ Wk r M j i z) : ∀ m, 0 < m → ∀ z, Wk r M m i z → ∃ j, 0 < j ∧ j < k ∧ Wk r M j i z := by
  intro m
  induction m with
  | zero => intro h; omega
  | succ m ih =>
    intro _ z hz
    by_cases e : m + 1 < k
    · exact ⟨m + 1, by omega, e, hz⟩
    · by_cases e2 : m + 1 = k
      · rw [e2] at hz; exact h z hz
      · obtain ⟨x, h1, h2⟩ := Wk_back.mp hz
        by_cases m0 : m = 0
        · subst m0
          have : k = 0 := by omega
          subst this
          obtain ⟨j, h1, h2, -⟩ := h i rfl
          omega
        · obtain ⟨j, j1, j2, j3⟩ := ih (by omega) x h1
          have := Wk_back.mpr ⟨x, j3, h2⟩
          by_cases e3 : j + 1 < k
          · exact ⟨j + 1, by omega, e3, this⟩
          · rw [show j + 1 = k from by omega] at this
            exact h z this
theorem cls_round {r i : Nat} {leans : Nat → Int64} {Q : Int32 → Prop} (hr : r ≤ 50) (hi : i < r) (hM : ∀ i j, i < r → Mx leans i j = true → j < r) (h0 : (∀ n, 0 < n → ¬ Wk r (Mx leans) n i i) → Q (nI 0)) (h1 : ∀ n, 0 < n → n ≤ 50 → Wk r (Mx leans) n i i → (∀ m, 0 < m → m < n → ¬ Wk r (Mx leans) m i i) → Q (nI n)) : wp_X2_roundFrom (nI i) (nI r) leans Q := by
  unfold wp_X2_roundFrom
  refine meas3 (F := wl_X2_roundFrom_10 (nI i) (nI r) leans Q) (fun v2 v4 v6 => ∃ k, k ≤ 50 ∧ v6 = nI (k + 1) ∧ (∀ z, bitL v4 z = true ↔ Wk r (Mx leans) k i z ∧ ∀ j, 0 < j → j < k → ¬ Wk r (Mx leans) j i z) ∧ (∀ z, bitL v2 z = true ↔ ∃ j, 0 < j ∧ j ≤ k ∧ Wk r (Mx leans) j i z) ∧ (∀ j, 0 < j → j ≤ k → ¬ Wk r (Mx leans) j i i) ∧ (v4 = 0 ∨ unfN r (bitL v2) + k ≤ r)) (fun _ _ v6 => 60 - v6.toNatClampNeg) ?_ _ _ _ ⟨0, by omega, rfl, fun z => ?_, fun z => ⟨fun h => absurd h (by rw [bit_0]; decide), fun ⟨j, h1, h2, _⟩ => by omega⟩, fun j h1 h2 => by omega, Or.inr (by have := unf_r (bitL 0) r; omega)⟩
  · rintro v2 v4 v6 ⟨k, hk, rfl, i1, i2, i3, i4⟩ m ih
    rw [wl_X2_roundFrom_10]
    unfold wb_X2_roundFrom_10
    rw [nI_natlt (by omega) (by omega)]
    refine ⟨?_, fun g => ?_⟩
    · rintro ⟨g1, g2⟩
      have hv4 : ¬ v4 = 0 := fun z => g2 ((cmp0 v4).mpr z)
      have cnt : unfN r (bitL v2) + k ≤ r := i4.elim (fun z => absurd z hv4) id
      refine cls_onby hr (fun y hy => ?_)
      have nb : ∀ z, bitL (y &&& (v2 ^^^ (-1))) z = true ↔ Wk r (Mx leans) (k + 1) i z ∧ ∀ j, 0 < j → j < k + 1 → ¬ Wk r (Mx leans) j i z := by
        intro z
        rw [bit_and_not, hy, i2]
        constructor
        · rintro ⟨⟨x, x1, x2, x3⟩, h2⟩
          exact ⟨Wk_back.mpr ⟨x, ((i1 x).mp x1).1, x2, x3⟩, fun j j1 j2 j3 => h2 ⟨j, j1, by omega, j3⟩⟩
        · rintro ⟨h1, h2⟩
          obtain ⟨x, x1, x2, x3⟩ := Wk_back.mp h1
          refine ⟨⟨x, (i1 x).mpr ⟨x1, fun j j1 j2 j3 => ?_⟩, x2, x3⟩, fun ⟨j, j1, j2, j3⟩ => h2 j j1 (by omega) j3⟩
          exact h2 (j + 1) (by omega) (by omega) (Wk_back.mpr ⟨x, j3, x2, x3⟩)
      rw [hasBit _ i (by omega), nB0]
      refine ⟨fun hb x hx => ?_, fun hb => ?_⟩
      · rw [hx, nI_add]
        have nw : ¬ Wk r (Mx leans) (k + 1) i i := by
          intro z
          have := (nb i).mpr ⟨z, fun j j1 j2 => i3 j j1 (by omega)⟩
          rw [hb] at this
          cases this
        refine ih _ _ _ ⟨k + 1, by omega, rfl, nb, fun z => ?_, fun j j1 j2 => ?_, ?_⟩ (by rw [nI_clamp (by omega), nI_clamp (by omega)]; omega)
        · rw [or_any, i2, nb]
          constructor
          · rintro (⟨j, j1, j2, j3⟩ | ⟨j1, j2⟩)
            · exact ⟨j, j1, by omega, j3⟩
            · exact ⟨k + 1, by omega, by omega, j1⟩
          · rintro ⟨j, j1, j2, j3⟩
            by_cases e : ∃ j, 0 < j ∧ j ≤ k ∧ Wk r (Mx leans) j i z
            · exact Or.inl e
            · right
              have : j = k + 1 := by
                apply Classical.byContradiction
                intro ne
                exact e ⟨j, j1, by omega, j3⟩
              rw [this] at j3
              exact ⟨j3, fun j h1 h2 h3 => e ⟨j, h1, by omega, h3⟩⟩
        · by_cases e : j = k + 1
          · rw [e]; exact nw
          · exact i3 j j1 (by omega)
        · by_cases e : (y &&& (v2 ^^^ (-1))) = 0
          · exact Or.inl e
          · right
            have : ∃ z, bitL (y &&& (v2 ^^^ (-1))) z = true := by
              apply Classical.byContradiction
              intro g
              apply e
              refine bit_ext (fun z _ => ?_)
              rw [bit_0]
              exact Bool.eq_false_iff.mpr (fun h => g ⟨z, h⟩)
            obtain ⟨z, hz⟩ := this
            have hzr : z < r := Wk_lt hM ((nb z).mp hz).1 hi
            have hz2 : bitL v2 z = false := Bool.eq_false_iff.mpr ((bit_and_not z).mp hz).2
            have := unf_lt (f := bitL v2) (g := bitL (v2 ||| (y &&& (v2 ^^^ (-1))))) r (fun a _ ha => (or_any _ _ a).mpr (Or.inl ha)) ⟨z, hzr, hz2, (or_any _ _ z).mpr (Or.inr hz)⟩
            omega
      · have hb2 : bitL (y &&& (v2 ^^^ (-1))) i = true := by
          cases h : bitL (y &&& (v2 ^^^ (-1))) i
          · exact absurd h hb
          · rfl
        obtain ⟨z1, z2⟩ := (nb i).mp hb2
        exact h1 (k + 1) (by omega) (by omega) z1 z2
    · by_cases hv4 : v4 = 0
      · refine h0 (fun n hn hw => ?_)
        have emp : ∀ z, Wk r (Mx leans) k i z → ∃ j, 0 < j ∧ j < k ∧ Wk r (Mx leans) j i z := by
          intro z hz
          apply Classical.byContradiction
          intro g
          have := (i1 z).mpr ⟨hz, fun j h1 h2 h3 => g ⟨j, h1, h2, h3⟩⟩
          rw [hv4, bit_0] at this
          cases this
        obtain ⟨j, j1, j2, j3⟩ := Wk_short emp n hn i hw
        exact i3 j j1 (by omega) j3
      · have cnt : unfN r (bitL v2) + k ≤ r := i4.elim (fun z => absurd z hv4) id
        have k50 : k = 50 := by
          apply Classical.byContradiction
          intro ne
          exact g ⟨by omega, fun z => hv4 ((cmp0 v4).mp z)⟩
        have := unf_0 r (f := bitL v2) (by omega) i hi
        obtain ⟨j, j1, j2, j3⟩ := (i2 i).mp this
        exact absurd j3 (i3 j j1 j2)
  · rw [one_bit (by omega)]
    constructor
    · intro h; exact ⟨h.symm, fun j h1 h2 => by omega⟩
    · rintro ⟨h, -⟩; exact Eq.symm h
theorem bit_nat (x : Int64) (j : Nat) : bitL x j = x.toBitVec.toNat.testBit j := rfl
theorem least_bits {n k : Nat} (h1 : n.testBit k = true) (h2 : ∀ j, j < k → n.testBit j = false) (j : Nat) : ((n - 1).testBit j = true ∧ n.testBit j = false) ↔ j < k := by
  have e0 : n % 2 ^ k = 0 := by
    apply Nat.eq_of_testBit_eq
    intro i
    rw [Nat.testBit_mod_two_pow, Nat.zero_testBit]
    by_cases hi : i < k
    · rw [h2 i hi, Bool.and_false]
    · rw [decide_eq_false hi, Bool.false_and]
  have e1 : n = 2 ^ k * (n / 2 ^ k) := by
    have := Nat.div_add_mod n (2 ^ k)
    omega
  have e2 : (n / 2 ^ k) % 2 = 1 := by
    have : (n / 2 ^ k).testBit 0 = true := by rw [Nat.testBit_div_two_pow, Nat.zero_add]; exact h1
    rw [Nat.testBit_zero, decide_eq_true_eq] at this
    exact this
  have hp : 0 < 2 ^ k := Nat.two_pow_pos k
  obtain ⟨m, hm⟩ : ∃ m, n / 2 ^ k = 2 * m + 1 := ⟨(n / 2 ^ k) / 2, by omega⟩
  have e3 : n = 2 ^ k * (2 * m + 1) + 0 := by rw [← hm]; omega
  have e4 : n - 1 = 2 ^ k * (2 * m) + (2 ^ k - 1) := by
    rw [e3, Nat.mul_add, Nat.mul_one]
    omega
  rw [e4, Nat.testBit_two_pow_mul_add _ (by omega)]
  have e5 : n.testBit j = if j < k then false else (2 * m + 1).testBit (j - k) := by
    rw [e3, Nat.testBit_two_pow_mul_add _ hp]
    simp only [Nat.zero_testBit]
  rw [e5]
  by_cases hj : j < k
  · rw [if_pos hj, if_pos hj, Nat.testBit_two_pow_sub_one, decide_eq_true hj]
    exact ⟨fun _ => hj, fun _ => ⟨rfl, rfl⟩⟩
  · rw [if_neg hj, if_neg hj]
    constructor
    · rintro ⟨a, b⟩
      exfalso
      cases hd : j - k with
      | zero =>
        rw [hd, Nat.testBit_zero, decide_eq_true_eq] at a
        omega
      | succ d =>
        rw [hd, Nat.testBit_succ] at a b
        rw [show 2 * m / 2 = m from by omega] at a
        rw [show (2 * m + 1) / 2 = m from by omega, a] at b
        cases b
    · intro h; exact absurd h hj
theorem pop_below (k : Nat) : ∀ n, k ≤ n → popS (fun i => if i < k then 1 else 0) n = k := by
  intro n
  induction n with
  | zero => intro h; have : k = 0 := by omega
            rw [this]; rfl
  | succ n ih =>
    intro h
    show popS (fun i => if i < k then 1 else 0) n + (if n < k then 1 else 0) = k
    by_cases e : k ≤ n
    · rw [ih e, if_neg (by omega)]; rfl
    · have : k = n + 1 := by omega
      subst this
      rw [if_pos (by omega)]
      have : popS (fun i => if i < n + 1 then 1 else 0) n = popS (fun i => if i < n then 1 else 0) n := popS_congr n (fun i hi => by rw [if_pos (by omega), if_pos hi])
      rw [this]
      have : ∀ m, m ≤ n → popS (fun i => if i < n then 1 else 0) m = m := by
        intro m
        induction m with
        | zero => intro _; rfl
        | succ m ih2 =>
          intro hm
          show popS (fun i => if i < n then 1 else 0) m + (if m < n then 1 else 0) = m + 1
          rw [ih2 (by omega), if_pos (by omega)]
      rw [this n (Nat.le_refl n)]
theorem leastBit_eq {x : Int64} {k : Nat} (hk : k < 64) (h1 : bitL x k = true) (h2 : ∀ j, j < k → bitL x j = false) : f_X11_leastBit x = nI k := by
  unfold f_X11_leastBit
  rw [bc64]
  have hn : x.toBitVec.toNat ≠ 0 := by
    intro z
    rw [bit_nat, z, Nat.zero_testBit] at h1
    cases h1
  have hs : (x - 1).toBitVec.toNat = x.toBitVec.toNat - 1 := by
    have e1 : (1 : Int64).toBitVec.toNat = 1 := by decide
    rw [n_sub (by rw [e1]; omega), e1]
  have : ∀ i, i < 64 → (if bitL ((x - 1) &&& (x ^^^ (-1))) i = true then 1 else 0) = (if i < k then 1 else 0) := by
    intro i hi
    have f : bitL ((x - 1) &&& (x ^^^ (-1))) i = true ↔ i < k := by
      rw [bit_and_not, ← least_bits (n := x.toBitVec.toNat) (k := k) h1 h2 i, bit_nat (x - 1), hs, bit_nat x]
      constructor
      · rintro ⟨a, b⟩; exact ⟨a, Bool.eq_false_iff.mpr b⟩
      · rintro ⟨a, b⟩; exact ⟨a, Bool.eq_false_iff.mp b⟩
    by_cases e : i < k
    · rw [if_pos (f.mpr e), if_pos e]
    · rw [if_neg (fun z => e (f.mp z)), if_neg e]
  rw [popS_congr 64 this, pop_below k 64 (by omega)]
theorem bit_least {x : Int64} (h : ¬ x = 0) : ∃ k, k < 64 ∧ bitL x k = true ∧ ∀ j, j < k → bitL x j = false := by
  have g : ∃ k, bitL x k = true := by
    apply Classical.byContradiction
    intro g
    apply h
    refine bit_ext (fun i _ => ?_)
    rw [bit_0]
    exact Bool.eq_false_iff.mpr (fun z => g ⟨i, z⟩)
  obtain ⟨k, hk⟩ := g
  have : ∀ n, (∃ k, k < n ∧ bitL x k = true) → ∃ k, k < n ∧ bitL x k = true ∧ ∀ j, j < k → bitL x j = false := by
    intro n
    induction n with
    | zero => rintro ⟨k, hk, _⟩; omega
    | succ n ih =>
      rintro ⟨k, hk, hb⟩
      by_cases e : ∃ k, k < n ∧ bitL x k = true
      · obtain ⟨k, h1, h2⟩ := ih e
        exact ⟨k, by omega, h2⟩
      · refine ⟨k, hk, hb, fun j hj => Bool.eq_false_iff.mpr (fun z => e ⟨j, by omega, z⟩)⟩
  obtain ⟨j, h1, h2, h3⟩ := this (k + 1) ⟨k, by omega, hk⟩
  refine ⟨j, ?_, h2, h3⟩
  apply Classical.byContradiction
  intro q
  rw [bit_hi x j (by omega)] at h2
  cases h2
theorem cls_onward {r x f l : Nat} {leans : Nat → Int64} {Q : Int32 → Prop} (hr : r ≤ 50) (hx : x < r) (hf : f < r) (hl : l ≤ 50) (hM : ∀ i j, i < r → Mx leans i j = true → j < r) (h0 : (∀ b, ¬ (Mx leans x b = true ∧ Wk r (Mx leans) l b f)) → Q (nI f)) (h1 : ∀ b, Mx leans x b = true → Wk r (Mx leans) l b f → (∀ c, c < b → ¬ (Mx leans x c = true ∧ Wk r (Mx leans) l c f)) → Q (nI b)) : wp_X2_leastOnward (nI x) (nI f) (nI l) (nI r) leans Q := by
  unfold wp_X2_leastOnward
  refine meas2 (F := wl_X2_leastOnward_8 (nI x) (nI f) (nI l) (nI r) leans Q) (fun y v => ∃ k, k ≤ l ∧ v = nI k ∧ ∀ z, bitL y z = true ↔ Wk r (Mx leans) k z f) (fun _ v => l - v.toNatClampNeg) ?_ _ _ ⟨0, by omega, rfl, fun z => by rw [one_bit (by omega)]; exact Iff.rfl⟩
  rintro y v ⟨k, hk, rfl, hy⟩ m ih
  rw [wl_X2_leastOnward_8]
  unfold wb_X2_leastOnward_8
  rw [nI_natle (by omega) (by omega)]
  refine ⟨fun w => ⟨vp_in_nI (by omega) (by omega), fun u hu y0 hy0 => ?_⟩, fun w => cls_donby hr (fun y' hy' => ?_)⟩
  · have e : k = l := by omega
    subst e
    rw [nI_clamp (by omega)] at hu
    have hb : ∀ b, bitL u b = true ↔ Mx leans x b = true ∧ Wk r (Mx leans) k b f := by
      intro b
      rw [hu, bit_and, Bool.and_eq_true, hy]
      exact Iff.rfl
    by_cases z : u = 0
    · rw [hy0, if_pos ((cmp0 u).mpr z)]
      refine h0 (fun b hb2 => ?_)
      have := (hb b).mpr hb2
      rw [z, bit_0] at this
      cases this
    · obtain ⟨b, b1, b2, b3⟩ := bit_least z
      rw [hy0, if_neg (fun q => z ((cmp0 u).mp q)), leastBit_eq b1 b2 b3]
      obtain ⟨b4, b5⟩ := (hb b).mp b2
      refine h1 b b4 b5 (fun c hc hz => ?_)
      have := (hb c).mpr hz
      rw [b3 c hc] at this
      cases this
  · rw [nI_add]
    refine ih _ _ ⟨k + 1, by omega, rfl, fun z => ?_⟩ (by rw [nI_clamp (by omega), nI_clamp (by omega)]; omega)
    rw [hy']
    constructor
    · rintro ⟨h1, w, h2, h3⟩
      exact ⟨w, ⟨h1, h2⟩, (hy w).mp h3⟩
    · rintro ⟨w, ⟨h1, h2⟩, h3⟩
      exact ⟨h1, w, h2, (hy w).mpr h3⟩
/-- a row: each the least one that leads home in as many leans as are left -/
def rowS (r : Nat) (M : Nat → Nat → Bool) (g st : Nat) (ρ : Nat → Nat) : Prop := ρ 0 = st ∧ ∀ j, j < g → M (ρ j) (ρ (j + 1)) = true ∧ Wk r M (g - j - 1) (ρ (j + 1)) st ∧ ∀ b, b < ρ (j + 1) → ¬ (M (ρ j) b = true ∧ Wk r M (g - j - 1) b st)
/-- the length of the least ring and the one at which it begins -/
def ringS (r : Nat) (M : Nat → Nat → Bool) (g st : Nat) : Prop := 0 < g ∧ g ≤ 50 ∧ st < r ∧ Wk r M g st st ∧ (∀ i, i < r → ∀ n, 0 < n → Wk r M n i i → g ≤ n) ∧ ∀ i, i < st → ¬ Wk r M g i i
theorem le_0 {n : Nat} (h : n < 2 ^ 31) : (nI n ≤ 0) = (n = 0) := by
  rw [← nI_0, nI_natle h (by omega)]
  exact propext ⟨fun h => by omega, fun h => by omega⟩
theorem cls_ring {r : Nat} {leans : Nat → Int64} {row : Nat → Int32} {Q : Int32 → (Nat → Int32) → Prop} (hr : r ≤ 50) (hM : ∀ i j, i < r → Mx leans i j = true → j < r) (q0 : (∀ i, i < r → ∀ n, 0 < n → ¬ Wk r (Mx leans) n i i) → Q (nI 0) row) (q1 : ∀ g st ρ row', ringS r (Mx leans) g st → rowS r (Mx leans) g st ρ → (∀ j, j < g → row' j = nI (ρ j)) → Q (nI g) row') : wp_X2_findRing row (nI r) leans Q := by
  unfold wp_X2_findRing
  refine meas3 (F := wl_X2_findRing_7 row (nI r) leans Q) (fun v2 v3 v4 => ∃ k, k ≤ r ∧ v4 = nI k ∧ ((v2 = nI 0 ∧ v3 = nI 0 ∧ ∀ i, i < k → ∀ n, 0 < n → ¬ Wk r (Mx leans) n i i) ∨ ∃ g st, v2 = nI g ∧ v3 = nI st ∧ 0 < g ∧ g ≤ 50 ∧ st < k ∧ Wk r (Mx leans) g st st ∧ (∀ i, i < k → ∀ n, 0 < n → Wk r (Mx leans) n i i → g ≤ n) ∧ ∀ i, i < st → ¬ Wk r (Mx leans) g i i)) (fun _ _ v4 => r - v4.toNatClampNeg) ?_ _ _ _ ⟨0, by omega, rfl, Or.inl ⟨rfl, rfl, fun i hi => by omega⟩⟩
  rintro v2 v3 v4 ⟨k, hk, rfl, hJ⟩ m ih
  rw [wl_X2_findRing_7]
  unfold wb_X2_findRing_7
  rw [nI_natle (by omega) (by omega)]
  refine ⟨fun w => ?_, fun w => ?_⟩
  · have e : k = r := by omega
    subst e
    rcases hJ with ⟨rfl, rfl, hn⟩ | ⟨g, st, rfl, rfl, g0, g50, hst, h1, h2, h3⟩
    · refine ⟨1, ?_⟩
      rw [wl_X2_findRing_57]
      unfold wb_X2_findRing_57
      exact ⟨fun z => absurd (by rw [nI_natle (by omega) (by omega)]; exact Nat.le_refl 0) z.1, fun _ => q0 hn⟩
    · refine meas3 (F := wl_X2_findRing_57 (nI k) leans Q (nI g) (nI st)) (fun v4 v5 row' => ∃ i ρ, i ≤ g ∧ v5 = nI i ∧ v4 = nI (ρ i) ∧ ρ i < k ∧ ρ 0 = st ∧ (∀ j, j < i → Mx leans (ρ j) (ρ (j + 1)) = true ∧ Wk k (Mx leans) (g - j - 1) (ρ (j + 1)) st ∧ ∀ b, b < ρ (j + 1) → ¬ (Mx leans (ρ j) b = true ∧ Wk k (Mx leans) (g - j - 1) b st)) ∧ Wk k (Mx leans) (g - i) (ρ i) st ∧ ∀ j, j < i → row' j = nI (ρ j)) (fun _ v5 _ => g - v5.toNatClampNeg) ?_ _ _ _ ⟨0, fun _ => st, by omega, rfl, rfl, hst, rfl, fun j hj => by omega, h1, fun j hj => by omega⟩
      rintro v4 v5 row' ⟨i, ρ, hi, rfl, rfl, hρ, r0, r1, r2, r3⟩ m2 ih2
      rw [wl_X2_findRing_57]
      unfold wb_X2_findRing_57
      rw [nI_natle (by omega) (by omega), nI_natle (by omega) (by omega)]
      refine ⟨fun w => ⟨vp_in_nI (by omega) (by omega), ?_⟩, fun w => ?_⟩
      · have gi : g - i = (g - i - 1) + 1 := by omega
        rw [nI_subL (by omega), nI_subL (by omega), nI_clamp (by omega), nI_add]
        have step : ∀ b row'', b < k → Mx leans (ρ i) b = true → Wk k (Mx leans) (g - i - 1) b st → (∀ c, c < b → ¬ (Mx leans (ρ i) c = true ∧ Wk k (Mx leans) (g - i - 1) c st)) → (∀ j, j < i + 1 → row'' j = nI (ρ j)) → wl_X2_findRing_57 (nI k) leans Q (nI g) (nI st) m2 (nI b) (nI (i + 1)) row'' := by
          intro b row'' hb b1 b2 b3 b4
          have pe : ∀ j, j ≤ i → va_up ρ (i + 1) b j = ρ j := fun j hj => upene (by omega)
          refine ih2 _ _ _ ⟨i + 1, va_up ρ (i + 1) b, by omega, rfl, by rw [upee], by rw [upee]; exact hb, by rw [pe 0 (by omega)]; exact r0, fun j hj => ?_, ?_, fun j hj => by rw [pe j (by omega)]; exact b4 j hj⟩ (by rw [nI_clamp (by omega), nI_clamp (by omega)]; omega)
          · by_cases e : j = i
            · subst e
              rw [pe j (Nat.le_refl j), upee]
              exact ⟨b1, b2, b3⟩
            · rw [pe j (by omega), pe (j + 1) (by omega)]
              exact r1 j (by omega)
          · rw [upee, show g - (i + 1) = g - i - 1 from by omega]; exact b2
        rw [gi] at r2
        obtain ⟨z, ⟨z1, z2⟩, z3⟩ := r2
        refine cls_onward hr hρ hst (by omega) hM (fun hn => absurd ⟨z2, z3⟩ (hn z)) (fun b b1 b2 b3 => step b _ (hM _ _ hρ b1) b1 b2 b3 (fun j hj => ?_))
        by_cases e : j = i
        · subst e; rw [upde]
        · rw [updne e]; exact r3 j (by omega)
      · have e : i = g := by omega
        subst e
        exact q1 i st ρ row' ⟨g0, g50, hst, h1, h2, h3⟩ ⟨r0, r1⟩ r3
  · have mu : r - (nI (k + 1)).toNatClampNeg < r - (nI k).toNatClampNeg := by rw [nI_clamp (by omega), nI_clamp (by omega)]; omega
    refine cls_round hr (by omega) hM (fun hn x2 hx2 x3 hx3 => ?_) (fun n n0 n50 hn hmin x2 hx2 x3 hx3 => ?_)
    · rw [if_pos (of_eq_true le00)] at hx2 hx3
      rw [hx2, hx3, nI_add]
      refine ih _ _ _ ⟨k + 1, by omega, rfl, ?_⟩ mu
      rcases hJ with ⟨rfl, rfl, h⟩ | ⟨g, st, rfl, rfl, g0, g50, hst, h1, h2, h3⟩
      · refine Or.inl ⟨rfl, rfl, fun i hi => ?_⟩
        by_cases e : i = k
        · rw [e]; exact hn
        · exact h i (by omega)
      · refine Or.inr ⟨g, st, rfl, rfl, g0, g50, by omega, h1, fun i hi n n0 hw => ?_, h3⟩
        by_cases e : i = k
        · rw [e] at hw; exact absurd hw (hn n n0)
        · exact h2 i (by omega) n n0 hw
    · have nz : ¬ nI n ≤ 0 := nI_nle n0 (by omega)
      rw [if_neg nz] at hx2 hx3
      rw [nI_add]
      have least : ∀ q, 0 < q → Wk r (Mx leans) q k k → n ≤ q := by
        intro q q0 hq
        apply Classical.byContradiction
        intro z
        exact hmin q q0 (by omega) hq
      rcases hJ with ⟨rfl, rfl, h⟩ | ⟨g, st, rfl, rfl, g0, g50, hst, h1, h2, h3⟩
      · rw [if_pos (of_eq_true nI0eq)] at hx2 hx3
        rw [hx2, hx3]
        refine ih _ _ _ ⟨k + 1, by omega, rfl, Or.inr ⟨n, k, rfl, rfl, n0, n50, by omega, hn, fun i hi q q0 hw => ?_, fun i hi hw => h i hi n n0 hw⟩⟩ mu
        by_cases e : i = k
        · rw [e] at hw; exact least q q0 hw
        · exact absurd hw (h i (by omega) q q0)
      · rw [if_neg (nI_ne0 g0 (by omega))] at hx2 hx3
        have cN : (nI g ≤ nI n) = (g ≤ n) := nI_natle (by omega) (by omega)
        by_cases c : nI g ≤ nI n
        · have c2 : g ≤ n := cN ▸ c
          rw [if_pos c] at hx2 hx3
          rw [hx2, hx3]
          refine ih _ _ _ ⟨k + 1, by omega, rfl, Or.inr ⟨g, st, rfl, rfl, g0, g50, by omega, h1, fun i hi q q0 hw => ?_, h3⟩⟩ mu
          by_cases e : i = k
          · rw [e] at hw; have := least q q0 hw; omega
          · exact h2 i (by omega) q q0 hw
        · have c2 : ¬ g ≤ n := cN ▸ c
          rw [if_neg c] at hx2 hx3
          rw [hx2, hx3]
          refine ih _ _ _ ⟨k + 1, by omega, rfl, Or.inr ⟨n, k, rfl, rfl, n0, n50, by omega, hn, fun i hi q q0 hw => ?_, fun i hi hw => ?_⟩⟩ mu
          · by_cases e : i = k
            · rw [e] at hw; exact least q q0 hw
            · have := h2 i (by omega) q q0 hw; omega
          · have := h2 i hi n n0 hw; omega
