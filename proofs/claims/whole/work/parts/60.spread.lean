/-- all that leans, through whatever lies between, on one of S -/
def Cl (r : Nat) (M : Nat → Nat → Bool) (S : Nat → Prop) (i : Nat) : Prop := ∀ P : Nat → Prop, (∀ i, S i → P i) → (∀ i j, i < r → M i j = true → P j → P i) → P i
theorem Cl_seed {r : Nat} {M : Nat → Nat → Bool} {S : Nat → Prop} {i : Nat} (h : S i) : Cl r M S i := fun _ a _ => a i h
theorem Cl_step {r : Nat} {M : Nat → Nat → Bool} {S : Nat → Prop} {i j : Nat} (hi : i < r) (hm : M i j = true) (h : Cl r M S j) : Cl r M S i := fun P a b => b i j hi hm (h P a b)
theorem Cl_mono {r : Nat} {M : Nat → Nat → Bool} {S T : Nat → Prop} (h : ∀ i, S i → T i) {i : Nat} (c : Cl r M S i) : Cl r M T i := c _ (fun _ g => Cl_seed (h _ g)) (fun _ _ a b c => Cl_step a b c)
theorem Cl_congr {r : Nat} {M : Nat → Nat → Bool} {S T : Nat → Prop} (h : ∀ i, S i ↔ T i) (i : Nat) : Cl r M S i ↔ Cl r M T i := ⟨Cl_mono (fun i => (h i).mp), Cl_mono (fun i => (h i).mpr)⟩
/-- how many are not in yet -/
def unfN (r : Nat) (f : Nat → Bool) : Nat := popS (fun i => if f i then 0 else 1) r
theorem unf_s (r : Nat) (f : Nat → Bool) : unfN (r + 1) f = unfN r f + if f r then 0 else 1 := rfl
theorem unf_le {f g : Nat → Bool} : ∀ r, (∀ i, i < r → f i = true → g i = true) → unfN r g ≤ unfN r f := by
  intro r
  induction r with
  | zero => intro _; exact Nat.le_refl _
  | succ r ih =>
    intro h
    have h1 := ih (fun i hi => h i (by omega))
    have h2 := h r (by omega)
    rw [unf_s, unf_s]
    cases hf : f r
    · simp only [Bool.false_eq_true, not_true_eq_false, not_false_eq_true, forall_const, true_implies, false_implies, implies_true, and_true, true_and, and_false, false_and, or_true, true_or, or_false, false_or, forall_eq, ↓reduceIte, ne_eq, nI1ne, nI0eq, Classical.not_not, eq_self, reduceCtorEq]; split <;> omega
    · rw [h2 hf]; simp only [not_true_eq_false, not_false_eq_true, forall_const, true_implies, false_implies, implies_true, and_true, true_and, and_false, false_and, or_true, true_or, or_false, false_or, forall_eq, ↓reduceIte, ne_eq, nI1ne, nI0eq, Classical.not_not, eq_self, reduceCtorEq]; omega
theorem unf_lt {f g : Nat → Bool} : ∀ r, (∀ i, i < r → f i = true → g i = true) → (∃ i, i < r ∧ f i = false ∧ g i = true) → unfN r g < unfN r f := by
  intro r
  induction r with
  | zero => rintro _ ⟨i, hi, -⟩; omega
  | succ r ih =>
    rintro h ⟨i, hi, h3, h4⟩
    have h1 := unf_le r (fun i hi => h i (by omega))
    have h2 := h r (by omega)
    rw [unf_s, unf_s]
    by_cases e : i = r
    · subst e
      rw [h3, h4]
      simp only [Bool.false_eq_true, not_true_eq_false, not_false_eq_true, forall_const, true_implies, false_implies, implies_true, and_true, true_and, and_false, false_and, or_true, true_or, or_false, false_or, forall_eq, ↓reduceIte, ne_eq, nI1ne, nI0eq, Classical.not_not, eq_self, reduceCtorEq]; omega
    · have := ih (fun i hi => h i (by omega)) ⟨i, by omega, h3, h4⟩
      cases hf : f r
      · simp only [Bool.false_eq_true, not_true_eq_false, not_false_eq_true, forall_const, true_implies, false_implies, implies_true, and_true, true_and, and_false, false_and, or_true, true_or, or_false, false_or, forall_eq, ↓reduceIte, ne_eq, nI1ne, nI0eq, Classical.not_not, eq_self, reduceCtorEq]; split <;> omega
      · rw [h2 hf]; simp only [not_true_eq_false, not_false_eq_true, forall_const, true_implies, false_implies, implies_true, and_true, true_and, and_false, false_and, or_true, true_or, or_false, false_or, forall_eq, ↓reduceIte, ne_eq, nI1ne, nI0eq, Classical.not_not, eq_self, reduceCtorEq]; omega
theorem unf_r (f : Nat → Bool) : ∀ r, unfN r f ≤ r := by
  intro r
  induction r with
  | zero => exact Nat.le_refl _
  | succ r ih => rw [unf_s]; split <;> omega
theorem unf_0 {f : Nat → Bool} : ∀ r, unfN r f = 0 → ∀ i, i < r → f i = true := by
  intro r
  induction r with
  | zero => intro _ i hi; omega
  | succ r ih =>
    intro h i hi
    rw [unf_s] at h
    by_cases e : i = r
    · subst e
      by_cases g : f i = true
      · exact g
      · rw [if_neg g] at h; omega
    · exact ih (by omega) i (by omega)
theorem and_ne {x y : Int64} (h : ¬ (x &&& y) = 0) : ∃ j, j < 64 ∧ bitL x j = true ∧ bitL y j = true := by
  apply Classical.byContradiction
  intro g
  apply h
  refine bit_ext (fun i hi => ?_)
  rw [bit_and, bit_0]
  cases hx : bitL x i
  · rfl
  · cases hy : bitL y i
    · rfl
    · exact absurd ⟨i, hi, hx, hy⟩ g
theorem and_0 {x y : Int64} (h : (x &&& y) = 0) (j : Nat) (hx : bitL x j = true) (hy : bitL y j = true) : False := by
  have e := bit_and x y j
  rw [h, bit_0, hx, hy] at e
  cases e
theorem or_bit {x : Int64} {i : Nat} (hi : i < 64) (j : Nat) : bitL (x ||| ((1 : Int64) <<< ((nI i).toInt64 &&& 63))) j = true ↔ (bitL x j = true ∨ j = i) := by
  rcases Nat.lt_or_ge j 64 with q | q
  · rw [bit_or, bit_one i j hi q]
    simp
  · rw [bit_hi _ _ q, bit_hi _ _ q]
    constructor
    · intro h; cases h
    · rintro (h | h)
      · cases h
      · omega
theorem cls_on {r : Nat} {leans : Nat → Int64} {p : Int64} {Q : Int64 → Prop} (hr : r ≤ 50) (hQ : ∀ y, (∀ i, bitL y i = true ↔ Cl r (fun i j => bitL (leans i) j) (fun j => bitL p j = true) i) → Q y) : wp_X2_leaningOn p (nI r) leans Q := by
  unfold wp_X2_leaningOn
  intro y0 hy0
  refine meas3 (F := wl_X2_leaningOn_18 (nI r) leans Q) (fun x c v => ∃ k, k ≤ 50 ∧ v = nI k ∧ (∀ j, bitL p j = true → bitL x j = true) ∧ (∀ j, bitL x j = true → Cl r (fun i j => bitL (leans i) j) (fun j => bitL p j = true) j) ∧ (c = 0 ∧ (∀ a, a < r → bitL x a = false → (leans a &&& x) = 0) ∨ ¬ c = 0 ∧ unfN r (bitL x) + k ≤ 50)) (fun _ _ v => 50 - v.toNatClampNeg) ?_ _ _ _ ?_
  · rintro x c v ⟨k, hk, rfl, i1, i2, i3⟩ m ih
    rw [wl_X2_leaningOn_18]
    have fin : (∀ a, a < r → bitL x a = false → (leans a &&& x) = 0) → Q x := by
      intro hc
      refine hQ x (fun i => ⟨i2 i, fun h => ?_⟩)
      refine h (fun j => bitL x j = true) i1 (fun a b h1 h2 h3 => ?_)
      by_cases g : bitL x a = true
      · exact g
      · exact (and_0 (hc a h1 (Bool.eq_false_iff.mpr g)) b h2 h3).elim
    unfold wb_X2_leaningOn_18
    refine ⟨?_, fun g => ?_⟩
    · rintro ⟨g1, g2⟩
      rw [nI_natle (by omega) (by omega)] at g1
      have hu : unfN r (bitL x) + k ≤ 50 := by
        rcases i3 with ⟨z, -⟩ | ⟨-, z⟩
        · exact absurd z g2
        · exact z
      refine meas3 (F := wl_X2_leaningOn_36 (nI r) leans (nI k) _) (fun y c v => ∃ i, i ≤ r ∧ v = nI i ∧ (∀ j, bitL x j = true → bitL y j = true) ∧ (∀ j, bitL y j = true → Cl r (fun i j => bitL (leans i) j) (fun j => bitL p j = true) j) ∧ (c = nI 0 ∧ y = x ∧ (∀ a, a < i → bitL x a = false → (leans a &&& x) = 0) ∨ c = nI 1 ∧ unfN r (bitL y) < unfN r (bitL x))) (fun _ _ v => r - v.toNatClampNeg) ?_ _ _ _ ⟨0, by omega, rfl, fun _ h => h, i2, Or.inl ⟨rfl, rfl, fun a ha => by omega⟩⟩
      rintro y c2 v ⟨i, hi, rfl, j1, j2, j3⟩ m2 ih2
      rw [wl_X2_leaningOn_36]
      by_cases q : i = r
      · subst q
        simp (disch := omega) only [wb_X2_leaningOn_36, nI_natle, Nat.le_refl, nI_add, not_true_eq_false, not_false_eq_true, forall_const, true_implies, false_implies, implies_true, and_true, true_and, and_false, false_and, or_true, true_or, or_false, false_or, forall_eq, ↓reduceIte, ne_eq, nI1ne, nI0eq, Classical.not_not, eq_self, reduceCtorEq]
        refine ih _ _ _ ⟨k + 1, by omega, rfl, fun j hj => j1 j (i1 j hj), j2, ?_⟩ (by rw [nI_clamp (by omega), nI_clamp (by omega)]; omega)
        rcases j3 with ⟨rfl, rfl, h⟩ | ⟨rfl, h⟩
        · exact Or.inl ⟨rfl, h⟩
        · exact Or.inr ⟨by rw [nI1ne]; exact id, by omega⟩
      · have step : ∀ y' c', (∀ j, bitL x j = true → bitL y' j = true) → (∀ j, bitL y' j = true → Cl r (fun i j => bitL (leans i) j) (fun j => bitL p j = true) j) → (c' = nI 0 ∧ y' = x ∧ (∀ a, a < i + 1 → bitL x a = false → (leans a &&& x) = 0) ∨ c' = nI 1 ∧ unfN r (bitL y') < unfN r (bitL x)) → wl_X2_leaningOn_36 (nI r) leans (nI k) (wl_X2_leaningOn_18 (nI r) leans Q m) m2 y' c' (nI (i + 1)) := fun y' c' h1 h2 h3 => ih2 _ _ _ ⟨i + 1, by omega, rfl, h1, h2, h3⟩ (by rw [nI_clamp (by omega), nI_clamp (by omega)]; omega)
        simp (disch := omega) only [wb_X2_leaningOn_36, nI_natle, show ¬ r ≤ i from by omega, vpin, nI_clamp, hasBit, nB0, nI_add, cmp0, not_true_eq_false, not_false_eq_true, forall_const, true_implies, false_implies, implies_true, and_true, true_and, and_false, false_and, or_true, true_or, or_false, false_or, forall_eq, ↓reduceIte, ne_eq, nI1ne, nI0eq, Classical.not_not, eq_self, reduceCtorEq]
        by_cases b : bitL y i = true
        · simp only [b, Bool.true_eq_false, not_true_eq_false, not_false_eq_true, forall_const, true_implies, false_implies, implies_true, and_true, true_and, and_false, false_and, or_true, true_or, or_false, false_or, forall_eq, ↓reduceIte, ne_eq, nI1ne, nI0eq, Classical.not_not, eq_self, reduceCtorEq]
          refine step y c2 j1 j2 ?_
          rcases j3 with ⟨rfl, rfl, h⟩ | h
          · refine Or.inl ⟨rfl, rfl, fun a ha hb => ?_⟩
            by_cases e : a = i
            · rw [e, b] at hb; cases hb
            · exact h a (by omega) hb
          · exact Or.inr h
        · have b2 : bitL y i = false := Bool.eq_false_iff.mpr b
          by_cases w : (leans i &&& y) = 0
          · simp only [b2, w, not_true_eq_false, not_false_eq_true, forall_const, true_implies, false_implies, implies_true, and_true, true_and, and_false, false_and, or_true, true_or, or_false, false_or, forall_eq, ↓reduceIte, ne_eq, nI1ne, nI0eq, Classical.not_not, eq_self, reduceCtorEq]
            refine step y c2 j1 j2 ?_
            rcases j3 with ⟨rfl, rfl, h⟩ | h
            · refine Or.inl ⟨rfl, rfl, fun a ha hb => ?_⟩
              by_cases e : a = i
              · rw [e]; exact w
              · exact h a (by omega) hb
            · exact Or.inr h
          · simp only [b2, w, not_true_eq_false, not_false_eq_true, forall_const, true_implies, false_implies, implies_true, and_true, true_and, and_false, false_and, or_true, true_or, or_false, false_or, forall_eq, ↓reduceIte, ne_eq, nI1ne, nI0eq, Classical.not_not, eq_self, reduceCtorEq]
            obtain ⟨j, -, w1, w2⟩ := and_ne w
            refine step _ _ (fun a ha => (or_bit (by omega) a).mpr (Or.inl (j1 a ha))) (fun a ha => ?_) (Or.inr ⟨rfl, ?_⟩)
            · rcases (or_bit (by omega) a).mp ha with h | rfl
              · exact j2 a h
              · exact Cl_step (by omega) w1 (j2 j w2)
            · have h1 := unf_lt (f := bitL y) (g := bitL (y ||| ((1 : Int64) <<< ((nI i).toInt64 &&& 63)))) r (fun a _ ha => (or_bit (by omega) a).mpr (Or.inl ha)) ⟨i, by omega, b2, (or_bit (by omega) i).mpr (Or.inr rfl)⟩
              have h2 := unf_le (f := bitL x) (g := bitL y) r (fun a _ ha => j1 a ha)
              omega
    · refine fin ?_
      rcases i3 with ⟨-, h⟩ | ⟨z, h⟩
      · exact h
      · have hk5 : k = 50 := by
          apply Classical.byContradiction
          intro e
          exact g ⟨by rw [nI_natle (by omega) (by omega)]; omega, z⟩
        have := unf_0 r (f := bitL x) (by omega)
        intro a ha hb
        rw [this a ha] at hb
        cases hb
  · refine ⟨0, by omega, rfl, fun _ h => h, fun j h => Cl_seed h, ?_⟩
    rw [hy0]
    by_cases z : p = 0
    · subst z
      left
      refine ⟨by decide, fun a _ _ => ?_⟩
      refine bit_ext (fun i _ => ?_)
      rw [bit_and, bit_0, Bool.and_false]
    · right
      refine ⟨?_, ?_⟩
      · rw [if_neg (fun e => z ((cmp0 p).mp e)), nI1ne]
        exact id
      · have := unf_r (bitL p) r
        omega
