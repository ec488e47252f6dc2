/-- the tons of the uses that count, among the first k -/
def tonS (s : Nat → Int32) (q : Nat → Bool) : Nat → Nat := popS (fun v => if q v then (s (190 + v)).toNatClampNeg else 0)
theorem tonS_s (s : Nat → Int32) (q : Nat → Bool) (k : Nat) : tonS s q (k + 1) = tonS s q k + (if q k then (s (190 + k)).toNatClampNeg else 0) := rfl
theorem tonS_le {s : Nat → Int32} {q : Nat → Bool} {u : Nat} (h : ∀ i, i < u → isN (s (190 + i)) 999) : ∀ k, k ≤ u → tonS s q k ≤ 999 * k := by
  intro k
  induction k with
  | zero => intro _; exact Nat.le_refl _
  | succ k ih =>
    intro hk
    obtain ⟨d, hd, e⟩ := h k (by omega)
    have := ih (by omega)
    rw [tonS_s, e, nI_clamp (by omega)]
    split <;> omega
theorem core_left0 {goods ab pl : Nat → Int32} {sc : Int32} {bond sold passed tar parts pur : Nat → Int32} {chest : Int32} {fs ow : Nat → Int32} {fc : Int32} {uf ut : Nat → Int32} {uc : Int32} {quo s : Nat → Int32} {p : Nat} {R : Prop} (h : IPort goods ab pl sc bond sold passed tar parts pur chest fs ow fc uf ut uc quo s) (hf : ∃ f, s 5 = nI f ∧ f ≤ 10 ∧ p < f) (hR : R) : wp_X7_useOf (nI p) ow uf ut uc (fun r => wk_X12_left_35 (nI 0) (nI p) s (fun r' => r = r' ∧ R)) := by
  obtain ⟨-, -, -, f, u, hf1, -, h5, hu, rfl, h11, h1, h2, h3, h4⟩ := h
  obtain ⟨f', e5, f10, hpf⟩ := hf
  have : f' = f := by rw [h5] at e5; exact ((nI_eq (by omega) (by omega)).mp e5).symm
  subst this
  have UB := fun j hj => under_both (f := f') (p := p) (ow := ow) (s := s) (by omega) hf1 (fun i hi => (h1 i (by omega)).2) (fun i hi => (h2 i hi).2) (j + 1) j (by omega) hj
  have US : ∀ v, v < u → ∃ j, j < f' ∧ s (150 + v) = nI j := fun v hv => (h4 v hv).1
  have UQ : ∃ q : Nat → Bool, ∀ v, v < u → (∀ Q, Q (nB (q v)) → wp_X7_belongsTo (uf v) (nI p) ow Q) ∧ (∀ Q, Q (nB (q v)) → wp_X12_isUnder (s (150 + v)) (nI p) s Q) := by
    have : ∀ v, ∃ b : Bool, v < u → (∀ Q, Q (nB b) → wp_X7_belongsTo (uf v) (nI p) ow Q) ∧ (∀ Q, Q (nB b) → wp_X12_isUnder (s (150 + v)) (nI p) s Q) := by
      intro v
      by_cases hv : v < u
      · obtain ⟨j, hj, ej⟩ := US v hv
        obtain ⟨b, b1, b2⟩ := UB j hj
        refine ⟨b, fun _ => ⟨fun Q hQ => ?_, fun Q hQ => ?_⟩⟩
        · rw [(h3 v (by omega)).1, ej]
          exact b1 Q 0 (by omega) hQ
        · rw [ej]
          exact b2 Q hQ
      · exact ⟨true, fun z => absurd z hv⟩
    exact ⟨fun v => Classical.choose (this v), fun v => Classical.choose_spec (this v)⟩
  obtain ⟨q, hq⟩ := UQ
  have hton := tonS_le (s := s) (q := q) (fun i hi => (h4 i hi).2)
  unfold wp_X7_useOf
  refine run2 (F := wl_X7_useOf_4 (nI p) ow uf ut (nI u) _) u (fun k => nI (tonS s q k)) (fun k => nI k) ?_ ?_
  · intro k hk n ih
    rw [wl_X7_useOf_4]
    simp (disch := omega) only [wb_X7_useOf_4, nI_natle, show ¬ u ≤ k from by omega, vpin, nI_clamp, not_true_eq_false, not_false_eq_true, forall_const, true_implies, false_implies, implies_true, and_true, true_and, and_false, false_and, or_true, true_or, or_false, false_or, forall_eq, ↓reduceIte, ne_eq, nI1ne, nI0eq, Classical.not_not, eq_self, reduceCtorEq]
    refine (hq k hk).1 _ ?_
    obtain ⟨d, hd, e⟩ := (h4 k hk).2
    rw [tonS_s, e, nI_clamp (by omega)] at ih
    rw [(h3 k (by omega)).2, e, nI_add, nI_add]
    revert ih
    cases q k <;> intro ih
    · simp only [nB_f, nI0eq, not_true_eq_false, not_false_eq_true, forall_const, true_implies, false_implies, implies_true, and_true, true_and, and_false, false_and, or_true, true_or, or_false, false_or, forall_eq, ↓reduceIte, ne_eq, nI1ne, nI0eq, Classical.not_not, eq_self, reduceCtorEq]
      simpa using ih
    · simp only [nB_t, nI1ne, not_true_eq_false, not_false_eq_true, forall_const, true_implies, false_implies, implies_true, and_true, true_and, and_false, false_and, or_true, true_or, or_false, false_or, forall_eq, ↓reduceIte, ne_eq, nI1ne, nI0eq, Classical.not_not, eq_self, reduceCtorEq]
      simpa using ih
  · intro n
    rw [wl_X7_useOf_4]
    simp (disch := omega) only [wb_X7_useOf_4, nI_natle, Nat.le_refl, not_true_eq_false, not_false_eq_true, forall_const, true_implies, false_implies, implies_true, and_true, true_and, and_false, false_and, or_true, true_or, or_false, false_or, forall_eq, ↓reduceIte, ne_eq, nI1ne, nI0eq, Classical.not_not, eq_self, reduceCtorEq]
    unfold wk_X12_left_35
    refine run3 (F := wl_X12_left_44 (nI 0) (nI p) s _) u (fun k => nI (tonS s q k)) (fun _ => -5) (fun k => nI k) ?_ ?_
    · intro k hk n ih
      rw [wl_X12_left_44]
      obtain ⟨j, hj, ej⟩ := US k hk
      simp (disch := omega) only [wb_X12_left_44, h11, nI_natle, show ¬ u ≤ k from by omega, vpin, nI_clamp, nI_add, nI0eq, not_true_eq_false, not_false_eq_true, forall_const, true_implies, false_implies, implies_true, and_true, true_and, and_false, false_and, or_true, true_or, or_false, false_or, forall_eq, ↓reduceIte, ne_eq, nI1ne, nI0eq, Classical.not_not, eq_self, reduceCtorEq]
      refine (hq k hk).2 _ ?_
      obtain ⟨d, hd, e⟩ := (h4 k hk).2
      rw [tonS_s, e, nI_clamp (by omega)] at ih
      revert ih
      have z0 : ¬ nI 0 = nI 2 := by decide
      cases q k <;> intro ih
      · simp (disch := omega) only [wk_X12_left_108, nB_f, nI0eq, nI_add, not_true_eq_false, not_false_eq_true, forall_const, true_implies, false_implies, implies_true, and_true, true_and, and_false, false_and, or_true, true_or, or_false, false_or, forall_eq, ↓reduceIte, ne_eq, nI1ne, nI0eq, Classical.not_not, eq_self, reduceCtorEq]
        simpa using ih
      · simp (disch := omega) only [wk_X12_left_108, nB_t, nI1ne, nI_add, nI_clamp, vpin, e, z0, not_true_eq_false, not_false_eq_true, forall_const, true_implies, false_implies, implies_true, and_true, true_and, and_false, false_and, or_true, true_or, or_false, false_or, forall_eq, ↓reduceIte, ne_eq, nI1ne, nI0eq, Classical.not_not, eq_self, reduceCtorEq]
        simpa using ih
    · intro n
      rw [wl_X12_left_44]
      simp (disch := omega) only [wb_X12_left_44, h11, nI_natle, Nat.le_refl, nI0eq, not_true_eq_false, not_false_eq_true, forall_const, true_implies, false_implies, implies_true, and_true, true_and, and_false, false_and, or_true, true_or, or_false, false_or, forall_eq, ↓reduceIte, ne_eq, nI1ne, nI0eq, Classical.not_not, eq_self, reduceCtorEq]
      exact hR
