theorem sub_sub32 (x y z : Int32) : x - y - z = x - (y + z) := by
  rw [Int32.sub_eq_add_neg, Int32.sub_eq_add_neg x y, Int32.sub_eq_add_neg x (y + z), Int32.neg_add, Int32.sub_eq_add_neg (-y) z, Int32.add_assoc]
theorem sub_nn {a b : Nat} (ha : a < 2 ^ 30) (hb : b < 2 ^ 30) : (0 ≤ nI a - nI b) = (b ≤ a) := by
  apply propext
  rw [Int32.le_iff_toInt_le, pk_sub_toInt ha hb]
  have : (0 : Int32).toInt = 0 := by decide
  omega
def useSide (s : Nat → Int32) (p v : Nat) : Bool := decide (s (130 + (s (150 + v)).toNatClampNeg) = nI p)
theorem n2ne0 : (nI 2 = (0 : Int32)) = False := eq_false (by decide)
theorem n2ne1 : (nI 2 = nI 1) = False := eq_false (by decide)
theorem n1ne2 : (nI 1 = nI 2) = False := eq_false (by decide)
theorem m5e : ((-5 : Int32) = -5) = True := eq_true rfl
theorem nm5 {k : Nat} (h : k < 2 ^ 31) : (nI k = -5) = False := eq_false (fun z => nI_pos h (by rw [z]; decide))
theorem core_left1 {goods ab pl : Nat → Int32} {sc : Int32} {bond sold passed tar parts pur : Nat → Int32} {chest : Int32} {fs ow : Nat → Int32} {fc : Int32} {uf ut : Nat → Int32} {uc : Int32} {quo s : Nat → Int32} {p : Nat} {R : Prop} (h : IPort goods ab pl sc bond sold passed tar parts pur chest fs ow fc uf ut uc quo s) (hp : p < 3) (hR : R) : wp_X7_quotaLeft (nI p) fs uf ut uc quo (fun r => wk_X12_left_35 (nI 1) (nI p) s (fun r' => r = r' ∧ R)) := by
  obtain ⟨-, -, h3, f, u, hf1, -, h5, hu, rfl, h11, h1, h2, h3', h4⟩ := h
  obtain ⟨-, -, -, hq, q0, hq0, eq0⟩ := h3 p hp
  have US := fun v hv => (h4 v hv).1
  have qk : ∀ k, k < u → ∃ j, j < f ∧ s (150 + k) = nI j ∧ useSide s p k = decide (s (130 + j) = nI p) := by
    intro k hk
    obtain ⟨j, hj, ej⟩ := (h4 k hk).1
    exact ⟨j, hj, ej, by unfold useSide; rw [ej, nI_clamp (by omega)]⟩
  unfold wp_X7_quotaLeft
  rw [nI_clamp (by omega), hq, eq0]
  refine ⟨vp_in_nI (by omega) (by omega), ?_⟩
  have hst : nI q0 = nI q0 - nI (tonS s (useSide s p) 0) := by
    show _ = nI q0 - nI 0
    rw [nI_subL (by omega)]; rfl
  rw [hst]
  refine run2 (F := wl_X7_quotaLeft_9 (nI p) fs uf ut (nI u) _) u (fun k => nI q0 - nI (tonS s (useSide s p) k)) (fun k => nI k) ?_ ?_
  · intro k hk n ih
    rw [wl_X7_quotaLeft_9]
    obtain ⟨j, hj, ej, ek⟩ := qk k hk
    obtain ⟨d, hd, e⟩ := (h4 k hk).2
    rw [tonS_s, ek, e, nI_clamp (by omega)] at ih
    simp (disch := omega) only [wb_X7_quotaLeft_9, nI_natle, show ¬ u ≤ k from by omega, vpin, nI_clamp, (h3' k (by omega)).1, ej, (h3' k (by omega)).2, e, (h1 j (by omega)).1, nI_add, not_true_eq_false, not_false_eq_true, forall_const, true_implies, false_implies, implies_true, and_true, true_and, and_false, false_and, or_true, true_or, or_false, false_or, forall_eq, ↓reduceIte, ne_eq, nI1ne, nI0eq, Classical.not_not, eq_self, reduceCtorEq]
    by_cases w : s (130 + j) = nI p
    · simp only [w, decide_true, not_true_eq_false, not_false_eq_true, forall_const, true_implies, false_implies, implies_true, and_true, true_and, and_false, false_and, or_true, true_or, or_false, false_or, forall_eq, ↓reduceIte, ne_eq, nI1ne, nI0eq, Classical.not_not, eq_self, reduceCtorEq] at ih ⊢
      rw [sub_sub32, nI_add]; exact ih
    · simp only [w, decide_false, Bool.false_eq_true, Nat.add_zero, not_true_eq_false, not_false_eq_true, forall_const, true_implies, false_implies, implies_true, and_true, true_and, and_false, false_and, or_true, true_or, or_false, false_or, forall_eq, ↓reduceIte, ne_eq, nI1ne, nI0eq, Classical.not_not, eq_self, reduceCtorEq] at ih ⊢
      exact ih
  · intro n
    rw [wl_X7_quotaLeft_9]
    simp (disch := omega) only [wb_X7_quotaLeft_9, nI_natle, Nat.le_refl, not_true_eq_false, not_false_eq_true, forall_const, true_implies, false_implies, implies_true, and_true, true_and, and_false, false_and, or_true, true_or, or_false, false_or, forall_eq, ↓reduceIte, ne_eq, nI1ne, nI0eq, Classical.not_not, eq_self, reduceCtorEq]
    unfold wk_X12_left_35
    refine run3 (F := wl_X12_left_44 (nI 1) (nI p) s _) u (fun k => nI (tonS s (useSide s p) k)) (fun _ => -5) (fun k => nI k) ?_ ?_
    · intro k hk n ih
      rw [wl_X12_left_44]
      obtain ⟨j, hj, ej, ek⟩ := qk k hk
      obtain ⟨d, hd, e⟩ := (h4 k hk).2
      rw [tonS_s, ek, e, nI_clamp (by omega)] at ih
      simp (disch := omega) only [wb_X12_left_44, wk_X12_left_108, h11, nI_natle, show ¬ u ≤ k from by omega, vpin, nI_clamp, nI_add, ej, e, n1ne2, not_true_eq_false, not_false_eq_true, forall_const, true_implies, false_implies, implies_true, and_true, true_and, and_false, false_and, or_true, true_or, or_false, false_or, forall_eq, ↓reduceIte, ne_eq, nI1ne, nI0eq, Classical.not_not, eq_self, reduceCtorEq]
      by_cases w : s (130 + j) = nI p
      · simp only [w, decide_true, nI_add, not_true_eq_false, not_false_eq_true, forall_const, true_implies, false_implies, implies_true, and_true, true_and, and_false, false_and, or_true, true_or, or_false, false_or, forall_eq, ↓reduceIte, ne_eq, nI1ne, nI0eq, Classical.not_not, eq_self, reduceCtorEq] at ih ⊢
        exact ih
      · simp only [w, decide_false, Bool.false_eq_true, Nat.add_zero, nI_add, not_true_eq_false, not_false_eq_true, forall_const, true_implies, false_implies, implies_true, and_true, true_and, and_false, false_and, or_true, true_or, or_false, false_or, forall_eq, ↓reduceIte, ne_eq, nI1ne, nI0eq, Classical.not_not, eq_self, reduceCtorEq] at ih ⊢
        exact ih
    · intro n
      rw [wl_X12_left_44]
      simp (disch := omega) only [wb_X12_left_44, h11, nI_natle, Nat.le_refl, vpin, nI_clamp, nI_add, eq0, not_true_eq_false, not_false_eq_true, forall_const, true_implies, false_implies, implies_true, and_true, true_and, and_false, false_and, or_true, true_or, or_false, false_or, forall_eq, ↓reduceIte, ne_eq, nI1ne, nI0eq, Classical.not_not, eq_self, reduceCtorEq]
      exact hR
theorem tonS_mono {s : Nat → Int32} {q : Nat → Bool} {a b : Nat} (h : a ≤ b) : tonS s q a ≤ tonS s q b := by
  induction h with
  | refl => exact Nat.le_refl _
  | step _ ih => rw [tonS_s]; omega
/-- the first use with which the quota is exceeded -/
def firstB (s : Nat → Int32) (q : Nat → Bool) (Q0 u : Nat) (r : Int32) : Prop := (r = -5 ∧ tonS s q u ≤ Q0) ∨ ∃ k, k < u ∧ r = nI k ∧ tonS s q k ≤ Q0 ∧ Q0 < tonS s q (k + 1)
theorem firstB_uniq {s : Nat → Int32} {q : Nat → Bool} {Q0 u : Nat} {r r' : Int32} (h : firstB s q Q0 u r) (h' : firstB s q Q0 u r') : r = r' := by
  rcases h with ⟨rfl, h1⟩ | ⟨k, hk, rfl, h1, h2⟩
  · rcases h' with ⟨rfl, g1⟩ | ⟨j, hj, rfl, g1, g2⟩
    · rfl
    · have := tonS_mono (s := s) (q := q) (show j + 1 ≤ u by omega); omega
  · rcases h' with ⟨rfl, g1⟩ | ⟨j, hj, rfl, g1, g2⟩
    · have := tonS_mono (s := s) (q := q) (show k + 1 ≤ u by omega); omega
    · have : k = j := by
        rcases Nat.lt_trichotomy k j with w | w | w
        · have := tonS_mono (s := s) (q := q) (show k + 1 ≤ j by omega); omega
        · exact w
        · have := tonS_mono (s := s) (q := q) (show j + 1 ≤ k by omega); omega
      rw [this]
theorem core_left2 {goods ab pl : Nat → Int32} {sc : Int32} {bond sold passed tar parts pur : Nat → Int32} {chest : Int32} {fs ow : Nat → Int32} {fc : Int32} {uf ut : Nat → Int32} {uc : Int32} {quo s : Nat → Int32} {p : Nat} {R : Prop} (h : IPort goods ab pl sc bond sold passed tar parts pur chest fs ow fc uf ut uc quo s) (hp : p < 3) (hR : R) : wp_X7_firstBeyondQuota (nI p) fs uf ut uc quo (fun r => wk_X12_left_35 (nI 2) (nI p) s (fun r' => r = r' ∧ R)) := by
  obtain ⟨-, -, h3, f, u, hf1, -, h5, hu, rfl, h11, h1, h2, h3', h4⟩ := h
  obtain ⟨-, -, -, hq, q0, hq0, eq0⟩ := h3 p hp
  have hton := tonS_le (s := s) (q := useSide s p) (fun i hi => (h4 i hi).2)
  have qk : ∀ k, k < u → ∃ j, j < f ∧ s (150 + k) = nI j ∧ useSide s p k = decide (s (130 + j) = nI p) := by
    intro k hk
    obtain ⟨j, hj, ej⟩ := (h4 k hk).1
    exact ⟨j, hj, ej, by unfold useSide; rw [ej, nI_clamp (by omega)]⟩
  have model : ∀ r, firstB s (useSide s p) q0 u r → wk_X12_left_35 (nI 2) (nI p) s (fun r' => r = r' ∧ R) := by
    intro r hr
    unfold wk_X12_left_35
    refine meas3 (F := wl_X12_left_44 (nI 2) (nI p) s _) (fun v3 v4 v5 => ∃ k, k ≤ u ∧ v5 = nI k ∧ v3 = nI (tonS s (useSide s p) k) ∧ firstB s (useSide s p) q0 k v4) (fun _ _ v5 => u - v5.toNatClampNeg) ?_ _ _ _ ⟨0, by omega, rfl, rfl, Or.inl ⟨rfl, Nat.zero_le _⟩⟩
    rintro v3 v4 v5 ⟨k, hk, rfl, rfl, hB⟩ m ih
    rw [wl_X12_left_44]
    by_cases w : k = u
    · subst w
      simp (disch := omega) only [wb_X12_left_44, h11, nI_natle, Nat.le_refl, n2ne0, n2ne1, not_true_eq_false, not_false_eq_true, forall_const, true_implies, false_implies, implies_true, and_true, true_and, and_false, false_and, or_true, true_or, or_false, false_or, forall_eq, ↓reduceIte, ne_eq, nI1ne, nI0eq, Classical.not_not, eq_self, reduceCtorEq]
      exact ⟨firstB_uniq hr hB, hR⟩
    · have hk2 : k < u := by omega
      obtain ⟨j, hj, ej, ek⟩ := qk k hk2
      obtain ⟨d, hd, e⟩ := (h4 k hk2).2
      have ht : tonS s (useSide s p) (k + 1) = tonS s (useSide s p) k + (if decide (s (130 + j) = nI p) then d else 0) := by
        rw [tonS_s, ek, e, nI_clamp (by omega)]
      have hb1 := hton k (by omega)
      simp (disch := omega) only [wb_X12_left_44, wk_X12_left_108, h11, nI_natle, show ¬ u ≤ k from by omega, vpin, nI_clamp, nI_add, ej, e, n2ne0, not_true_eq_false, not_false_eq_true, forall_const, true_implies, false_implies, implies_true, and_true, true_and, and_false, false_and, or_true, true_or, or_false, false_or, forall_eq, ↓reduceIte, ne_eq, nI1ne, nI0eq, Classical.not_not, eq_self, reduceCtorEq]
      by_cases w : s (130 + j) = nI p
      · simp only [w, decide_true, not_true_eq_false, not_false_eq_true, forall_const, true_implies, false_implies, implies_true, and_true, true_and, and_false, false_and, or_true, true_or, or_false, false_or, forall_eq, ↓reduceIte, ne_eq, nI1ne, nI0eq, Classical.not_not, eq_self, reduceCtorEq] at ht
        simp (disch := omega) only [w, nI_add, eq0, nI_natle, not_true_eq_false, not_false_eq_true, forall_const, true_implies, false_implies, implies_true, and_true, true_and, and_false, false_and, or_true, true_or, or_false, false_or, forall_eq, ↓reduceIte, ne_eq, nI1ne, nI0eq, Classical.not_not, eq_self, reduceCtorEq]
        rw [← ht]
        refine ih _ _ _ ⟨k + 1, by omega, rfl, rfl, ?_⟩ (by rw [nI_clamp (by omega), nI_clamp (by omega)]; omega)
        rcases hB with ⟨rfl, g⟩ | ⟨i, hi, rfl, g1, g2⟩
        · simp only [not_true_eq_false, not_false_eq_true, forall_const, true_implies, false_implies, implies_true, and_true, true_and, and_false, false_and, or_true, true_or, or_false, false_or, forall_eq, ↓reduceIte, ne_eq, nI1ne, nI0eq, Classical.not_not, eq_self, reduceCtorEq]
          by_cases z : tonS s (useSide s p) (k + 1) ≤ q0
          · rw [if_pos z]; exact Or.inl ⟨rfl, z⟩
          · rw [if_neg z]; exact Or.inr ⟨k, by omega, rfl, g, by omega⟩
        · simp (disch := omega) only [nm5, not_true_eq_false, not_false_eq_true, forall_const, true_implies, false_implies, implies_true, and_true, true_and, and_false, false_and, or_true, true_or, or_false, false_or, forall_eq, ↓reduceIte, ne_eq, nI1ne, nI0eq, Classical.not_not, eq_self, reduceCtorEq]
          exact Or.inr ⟨i, by omega, rfl, g1, g2⟩
      · simp only [w, decide_false, Bool.false_eq_true, Nat.add_zero, not_true_eq_false, not_false_eq_true, forall_const, true_implies, false_implies, implies_true, and_true, true_and, and_false, false_and, or_true, true_or, or_false, false_or, forall_eq, ↓reduceIte, ne_eq, nI1ne, nI0eq, Classical.not_not, eq_self, reduceCtorEq] at ht
        simp (disch := omega) only [w, nI_add, Nat.add_zero, not_true_eq_false, not_false_eq_true, forall_const, true_implies, false_implies, implies_true, and_true, true_and, and_false, false_and, or_true, true_or, or_false, false_or, forall_eq, ↓reduceIte, ne_eq, nI1ne, nI0eq, Classical.not_not, eq_self, reduceCtorEq]
        refine ih _ _ _ ⟨k + 1, by omega, rfl, by rw [ht], ?_⟩ (by rw [nI_clamp (by omega), nI_clamp (by omega)]; omega)
        rcases hB with ⟨rfl, g⟩ | ⟨i, hi, rfl, g1, g2⟩
        · exact Or.inl ⟨rfl, by rw [ht]; exact g⟩
        · exact Or.inr ⟨i, by omega, rfl, g1, g2⟩
  unfold wp_X7_firstBeyondQuota
  rw [nI_clamp (by omega), hq, eq0]
  refine ⟨vp_in_nI (by omega) (by omega), ?_⟩
  refine meas2 (F := wl_X7_firstBeyondQuota_9 (nI p) fs uf ut (nI u) _) (fun v2 v3 => ∃ k, k ≤ u ∧ v3 = nI k ∧ tonS s (useSide s p) k ≤ q0 ∧ v2 = nI (q0 - tonS s (useSide s p) k)) (fun _ v3 => u - v3.toNatClampNeg) ?_ _ _ ⟨0, by omega, rfl, Nat.zero_le _, rfl⟩
  rintro v2 v3 ⟨k, hk, rfl, hB, rfl⟩ m ih
  rw [wl_X7_firstBeyondQuota_9]
  by_cases w : k = u
  · subst w
    simp (disch := omega) only [wb_X7_firstBeyondQuota_9, nI_natle, Nat.le_refl, not_true_eq_false, not_false_eq_true, forall_const, true_implies, false_implies, implies_true, and_true, true_and, and_false, false_and, or_true, true_or, or_false, false_or, forall_eq, ↓reduceIte, ne_eq, nI1ne, nI0eq, Classical.not_not, eq_self, reduceCtorEq]
    exact model _ (Or.inl ⟨rfl, hB⟩)
  · have hk2 : k < u := by omega
    obtain ⟨j, hj, ej, ek⟩ := qk k hk2
    obtain ⟨d, hd, e⟩ := (h4 k hk2).2
    have ht : tonS s (useSide s p) (k + 1) = tonS s (useSide s p) k + (if decide (s (130 + j) = nI p) then d else 0) := by
      rw [tonS_s, ek, e, nI_clamp (by omega)]
    simp (disch := omega) only [wb_X7_firstBeyondQuota_9, nI_natle, show ¬ u ≤ k from by omega, vpin, nI_clamp, (h3' k (by omega)).1, ej, (h3' k (by omega)).2, e, (h1 j (by omega)).1, nI_add, not_true_eq_false, not_false_eq_true, forall_const, true_implies, false_implies, implies_true, and_true, true_and, and_false, false_and, or_true, true_or, or_false, false_or, forall_eq, ↓reduceIte, ne_eq, nI1ne, nI0eq, Classical.not_not, eq_self, reduceCtorEq]
    by_cases w : s (130 + j) = nI p
    · simp only [w, decide_true, not_true_eq_false, not_false_eq_true, forall_const, true_implies, false_implies, implies_true, and_true, true_and, and_false, false_and, or_true, true_or, or_false, false_or, forall_eq, ↓reduceIte, ne_eq, nI1ne, nI0eq, Classical.not_not, eq_self, reduceCtorEq] at ht
      simp (disch := omega) only [w, sub_nn, not_true_eq_false, not_false_eq_true, forall_const, true_implies, false_implies, implies_true, and_true, true_and, and_false, false_and, or_true, true_or, or_false, false_or, forall_eq, ↓reduceIte, ne_eq, nI1ne, nI0eq, Classical.not_not, eq_self, reduceCtorEq]
      refine ⟨fun z => ?_, fun z => ?_⟩
      · rw [nI_subL z]
        refine ih _ _ ⟨k + 1, by omega, rfl, by omega, ?_⟩ (by rw [nI_clamp (by omega), nI_clamp (by omega)]; omega)
        rw [ht, Nat.sub_sub]
      · exact model _ (Or.inr ⟨k, hk2, rfl, hB, by omega⟩)
    · simp only [w, decide_false, Bool.false_eq_true, Nat.add_zero, not_true_eq_false, not_false_eq_true, forall_const, true_implies, false_implies, implies_true, and_true, true_and, and_false, false_and, or_true, true_or, or_false, false_or, forall_eq, ↓reduceIte, ne_eq, nI1ne, nI0eq, Classical.not_not, eq_self, reduceCtorEq] at ht
      simp (disch := omega) only [w, not_true_eq_false, not_false_eq_true, forall_const, true_implies, false_implies, implies_true, and_true, true_and, and_false, false_and, or_true, true_or, or_false, false_or, forall_eq, ↓reduceIte, ne_eq, nI1ne, nI0eq, Classical.not_not, eq_self, reduceCtorEq]
      exact ih _ _ ⟨k + 1, by omega, rfl, by omega, by rw [ht]⟩ (by rw [nI_clamp (by omega), nI_clamp (by omega)]; omega)
theorem core_left {goods ab pl : Nat → Int32} {sc : Int32} {bond sold passed tar parts pur : Nat → Int32} {chest : Int32} {fs ow : Nat → Int32} {fc : Int32} {uf ut : Nat → Int32} {uc : Int32} {quo s : Nat → Int32} {p1 p2 : Int32} {R : Prop} (h : IPort goods ab pl sc bond sold passed tar parts pur chest fs ow fc uf ut uc quo s) (hR : R) : wp_X11_left p1 p2 fs ow fc uf ut uc quo (fun r => wp_X12_left p1 p2 s (fun r' => r = r' ∧ R)) := by
  have h' := h
  obtain ⟨-, -, -, f, u, hf1, rfl, h5, -⟩ := h'
  rcases in_cases p1 0 2 (by decide) (by decide) with ⟨g1, n1⟩ | ⟨g1, x, -, hx, rfl⟩
  · have z0 : ¬ p1 = 0 := n1 0 (by omega) (by omega)
    rcases in_cases p1 1 2 (by decide) (by decide) with ⟨g2, -⟩ | ⟨-, k, hk1, hk2, e⟩
    · simp only [wp_X11_left, wp_X12_left, within_eq, g1, g2, z0, not_true_eq_false, not_false_eq_true, forall_const, true_implies, false_implies, implies_true, and_true, true_and, and_false, false_and, or_true, true_or, or_false, false_or, forall_eq, ↓reduceIte, ne_eq, nI1ne, nI0eq, Classical.not_not, eq_self, reduceCtorEq]
      exact hR
    · exact absurd e (n1 k (by omega) hk2)
  · have hx2 : x = 0 ∨ x = 1 ∨ x = 2 := by omega
    rcases hx2 with rfl | rfl | rfl
    · rcases in_cases1 p2 f (by omega) with ⟨g2, -⟩ | ⟨g2, y, hy, rfl⟩
      · simp only [wp_X11_left, wp_X12_left, f_X7_isFirm, f_X12_isFirm, within_eq, g1, h5, g2, nI1ne, not_true_eq_false, not_false_eq_true, forall_const, true_implies, false_implies, implies_true, and_true, true_and, and_false, false_and, or_true, true_or, or_false, false_or, forall_eq, ↓reduceIte, ne_eq, nI1ne, nI0eq, Classical.not_not, eq_self, reduceCtorEq]
        exact hR
      · simp only [wp_X11_left, wp_X12_left, f_X7_isFirm, f_X12_isFirm, within_eq, g1, h5, g2, nI1ne, not_true_eq_false, not_false_eq_true, forall_const, true_implies, false_implies, implies_true, and_true, true_and, and_false, false_and, or_true, true_or, or_false, false_or, forall_eq, ↓reduceIte, ne_eq, nI1ne, nI0eq, Classical.not_not, eq_self, reduceCtorEq]
        exact core_left0 h ⟨f, h5, hf1, hy⟩ hR
    · have g3 : f_X12_in (nI 1) (nI 1) (nI 2) = nI 1 := by decide
      rcases in_cases p2 0 2 (by decide) (by decide) with ⟨g2, -⟩ | ⟨g2, y, -, hy, rfl⟩
      · simp only [wp_X11_left, wp_X12_left, f_X11_isSide, within_eq, g1, g2, g3, nI1ne, not_true_eq_false, not_false_eq_true, forall_const, true_implies, false_implies, implies_true, and_true, true_and, and_false, false_and, or_true, true_or, or_false, false_or, forall_eq, ↓reduceIte, ne_eq, nI1ne, nI0eq, Classical.not_not, eq_self, reduceCtorEq]
        exact hR
      · simp only [wp_X11_left, wp_X12_left, f_X11_isSide, within_eq, g1, g2, g3, nI1ne, not_true_eq_false, not_false_eq_true, forall_const, true_implies, false_implies, implies_true, and_true, true_and, and_false, false_and, or_true, true_or, or_false, false_or, forall_eq, ↓reduceIte, ne_eq, nI1ne, nI0eq, Classical.not_not, eq_self, reduceCtorEq]
        exact core_left1 h (by omega) hR
    · have g3 : f_X12_in (nI 2) (nI 1) (nI 2) = nI 1 := by decide
      rcases in_cases p2 0 2 (by decide) (by decide) with ⟨g2, -⟩ | ⟨g2, y, -, hy, rfl⟩
      · simp only [wp_X11_left, wp_X12_left, f_X11_isSide, within_eq, g1, g2, g3, n2ne0, nI1ne, not_true_eq_false, not_false_eq_true, forall_const, true_implies, false_implies, implies_true, and_true, true_and, and_false, false_and, or_true, true_or, or_false, false_or, forall_eq, ↓reduceIte, ne_eq, nI1ne, nI0eq, Classical.not_not, eq_self, reduceCtorEq]
        exact hR
      · simp only [wp_X11_left, wp_X12_left, f_X11_isSide, within_eq, g1, g2, g3, n2ne0, n2ne1, nI1ne, not_true_eq_false, not_false_eq_true, forall_const, true_implies, false_implies, implies_true, and_true, true_and, and_false, false_and, or_true, true_or, or_false, false_or, forall_eq, ↓reduceIte, ne_eq, nI1ne, nI0eq, Classical.not_not, eq_self, reduceCtorEq]
        exact core_left2 h (by omega) hR
