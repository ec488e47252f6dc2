theorem m1_ne {p : Nat} (hp : p < 2 ^ 31) : ¬ (-1 : Int32) = nI p := by
  intro z
  have z3 : (nI p < 0) := by rw [← z]; decide
  exact nI_pos (by omega) z3
/-- the class and the reference climb a firm's owners alike -/
theorem under_both {f p : Nat} {ow s : Nat → Int32} (hp : p < 10) (hf : f ≤ 10) (ho : ∀ i, i < f → ow i = s (140 + i)) (hs : ∀ i, i < f → (s (140 + i) = -1 ∨ ∃ j, j < i ∧ s (140 + i) = nI j)) : ∀ J j, j < J → j < f → ∃ b : Bool, (∀ Q k, k + j < 10 → Q (nB b) → ∃ n, wl_X7_belongsTo_5 (nI p) ow Q n (nI j) (nI k)) ∧ (∀ Q, Q (nB b) → ∃ n, wl_X12_isUnder_2 (nI p) s Q n (nI j)) := by
  intro J
  induction J with
  | zero => intro j h _; omega
  | succ J ih =>
    intro j hJ hj
    by_cases e : j = p
    · subst e
      refine ⟨true, fun Q k hk hQ => ⟨1, ?_⟩, fun Q hQ => ⟨1, ?_⟩⟩
      · rw [wl_X7_belongsTo_5]
        unfold wb_X7_belongsTo_5
        refine ⟨fun _ => ⟨fun z => absurd rfl z, fun _ => hQ⟩, fun z => absurd ⟨?_, nI_pos (by omega)⟩ z⟩
        rw [nI_natle (by omega) (by omega)]; omega
      · rw [wl_X12_isUnder_2]
        unfold wb_X12_isUnder_2
        refine ⟨fun z => absurd rfl z.2, fun _ y hy => ?_⟩
        rw [hy, if_pos rfl]
        exact hQ
    · have ne : ¬ nI j = nI p := by rw [nI_nateq (by omega) (by omega)]; exact e
      have nm : ¬ nI j = -1 := fun z => m1_ne (p := j) (by omega) z.symm
      have hv1 : vp_in (nI j) 10 := vp_in_nI (by omega) (by omega)
      have hk1 : ∀ k, k + j < 10 → (¬ nI 10 ≤ nI k ∧ ¬ nI j < 0) := fun k hk => ⟨by rw [nI_natle (by omega) (by omega)]; omega, nI_pos (by omega)⟩
      have cstep : ∀ Q k, k + j < 10 → (∃ n, wl_X7_belongsTo_5 (nI p) ow Q n (s (140 + j)) (nI (k + 1))) → ∃ n, wl_X7_belongsTo_5 (nI p) ow Q n (nI j) (nI k) := by
        rintro Q k hk ⟨n, h⟩
        refine ⟨n + 1, ?_⟩
        rw [wl_X7_belongsTo_5]
        unfold wb_X7_belongsTo_5
        refine ⟨fun _ => ⟨fun _ => ⟨hv1, ?_⟩, fun z => absurd z ne⟩, fun z => absurd (hk1 k hk) z⟩
        rw [nI_clamp (by omega), ho j hj, nI_add]
        exact h
      have mstep : ∀ Q, (∃ n, wl_X12_isUnder_2 (nI p) s Q n (s (140 + j))) → ∃ n, wl_X12_isUnder_2 (nI p) s Q n (nI j) := by
        rintro Q ⟨n, h⟩
        refine ⟨n + 1, ?_⟩
        rw [wl_X12_isUnder_2]
        simp (disch := omega) only [wb_X12_isUnder_2, nm, ne, nI_add, nI_clamp, vpin, not_true_eq_false, not_false_eq_true, forall_const, true_implies, false_implies, implies_true, and_true, true_and, and_false, false_and, or_true, true_or, or_false, false_or, forall_eq, ↓reduceIte, ne_eq, nI1ne, nI0eq, Classical.not_not, eq_self, reduceCtorEq]
        exact h
      rcases hs j hj with q | ⟨i, hi, q⟩
      · refine ⟨false, fun Q k hk hQ => cstep Q k hk ⟨1, ?_⟩, fun Q hQ => mstep Q ⟨1, ?_⟩⟩
        · rw [q, wl_X7_belongsTo_5]
          unfold wb_X7_belongsTo_5
          exact ⟨fun z => absurd (by decide) z.2, fun _ => hQ⟩
        · rw [q, wl_X12_isUnder_2]
          unfold wb_X12_isUnder_2
          refine ⟨fun z => absurd rfl z.1, fun _ y hy => ?_⟩
          rw [hy, if_neg (m1_ne (by omega))]
          exact hQ
      · obtain ⟨b, h1, h2⟩ := ih i (by omega) (by omega)
        refine ⟨b, fun Q k hk hQ => cstep Q k hk ?_, fun Q hQ => mstep Q ?_⟩
        · rw [q]; exact h1 Q (k + 1) (by omega) hQ
        · rw [q]; exact h2 Q hQ
