theorem core_door {gr ds fh lh : Nat → Int32} {dc : Int32} {si s : Nat → Int32} {night p1 p2 p3 : Int32} {R : (Nat → Int32) → (Nat → Int32) → (Nat → Int32) → Int32 → (Nat → Int32) → Int32 → Prop} (hgr : ∀ i, i < 30 → gr i = s (20 + i) ∧ isN (s (20 + i)) 5) (h : INight ds fh lh dc si s) (h0 : R ds fh lh dc s night) (hR : ∀ a b c d v, INight a b c d si v → outS idxN s v → R a b c d v (night + nI 1)) : wp_X11_door p1 p2 p3 gr ds fh lh dc (fun r a b c d => wp_X12_door p1 p2 p3 s night (fun r' v w => r = r' ∧ R a b c d v w)) := by
  obtain ⟨⟨d, hd, rfl, h6, h3, h4⟩, h5⟩ := h
  rcases in_cases p1 0 29 (by decide) (by decide) with ⟨g1, -⟩ | ⟨g1, x1, -, hx1, rfl⟩
  · simp only [wp_X11_door, wp_X12_door, f_X11_isSpot, f_X12_isSpot, within_eq, g1, not_true_eq_false, not_false_eq_true, forall_const, true_implies, false_implies, implies_true, and_true, true_and, and_false, false_and, or_true, true_or, or_false, false_or, forall_eq, ↓reduceIte, ne_eq, nI1ne, nI0eq, Classical.not_not, eq_self, reduceCtorEq]
    exact h0
  rcases in_cases p2 0 23 (by decide) (by decide) with ⟨g2, -⟩ | ⟨g2, x2, -, hx2, rfl⟩
  · simp only [wp_X11_door, wp_X12_door, f_X11_isSpot, f_X12_isSpot, f_X11_isHour, f_X12_isHour, within_eq, g1, g2, nI1ne, not_true_eq_false, not_false_eq_true, forall_const, true_implies, false_implies, implies_true, and_true, true_and, and_false, false_and, or_true, true_or, or_false, false_or, forall_eq, ↓reduceIte, ne_eq, nI1ne, nI0eq, Classical.not_not, eq_self, reduceCtorEq]
    exact h0
  have bad : f_X12_in p3 (nI x2) (nI 23) = nI 0 → (f_X12_in p3 (nI 0) (nI 23) = nI 0 ∨ ¬ nI x2 ≤ p3) → wp_X11_door (nI x1) (nI x2) p3 gr ds fh lh (nI d) (fun r a b c d => wp_X12_door (nI x1) (nI x2) p3 s night (fun r' v w => r = r' ∧ R a b c d v w)) := by
    intro b1 b2
    have b3 : (f_X12_in p3 (nI 0) (nI 23) = 0 ∨ ¬ nI x2 ≤ p3) = True := eq_true b2
    simp only [wp_X11_door, wp_X12_door, f_X11_isSpot, f_X12_isSpot, f_X11_isHour, f_X12_isHour, within_eq, g1, g2, nI1ne, b1, nI0eq, b3, not_true_eq_false, not_false_eq_true, forall_const, true_implies, false_implies, implies_true, and_true, true_and, and_false, false_and, or_true, true_or, or_false, false_or, forall_eq, ↓reduceIte, ne_eq, nI1ne, nI0eq, Classical.not_not, eq_self, reduceCtorEq]
    exact h0
  rcases in_cases p3 x2 23 (by omega) (by decide) with ⟨g3, g3'⟩ | ⟨g3, x3, hx3, hx3', rfl⟩
  · refine bad g3 ?_
    rcases in_cases p3 0 23 (by decide) (by decide) with ⟨g4, -⟩ | ⟨-, x3, -, hx3, rfl⟩
    · exact Or.inl g4
    · right
      rw [nI_natle (by omega) (by omega)]
      intro z
      exact g3' x3 z hx3 rfl
  · have g4 : f_X12_in (nI x3) (nI 0) (nI 23) = nI 1 := by
      rcases in_cases (nI x3) 0 23 (by decide) (by decide) with ⟨-, e⟩ | ⟨e, -⟩
      · exact absurd rfl (e x3 (by omega) hx3')
      · exact e
    have hle : nI x2 ≤ nI x3 := by rw [nI_natle (by omega) (by omega)]; exact hx3
    simp (disch := omega) only [wp_X11_door, wp_X12_door, f_X11_isSpot, f_X12_isSpot, f_X11_isHour, f_X12_isHour, within_eq, g1, g2, g3, g4, hle, nI1ne, vpin, nI_clamp, nI_add, (hgr x1 (by omega)).1, not_true_eq_false, not_false_eq_true, forall_const, true_implies, false_implies, implies_true, and_true, true_and, and_false, false_and, or_true, true_or, or_false, false_or, forall_eq, ↓reduceIte, ne_eq, nI1ne, nI0eq, Classical.not_not, eq_self, reduceCtorEq]
    by_cases w : s (20 + x1) = nI 4
    · by_cases q : d = 6
      · subst q
        simp (disch := omega) only [w, h6, nI_natlt, Nat.lt_irrefl, not_true_eq_false, not_false_eq_true, forall_const, true_implies, false_implies, implies_true, and_true, true_and, and_false, false_and, or_true, true_or, or_false, false_or, forall_eq, ↓reduceIte, ne_eq, nI1ne, nI0eq, Classical.not_not, eq_self, reduceCtorEq]
        exact h0
      · simp (disch := omega) only [w, h6, nI_natlt, nI_nateq, q, show d < 6 from by omega, wp_X6_addDoor, vpin, nI_clamp, nI_add, updne, upde, not_true_eq_false, not_false_eq_true, forall_const, true_implies, false_implies, implies_true, and_true, true_and, and_false, false_and, or_true, true_or, or_false, false_or, forall_eq, ↓reduceIte, ne_eq, nI1ne, nI0eq, Classical.not_not, eq_self, reduceCtorEq]
        refine hR _ _ _ _ _ ⟨⟨d + 1, by omega, rfl, upde, fun i hi => ?_, fun i hi => ?_⟩, fun p hp => ?_⟩ (fun j hj => ?_)
        · obtain ⟨e1, e2, e3⟩ := h3 i hi
          by_cases e : i = d
          · subst e
            simp (disch := omega) only [upde, updne, not_true_eq_false, not_false_eq_true, forall_const, true_implies, false_implies, implies_true, and_true, true_and, and_false, false_and, or_true, true_or, or_false, false_or, forall_eq, ↓reduceIte, ne_eq, nI1ne, nI0eq, Classical.not_not, eq_self, reduceCtorEq]
          · simp (disch := omega) only [updne, e1, e2, e3, not_true_eq_false, not_false_eq_true, forall_const, true_implies, false_implies, implies_true, and_true, true_and, and_false, false_and, or_true, true_or, or_false, false_or, forall_eq, ↓reduceIte, ne_eq, nI1ne, nI0eq, Classical.not_not, eq_self, reduceCtorEq]
        · by_cases e : i = d
          · subst e
            simp (disch := omega) only [upde, updne]
            exact ⟨x1, x2, x3, by omega, hx3, by omega, rfl, rfl, rfl⟩
          · simp (disch := omega) only [updne]
            exact h4 i (by omega)
        · obtain ⟨c, ho, sp, c1, c2, c3, c4, c5⟩ := h5 p hp
          refine ⟨c, ho, sp, c1, ?_, c3, fun k hk => ?_, c5⟩
          · simp (disch := omega) only [updne]; exact c2
          · simp (disch := omega) only [updne]; exact c4 k hk
        · unfold idxN at hj
          have k1 : j ≠ 6 := by omega
          have k2 : j ≠ 230 + d := by omega
          have k3 : j ≠ 236 + d := by omega
          have k4 : j ≠ 242 + d := by omega
          simp only [updne k1, updne k2, updne k3, updne k4]
    · simp only [w, not_true_eq_false, not_false_eq_true, forall_const, true_implies, false_implies, implies_true, and_true, true_and, and_false, false_and, or_true, true_or, or_false, false_or, forall_eq, ↓reduceIte, ne_eq, nI1ne, nI0eq, Classical.not_not, eq_self, reduceCtorEq]
      exact h0
