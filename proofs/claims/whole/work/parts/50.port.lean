theorem core_vote {vo sd ss sn : Nat → Int32} {sc p1 p2 : Int32} {s : Nat → Int32} {R : (Nat → Int32) → (Nat → Int32) → Prop} (h : IHall vo sd ss sn sc s) (hR : ∀ w v, IHall w sd ss sn sc v → outS idxH s v → R w v) : wp_X11_vote p1 p2 vo (fun r w => wp_X12_vote p1 p2 s (fun r' v => r = r' ∧ R w v)) := by
  have h0 := hR vo s h (fun _ _ => rfl)
  rcases in_cases p1 0 5 (by decide) (by decide) with ⟨h1, -⟩ | ⟨h1, a, ha1, ha2, rfl⟩
  · simp only [wp_X11_vote, wp_X12_vote, within_eq, h1, not_true_eq_false, not_false_eq_true, forall_const, true_implies, false_implies, implies_true, and_true, true_and, and_false, false_and, or_true, true_or, or_false, false_or, forall_eq, ↓reduceIte, ne_eq, nI1ne, nI0eq, Classical.not_not, eq_self, reduceCtorEq]
    exact h0
  · rcases in_cases p2 0 99999 (by decide) (by decide) with ⟨h2, -⟩ | ⟨h2, b, hb1, hb2, rfl⟩
    · simp only [wp_X11_vote, wp_X12_vote, within_eq, h1, h2, not_true_eq_false, not_false_eq_true, forall_const, true_implies, false_implies, implies_true, and_true, true_and, and_false, false_and, or_true, true_or, or_false, false_or, forall_eq, ↓reduceIte, ne_eq, nI1ne, nI0eq, Classical.not_not, eq_self, reduceCtorEq]
      exact h0
    · simp (disch := omega) only [wp_X11_vote, wp_X12_vote, within_eq, h1, h2, nI_add, nI_clamp, vpin, not_true_eq_false, not_false_eq_true, forall_const, true_implies, false_implies, implies_true, and_true, true_and, and_false, false_and, or_true, true_or, or_false, false_or, forall_eq, ↓reduceIte, ne_eq, nI1ne, nI0eq, Classical.not_not, eq_self, reduceCtorEq]
      refine ⟨(h.1 a (by omega)).1, hR _ _ ?_ ?_⟩
      · obtain ⟨h3, c, hc, h4, h5, h6⟩ := h
        refine ⟨fun i hi => ?_, c, hc, h4, by rw [updne (by omega)]; exact h5, fun i hi => ?_⟩
        · by_cases q : i = a
          · subst q; rw [upde, upde]; exact ⟨rfl, b, by omega, rfl⟩
          · rw [updne (by omega), updne (by omega)]; exact h3 i hi
        · have e : f_X12_isTrue (upd s (75 + a) (nI b)) (nI i) = f_X12_isTrue s (nI i) := by
            funext x
            unfold f_X12_isTrue
            simp (disch := omega) only [nI_add, nI_clamp, updne]
          rw [e, updne (by omega)]
          exact h6 i hi
      · intro j hj
        rw [updne (fun q => hj (by unfold idxH; omega))]
theorem up12 {a : Nat → Nat} {i v : Nat} (hi : i < 12) : sum12 (va_up a i v) + a i = sum12 a + v := by
  unfold sum12 va_up
  have : i = 0 ∨ i = 1 ∨ i = 2 ∨ i = 3 ∨ i = 4 ∨ i = 5 ∨ i = 6 ∨ i = 7 ∨ i = 8 ∨ i = 9 ∨ i = 10 ∨ i = 11 := by omega
  rcases this with rfl | rfl | rfl | rfl | rfl | rfl | rfl | rfl | rfl | rfl | rfl | rfl <;> simp <;> omega
theorem up4 {a : Nat → Nat} {i v : Nat} (hi : i < 4) : sum4 (va_up a i v) + a i = sum4 a + v := by
  unfold sum4 va_up
  have : i = 0 ∨ i = 1 ∨ i = 2 ∨ i = 3 := by omega
  rcases this with rfl | rfl | rfl | rfl <;> simp <;> omega
theorem core_ship {goods ab pl : Nat → Int32} {sc : Int32} {bond sold passed tar parts pur : Nat → Int32} {chest : Int32} {fs ow : Nat → Int32} {fc : Int32} {uf ut : Nat → Int32} {uc : Int32} {quo s : Nat → Int32} {p1 p2 : Int32} {R : (Nat → Int32) → (Nat → Int32) → (Nat → Int32) → Int32 → (Nat → Int32) → Prop} (h : IPort goods ab pl sc bond sold passed tar parts pur chest fs ow fc uf ut uc quo s) (hR : ∀ g' a' l' c' v, IPort g' a' l' c' bond sold passed tar parts pur chest fs ow fc uf ut uc quo v → outS idxP s v → R g' a' l' c' v) : wp_X11_ship p1 p2 goods ab pl sc (fun r g' a' l' c' => wp_X12_ship p1 p2 s (fun r' v => r = r' ∧ R g' a' l' c' v)) := by
  have h0 := hR goods ab pl sc s h (fun _ _ => rfl)
  obtain ⟨⟨c, a, b, ch, hc, e1, e2, h3, h4, h5, h6, h7, h8, h9, h10⟩, hP2, hP3, hP4⟩ := h
  subst e1
  rcases in_cases p1 0 3 (by decide) (by decide) with ⟨h1, -⟩ | ⟨h1, x, hx1, hx2, rfl⟩
  · simp only [wp_X11_ship, wp_X12_ship, f_X11_isGood, f_X12_isGood, within_eq, h1, not_true_eq_false, not_false_eq_true, forall_const, true_implies, false_implies, implies_true, and_true, true_and, and_false, false_and, or_true, true_or, or_false, false_or, forall_eq, ↓reduceIte, ne_eq, nI1ne, nI0eq, Classical.not_not, eq_self, reduceCtorEq]
    exact h0
  · rcases in_cases p2 1 999 (by decide) (by decide) with ⟨h2, -⟩ | ⟨h2, y, hy1, hy2, rfl⟩
    · simp only [wp_X11_ship, wp_X12_ship, f_X11_isGood, f_X12_isGood, within_eq, h1, h2, not_true_eq_false, not_false_eq_true, forall_const, true_implies, false_implies, implies_true, and_true, true_and, and_false, false_and, or_true, true_or, or_false, false_or, forall_eq, ↓reduceIte, ne_eq, nI1ne, nI0eq, Classical.not_not, eq_self, reduceCtorEq]
      exact h0
    · by_cases hc2 : c = 12
      · subst hc2
        simp (disch := omega) only [wp_X11_ship, wp_X12_ship, f_X11_isGood, f_X12_isGood, within_eq, h1, h2, e2, nI_natlt, Nat.lt_irrefl, not_true_eq_false, not_false_eq_true, forall_const, true_implies, false_implies, implies_true, and_true, true_and, and_false, false_and, or_true, true_or, or_false, false_or, forall_eq, ↓reduceIte, ne_eq, nI1ne, nI0eq, Classical.not_not, eq_self, reduceCtorEq]
        exact h0
      · simp (disch := omega) only [wp_X11_ship, wp_X12_ship, wp_X7_addShip, f_X11_isGood, f_X12_isGood, within_eq, h1, h2, e2, nI_natlt, nI_nateq, hc2, show c < 12 from by omega, nI_add, nI_clamp, vpin, updne, nI_subL, Nat.add_sub_cancel, not_true_eq_false, not_false_eq_true, forall_const, true_implies, false_implies, implies_true, and_true, true_and, and_false, false_and, or_true, true_or, or_false, false_or, forall_eq, ↓reduceIte, ne_eq, nI1ne, nI0eq, Classical.not_not, eq_self, reduceCtorEq]
        refine hR _ _ _ _ _ ?_ (fun j hj => ?_)
        · refine ⟨⟨c + 1, va_up a c y, b, ch, by omega, rfl, upde, fun i hi => ?_, fun i hi => ?_, fun i hi => ?_, fun i hi => ?_, h7, ?_, ?_, ?_⟩, IP2_congr hP2 (fun j hj => ?_), IP3_congr hP3 (fun j hj => ?_), IP4_congr hP4 (fun j hj => ?_)⟩
          · by_cases q : i = c
            · subst q
              simp (disch := omega) only [upde, updne, not_true_eq_false, not_false_eq_true, forall_const, true_implies, false_implies, implies_true, and_true, true_and, and_false, false_and, or_true, true_or, or_false, false_or, forall_eq, ↓reduceIte, ne_eq, nI1ne, nI0eq, Classical.not_not, eq_self, reduceCtorEq]
            · simp (disch := omega) only [updne]
              exact h3 i hi
          · by_cases q : i = c
            · subst q
              simp (disch := omega) only [upde, updne, not_true_eq_false, not_false_eq_true, forall_const, true_implies, false_implies, implies_true, and_true, true_and, and_false, false_and, or_true, true_or, or_false, false_or, forall_eq, ↓reduceIte, ne_eq, nI1ne, nI0eq, Classical.not_not, eq_self, reduceCtorEq]
              exact ⟨x, by omega, rfl⟩
            · simp (disch := omega) only [updne]
              exact h4 i (by omega)
          · by_cases q : i = c
            · subst q
              simp (disch := omega) only [upde, updne, upee]
            · simp (disch := omega) only [updne, upene]
              exact h5 i hi
          · simp (disch := omega) only [updne]; exact h6 i hi
          · simp (disch := omega) only [updne]; exact h8
          · have := up12 (a := a) (i := c) (v := y) (by omega)
            omega
          · have := up12 (a := a) (i := c) (v := y) (by omega)
            omega
          · unfold idx2 at hj; simp (disch := omega) only [updne]
          · unfold idx3 at hj; simp (disch := omega) only [updne]
          · unfold idx4 at hj; simp (disch := omega) only [updne]
        · have q : ¬ idxP j → j ≠ 3 ∧ j ≠ 90 + c ∧ j ≠ 102 + c ∧ j ≠ 114 + c := by
            unfold idxP
            omega
          obtain ⟨q1, q2, q3, q4⟩ := q hj
          simp only [updne q1, updne q2, updne q3, updne q4]
theorem core_leave {goods ab pl : Nat → Int32} {sc : Int32} {bond sold passed tar parts pur : Nat → Int32} {chest : Int32} {fs ow : Nat → Int32} {fc : Int32} {uf ut : Nat → Int32} {uc : Int32} {quo s : Nat → Int32} {p1 p2 : Int32} {R : (Nat → Int32) → (Nat → Int32) → Prop} (h : IPort goods ab pl sc bond sold passed tar parts pur chest fs ow fc uf ut uc quo s) (hR : ∀ l' v, IPort goods ab l' sc bond sold passed tar parts pur chest fs ow fc uf ut uc quo v → outS idxP s v → R l' v) : wp_X11_leave p1 p2 ab pl sc (fun r l' => wp_X12_leave p1 p2 s (fun r' v => r = r' ∧ R l' v)) := by
  have h0 := hR pl s h (fun _ _ => rfl)
  obtain ⟨⟨c, a, b, ch, hc, e1, e2, h3, h4, h5, h6, h7, h8, h9, h10⟩, hP2, hP3, hP4⟩ := h
  subst e1
  rcases in_cases1 p1 c (by omega) with ⟨h1, -⟩ | ⟨h1, x, hx, rfl⟩
  · simp only [wp_X11_leave, wp_X12_leave, f_X7_isShip, f_X12_isShip, within_eq, e2, h1, not_true_eq_false, not_false_eq_true, forall_const, true_implies, false_implies, implies_true, and_true, true_and, and_false, false_and, or_true, true_or, or_false, false_or, forall_eq, ↓reduceIte, ne_eq, nI1ne, nI0eq, Classical.not_not, eq_self, reduceCtorEq]
    exact h0
  · rcases in_cases p2 0 2 (by decide) (by decide) with ⟨h2, -⟩ | ⟨h2, y, hy1, hy2, rfl⟩
    · simp only [wp_X11_leave, wp_X12_leave, f_X7_isShip, f_X12_isShip, within_eq, e2, h1, h2, not_true_eq_false, not_false_eq_true, forall_const, true_implies, false_implies, implies_true, and_true, true_and, and_false, false_and, or_true, true_or, or_false, false_or, forall_eq, ↓reduceIte, ne_eq, nI1ne, nI0eq, Classical.not_not, eq_self, reduceCtorEq]
      exact h0
    · simp (disch := omega) only [wp_X11_leave, wp_X12_leave, f_X7_isShip, f_X12_isShip, within_eq, e2, h1, h2, nI_add, nI_clamp, vpin, (h3 x (by omega)).2.2, (h3 x (by omega)).2.1, updne, not_true_eq_false, not_false_eq_true, forall_const, true_implies, false_implies, implies_true, and_true, true_and, and_false, false_and, or_true, true_or, or_false, false_or, forall_eq, ↓reduceIte, ne_eq, nI1ne, nI0eq, Classical.not_not, eq_self, reduceCtorEq]
      have fin : ∀ w : Int32, (w = -2 ∨ w = -3 ∨ w = -4) → R (upd pl x w) (upd s (114 + x) w) := by
        intro w hw
        refine hR _ _ ?_ (fun j hj => updne (fun q => hj (by unfold idxP; omega)))
        refine ⟨⟨c, a, b, ch, by omega, rfl, by rw [updne (by omega)]; exact e2, fun i hi => ?_, fun i hi => ?_, fun i hi => ?_, fun i hi => ?_, h7, ?_, h9, h10⟩, IP2_congr hP2 (fun j hj => ?_), IP3_congr hP3 (fun j hj => ?_), IP4_congr hP4 (fun j hj => ?_)⟩
        · by_cases q : i = x
          · subst q
            simp (disch := omega) only [upde, updne, not_true_eq_false, not_false_eq_true, forall_const, true_implies, false_implies, implies_true, and_true, true_and, and_false, false_and, or_true, true_or, or_false, false_or, forall_eq, ↓reduceIte, ne_eq, nI1ne, nI0eq, Classical.not_not, eq_self, reduceCtorEq]
            exact ⟨(h3 i hi).1, (h3 i hi).2.1⟩
          · simp (disch := omega) only [updne]
            exact h3 i hi
        · by_cases q : i = x
          · subst q
            simp (disch := omega) only [upde, updne]
            refine ⟨(h4 i hi).1, ?_⟩
            rcases hw with rfl | rfl | rfl
            · exact Or.inl rfl
            · exact Or.inr (Or.inl rfl)
            · exact Or.inr (Or.inr (Or.inl rfl))
          · simp (disch := omega) only [updne]
            exact h4 i hi
        · simp (disch := omega) only [updne]; exact h5 i hi
        · simp (disch := omega) only [updne]; exact h6 i hi
        · simp (disch := omega) only [updne]; exact h8
        · unfold idx2 at hj; simp (disch := omega) only [updne]
        · unfold idx3 at hj; simp (disch := omega) only [updne]
        · unfold idx4 at hj; simp (disch := omega) only [updne]
      have hy : y = 0 ∨ y = 1 ∨ y = 2 := by omega
      rcases (h4 x hx).2 with q | q | q | ⟨z, hz, q⟩
      · rw [q]
        rcases hy with rfl | rfl | rfl
        · simp (config := { decide := true }) only [not_true_eq_false, not_false_eq_true, forall_const, true_implies, false_implies, implies_true, and_true, true_and, and_false, false_and, or_true, true_or, or_false, false_or, forall_eq, ↓reduceIte, ne_eq, nI1ne, nI0eq, Classical.not_not, eq_self, reduceCtorEq]
          exact h0
        · simp (config := { decide := true }) only [not_true_eq_false, not_false_eq_true, forall_const, true_implies, false_implies, implies_true, and_true, true_and, and_false, false_and, or_true, true_or, or_false, false_or, forall_eq, ↓reduceIte, ne_eq, nI1ne, nI0eq, Classical.not_not, eq_self, reduceCtorEq]
          exact fin _ (by decide)
        · simp (config := { decide := true }) only [not_true_eq_false, not_false_eq_true, forall_const, true_implies, false_implies, implies_true, and_true, true_and, and_false, false_and, or_true, true_or, or_false, false_or, forall_eq, ↓reduceIte, ne_eq, nI1ne, nI0eq, Classical.not_not, eq_self, reduceCtorEq]
          exact fin _ (by decide)
      · rw [q]
        simp (config := { decide := true }) only [not_true_eq_false, not_false_eq_true, forall_const, true_implies, false_implies, implies_true, and_true, true_and, and_false, false_and, or_true, true_or, or_false, false_or, forall_eq, ↓reduceIte, ne_eq, nI1ne, nI0eq, Classical.not_not, eq_self, reduceCtorEq]
        exact h0
      · rw [q]
        simp (config := { decide := true }) only [not_true_eq_false, not_false_eq_true, forall_const, true_implies, false_implies, implies_true, and_true, true_and, and_false, false_and, or_true, true_or, or_false, false_or, forall_eq, ↓reduceIte, ne_eq, nI1ne, nI0eq, Classical.not_not, eq_self, reduceCtorEq]
        exact h0
      · rw [q]
        have z1 : ¬ nI z = -2 := by
          intro g
          have := congrArg Int32.toInt g
          rw [nI_toInt (by omega)] at this
          have q9 : (-2 : Int32).toInt = -2 := by decide
          omega
        have z2 : ¬ nI z = -3 := by
          intro g
          have := congrArg Int32.toInt g
          rw [nI_toInt (by omega)] at this
          have q9 : (-3 : Int32).toInt = -3 := by decide
          omega
        have z3 : ¬ nI z = -4 := by
          intro g
          have := congrArg Int32.toInt g
          rw [nI_toInt (by omega)] at this
          have q9 : (-4 : Int32).toInt = -4 := by decide
          omega
        have z4 : ¬ nI z < -2 := by
          rw [Int32.lt_iff_toInt_lt, nI_toInt (by omega)]
          have q9 : (-2 : Int32).toInt = -2 := by decide
          omega
        simp only [z1, z2, z3, z4, not_true_eq_false, not_false_eq_true, forall_const, true_implies, false_implies, implies_true, and_true, true_and, and_false, false_and, or_true, true_or, or_false, false_or, forall_eq, ↓reduceIte, ne_eq, nI1ne, nI0eq, Classical.not_not, eq_self, reduceCtorEq]
        rcases hy with rfl | rfl | rfl <;> exact fin _ (by decide)
theorem hasShip {p : Int32} {pl : Nat → Int32} {c : Nat} {Q : Int32 → Prop} (hc : c ≤ 12) (h1 : (∃ i, i < c ∧ pl i = p) → Q (nI 1)) (h2 : (∀ i, i < c → ¬ pl i = p) → Q (nI 0)) : wp_X7_hasShipAt p pl (nI c) Q := by
  unfold wp_X7_hasShipAt
  have key : ∀ k, k ≤ c → (∀ i, i < c - k → ¬ pl i = p) → wl_X7_hasShipAt_2 p pl (nI c) Q (k + 1) (nI (c - k)) := by
    intro k
    induction k with
    | zero =>
      intro _ h
      simp (disch := omega) only [wl_X7_hasShipAt_2, wb_X7_hasShipAt_2, nI_natle, Nat.sub_zero, Nat.le_refl, not_true_eq_false, not_false_eq_true, forall_const, true_implies, false_implies, implies_true, and_true, true_and, and_false, false_and, or_true, true_or, or_false, false_or, forall_eq, ↓reduceIte, ne_eq, nI1ne, nI0eq, Classical.not_not, eq_self, reduceCtorEq]
      exact h2 (by simpa using h)
    | succ k ih =>
      intro hk h
      rw [wl_X7_hasShipAt_2]
      simp (disch := omega) only [wb_X7_hasShipAt_2, nI_natle, nI_clamp, vpin, nI_add, show ¬ c ≤ c - (k + 1) from by omega, show c - (k + 1) + 1 = c - k from by omega, not_true_eq_false, not_false_eq_true, forall_const, true_implies, false_implies, implies_true, and_true, true_and, and_false, false_and, or_true, true_or, or_false, false_or, forall_eq, ↓reduceIte, ne_eq, nI1ne, nI0eq, Classical.not_not, eq_self, reduceCtorEq]
      by_cases q : pl (c - (k + 1)) = p
      · simp only [q, not_true_eq_false, not_false_eq_true, forall_const, true_implies, false_implies, implies_true, and_true, true_and, and_false, false_and, or_true, true_or, or_false, false_or, forall_eq, ↓reduceIte, ne_eq, nI1ne, nI0eq, Classical.not_not, eq_self, reduceCtorEq]
        exact h1 ⟨_, by omega, q⟩
      · simp only [q, not_true_eq_false, not_false_eq_true, forall_const, true_implies, false_implies, implies_true, and_true, true_and, and_false, false_and, or_true, true_or, or_false, false_or, forall_eq, ↓reduceIte, ne_eq, nI1ne, nI0eq, Classical.not_not, eq_self, reduceCtorEq]
        refine ih (by omega) (fun i hi => ?_)
        by_cases g : i = c - (k + 1)
        · rw [g]; exact q
        · exact h i (by omega)
  have := key c (Nat.le_refl c) (fun i hi => by omega)
  rw [Nat.sub_self] at this
  exact ⟨_, this⟩
/-- the reference's look for a free place: b0 at first, then no ship of the first c at p -/
theorem core_tariff {goods ab pl : Nat → Int32} {sc : Int32} {bond sold passed tar parts pur : Nat → Int32} {chest : Int32} {fs ow : Nat → Int32} {fc : Int32} {uf ut : Nat → Int32} {uc : Int32} {quo s : Nat → Int32} {p1 p2 p3 : Int32} {R : (Nat → Int32) → (Nat → Int32) → (Nat → Int32) → Prop} (h : IPort goods ab pl sc bond sold passed tar parts pur chest fs ow fc uf ut uc quo s) (hR : ∀ t' q' v, IPort goods ab pl sc bond sold passed t' q' pur chest fs ow fc uf ut uc quo v → outS idxP s v → R t' q' v) : wp_X11_tariff p1 p2 p3 tar parts (fun r t' q' => wp_X12_tariff p1 p2 p3 s (fun r' v => r = r' ∧ R t' q' v)) := by
  have h0 := hR tar parts s h (fun _ _ => rfl)
  obtain ⟨hP1, hP2, hP3, hP4⟩ := h
  rcases in_cases p1 0 1 (by decide) (by decide) with ⟨h1, h1'⟩ | ⟨h1, x, hx1, hx2, rfl⟩
  · have q0 : ¬ p1 = 0 := h1' 0 (by decide) (by decide)
    have q1 : ¬ p1 = nI 1 := h1' 1 (by decide) (by decide)
    simp only [wp_X11_tariff, wp_X12_tariff, within_eq, h1, q0, q1, not_true_eq_false, not_false_eq_true, forall_const, true_implies, false_implies, implies_true, and_true, true_and, and_false, false_and, or_true, true_or, or_false, false_or, forall_eq, ↓reduceIte, ne_eq, nI1ne, nI0eq, Classical.not_not, eq_self, reduceCtorEq]
    exact h0
  · have hx : x = 0 ∨ x = 1 := by omega
    rcases hx with rfl | rfl
    · rcases in_cases p2 0 3 (by decide) (by decide) with ⟨h2, -⟩ | ⟨h2, y, hy1, hy2, rfl⟩
      · simp only [wp_X11_tariff, wp_X12_tariff, f_X11_isGood, within_eq, h1, h2, show ((nI 0 : Int32) = nI 1) = False from eq_false (by decide), not_true_eq_false, not_false_eq_true, forall_const, true_implies, false_implies, implies_true, and_true, true_and, and_false, false_and, or_true, true_or, or_false, false_or, forall_eq, ↓reduceIte, ne_eq, nI1ne, nI0eq, Classical.not_not, eq_self, reduceCtorEq]
        exact h0
      · rcases in_cases p3 0 99 (by decide) (by decide) with ⟨h3, -⟩ | ⟨h3, z, hz1, hz2, rfl⟩
        · simp only [wp_X11_tariff, wp_X12_tariff, f_X11_isGood, within_eq, h1, h2, h3, not_true_eq_false, not_false_eq_true, forall_const, true_implies, false_implies, implies_true, and_true, true_and, and_false, false_and, or_true, true_or, or_false, false_or, forall_eq, ↓reduceIte, ne_eq, nI1ne, nI0eq, Classical.not_not, eq_self, reduceCtorEq]
          exact h0
        · simp (disch := omega) only [wp_X11_tariff, wp_X12_tariff, f_X11_isGood, within_eq, h1, h2, h3, nI_add, nI_clamp, vpin, (hP2 y (by omega)).2.2.2.1, not_true_eq_false, not_false_eq_true, forall_const, true_implies, false_implies, implies_true, and_true, true_and, and_false, false_and, or_true, true_or, or_false, false_or, forall_eq, ↓reduceIte, ne_eq, nI1ne, nI0eq, Classical.not_not, eq_self, reduceCtorEq]
          refine hR _ _ _ ⟨IP1_congr hP1 (fun j hj => ?_), fun g hg => ?_, IP3_congr hP3 (fun j hj => ?_), IP4_congr hP4 (fun j hj => ?_)⟩ (fun j hj => ?_)
          · unfold idx1 at hj; simp (disch := omega) only [updne]
          · by_cases q : g = y
            · subst q
              simp (disch := omega) only [upde, updne, not_true_eq_false, not_false_eq_true, forall_const, true_implies, false_implies, implies_true, and_true, true_and, and_false, false_and, or_true, true_or, or_false, false_or, forall_eq, ↓reduceIte, ne_eq, nI1ne, nI0eq, Classical.not_not, eq_self, reduceCtorEq]
              exact ⟨(hP2 g hg).1, (hP2 g hg).2.1, (hP2 g hg).2.2.1, z, by omega, rfl⟩
            · simp (disch := omega) only [updne]; exact hP2 g hg
          · unfold idx3 at hj; simp (disch := omega) only [updne]
          · unfold idx4 at hj; simp (disch := omega) only [updne]
          · exact updne (fun q => hj (by unfold idxP; omega))
    · rcases in_cases p2 0 2 (by decide) (by decide) with ⟨h2, -⟩ | ⟨h2, y, hy1, hy2, rfl⟩
      · simp only [wp_X11_tariff, wp_X12_tariff, f_X11_isSide, within_eq, h1, h2, not_true_eq_false, not_false_eq_true, forall_const, true_implies, false_implies, implies_true, and_true, true_and, and_false, false_and, or_true, true_or, or_false, false_or, forall_eq, ↓reduceIte, ne_eq, nI1ne, nI0eq, Classical.not_not, eq_self, reduceCtorEq]
        exact h0
      · rcases in_cases p3 0 99 (by decide) (by decide) with ⟨h3, -⟩ | ⟨h3, z, hz1, hz2, rfl⟩
        · simp only [wp_X11_tariff, wp_X12_tariff, f_X11_isSide, within_eq, h1, h2, h3, not_true_eq_false, not_false_eq_true, forall_const, true_implies, false_implies, implies_true, and_true, true_and, and_false, false_and, or_true, true_or, or_false, false_or, forall_eq, ↓reduceIte, ne_eq, nI1ne, nI0eq, Classical.not_not, eq_self, reduceCtorEq]
          exact h0
        · simp (disch := omega) only [wp_X11_tariff, wp_X12_tariff, f_X11_isSide, within_eq, h1, h2, h3, nI_add, nI_clamp, vpin, (hP3 y (by omega)).1, not_true_eq_false, not_false_eq_true, forall_const, true_implies, false_implies, implies_true, and_true, true_and, and_false, false_and, or_true, true_or, or_false, false_or, forall_eq, ↓reduceIte, ne_eq, nI1ne, nI0eq, Classical.not_not, eq_self, reduceCtorEq]
          refine hR _ _ _ ⟨IP1_congr hP1 (fun j hj => ?_), IP2_congr hP2 (fun j hj => ?_), fun g hg => ?_, IP4_congr hP4 (fun j hj => ?_)⟩ (fun j hj => ?_)
          · unfold idx1 at hj; simp (disch := omega) only [updne]
          · unfold idx2 at hj; simp (disch := omega) only [updne]
          · by_cases q : g = y
            · subst q
              simp (disch := omega) only [upde, updne, not_true_eq_false, not_false_eq_true, forall_const, true_implies, false_implies, implies_true, and_true, true_and, and_false, false_and, or_true, true_or, or_false, false_or, forall_eq, ↓reduceIte, ne_eq, nI1ne, nI0eq, Classical.not_not, eq_self, reduceCtorEq]
              exact ⟨⟨z, by omega, rfl⟩, (hP3 g hg).2.2⟩
            · simp (disch := omega) only [updne]; exact hP3 g hg
          · unfold idx4 at hj; simp (disch := omega) only [updne]
          · exact updne (fun q => hj (by unfold idxP; omega))
theorem core_whole {goods ab pl : Nat → Int32} {sc : Int32} {bond sold passed tar parts pur : Nat → Int32} {chest : Int32} {fs ow : Nat → Int32} {fc : Int32} {uf ut : Nat → Int32} {uc : Int32} {quo s : Nat → Int32} {p1 p2 : Int32} {R : Prop} (h : IPort goods ab pl sc bond sold passed tar parts pur chest fs ow fc uf ut uc quo s) (hR : R) : wp_X11_whole p1 p2 ab pl sc bond sold passed pur (fun r => wp_X12_whole p1 p2 s (fun r' => r = r' ∧ R)) := by
  obtain ⟨⟨c, a, b, ch, hc, e1, e2, h3, h4, h5, h6, h7, h8, h9, h10⟩, hP2, hP3, hP4⟩ := h
  subst e1
  have ne : ∀ a b : Nat, a < 100 → b < 100 → a ≠ b → (nI a = nI b) = False := fun a b ha hb hab => by rw [nI_nateq (by omega) (by omega)]; exact eq_false hab
  have d01 := ne 0 1 (by decide) (by decide) (by decide)
  have d : ∀ k : Nat, p1 = nI k → k < 6 → wp_X11_whole p1 p2 ab pl (nI c) bond sold passed pur (fun r => wp_X12_whole p1 p2 s (fun r' => r = r' ∧ R)) := by
    intro k hk hk6
    subst hk
    have : k = 0 ∨ k = 1 ∨ k = 2 ∨ k = 3 ∨ k = 4 ∨ k = 5 := by omega
    rcases this with rfl | rfl | rfl | rfl | rfl | rfl
    · rcases in_cases p2 0 2 (by decide) (by decide) with ⟨h2, -⟩ | ⟨h2, y, hy1, hy2, rfl⟩
      · simp (disch := decide) only [wp_X11_whole, wp_X12_whole, f_X11_isSide, within_eq, h2, ne, not_true_eq_false, not_false_eq_true, forall_const, true_implies, false_implies, implies_true, and_true, true_and, and_false, false_and, or_true, true_or, or_false, false_or, forall_eq, ↓reduceIte, ne_eq, nI1ne, nI0eq, Classical.not_not, eq_self, reduceCtorEq]; exact hR
      · simp (disch := omega) only [wp_X11_whole, wp_X12_whole, f_X11_isSide, within_eq, h2, nI_nateq, show ∀ a b : Nat, (a = b) = (a = b) from fun _ _ => rfl, nI_add, nI_clamp, vpin, (hP3 y (by omega)).2.2.1, Nat.reduceEqDiff, not_true_eq_false, not_false_eq_true, forall_const, true_implies, false_implies, implies_true, and_true, true_and, and_false, false_and, or_true, true_or, or_false, false_or, forall_eq, ↓reduceIte, ne_eq, nI1ne, nI0eq, Classical.not_not, eq_self, reduceCtorEq]; exact hR
    · rcases in_cases p2 0 3 (by decide) (by decide) with ⟨h2, -⟩ | ⟨h2, y, hy1, hy2, rfl⟩
      · simp (disch := decide) only [wp_X11_whole, wp_X12_whole, f_X11_isGood, f_X12_isGood, within_eq, h2, ne, not_true_eq_false, not_false_eq_true, forall_const, true_implies, false_implies, implies_true, and_true, true_and, and_false, false_and, or_true, true_or, or_false, false_or, forall_eq, ↓reduceIte, ne_eq, nI1ne, nI0eq, Classical.not_not, eq_self, reduceCtorEq]; exact hR
      · simp (disch := omega) only [wp_X11_whole, wp_X12_whole, f_X11_isGood, f_X12_isGood, within_eq, h2, nI_nateq, nI_add, nI_clamp, vpin, (hP2 y (by omega)).1, Nat.reduceEqDiff, not_true_eq_false, not_false_eq_true, forall_const, true_implies, false_implies, implies_true, and_true, true_and, and_false, false_and, or_true, true_or, or_false, false_or, forall_eq, ↓reduceIte, ne_eq, nI1ne, nI0eq, Classical.not_not, eq_self, reduceCtorEq]; exact hR
    · rcases in_cases p2 0 3 (by decide) (by decide) with ⟨h2, -⟩ | ⟨h2, y, hy1, hy2, rfl⟩
      · simp (disch := decide) only [wp_X11_whole, wp_X12_whole, f_X11_isGood, f_X12_isGood, within_eq, h2, ne, not_true_eq_false, not_false_eq_true, forall_const, true_implies, false_implies, implies_true, and_true, true_and, and_false, false_and, or_true, true_or, or_false, false_or, forall_eq, ↓reduceIte, ne_eq, nI1ne, nI0eq, Classical.not_not, eq_self, reduceCtorEq]; exact hR
      · simp (disch := omega) only [wp_X11_whole, wp_X12_whole, f_X11_isGood, f_X12_isGood, within_eq, h2, nI_nateq, nI_add, nI_clamp, vpin, (hP2 y (by omega)).2.1, Nat.reduceEqDiff, not_true_eq_false, not_false_eq_true, forall_const, true_implies, false_implies, implies_true, and_true, true_and, and_false, false_and, or_true, true_or, or_false, false_or, forall_eq, ↓reduceIte, ne_eq, nI1ne, nI0eq, Classical.not_not, eq_self, reduceCtorEq]; exact hR
    · rcases in_cases p2 0 3 (by decide) (by decide) with ⟨h2, -⟩ | ⟨h2, y, hy1, hy2, rfl⟩
      · simp (disch := decide) only [wp_X11_whole, wp_X12_whole, f_X11_isGood, f_X12_isGood, within_eq, h2, ne, not_true_eq_false, not_false_eq_true, forall_const, true_implies, false_implies, implies_true, and_true, true_and, and_false, false_and, or_true, true_or, or_false, false_or, forall_eq, ↓reduceIte, ne_eq, nI1ne, nI0eq, Classical.not_not, eq_self, reduceCtorEq]; exact hR
      · simp (disch := omega) only [wp_X11_whole, wp_X12_whole, f_X11_isGood, f_X12_isGood, within_eq, h2, nI_nateq, nI_add, nI_clamp, vpin, (hP2 y (by omega)).2.2.1, Nat.reduceEqDiff, not_true_eq_false, not_false_eq_true, forall_const, true_implies, false_implies, implies_true, and_true, true_and, and_false, false_and, or_true, true_or, or_false, false_or, forall_eq, ↓reduceIte, ne_eq, nI1ne, nI0eq, Classical.not_not, eq_self, reduceCtorEq]; exact hR
    · rcases in_cases1 p2 c (by omega) with ⟨h2, -⟩ | ⟨h2, y, hy, rfl⟩
      · simp (disch := decide) only [wp_X11_whole, wp_X12_whole, f_X7_isShip, f_X12_isShip, e2, within_eq, h2, ne, not_true_eq_false, not_false_eq_true, forall_const, true_implies, false_implies, implies_true, and_true, true_and, and_false, false_and, or_true, true_or, or_false, false_or, forall_eq, ↓reduceIte, ne_eq, nI1ne, nI0eq, Classical.not_not, eq_self, reduceCtorEq]; exact hR
      · simp (disch := omega) only [wp_X11_whole, wp_X12_whole, f_X7_isShip, f_X12_isShip, e2, within_eq, h2, nI_nateq, nI_add, nI_clamp, vpin, (h3 y (by omega)).2.1, Nat.reduceEqDiff, not_true_eq_false, not_false_eq_true, forall_const, true_implies, false_implies, implies_true, and_true, true_and, and_false, false_and, or_true, true_or, or_false, false_or, forall_eq, ↓reduceIte, ne_eq, nI1ne, nI0eq, Classical.not_not, eq_self, reduceCtorEq]; exact hR
    · rcases in_cases1 p2 c (by omega) with ⟨h2, -⟩ | ⟨h2, y, hy, rfl⟩
      · simp (disch := decide) only [wp_X11_whole, wp_X12_whole, f_X7_isShip, f_X12_isShip, e2, within_eq, h2, ne, not_true_eq_false, not_false_eq_true, forall_const, true_implies, false_implies, implies_true, and_true, true_and, and_false, false_and, or_true, true_or, or_false, false_or, forall_eq, ↓reduceIte, ne_eq, nI1ne, nI0eq, Classical.not_not, eq_self, reduceCtorEq]; exact hR
      · simp (disch := omega) only [wp_X11_whole, wp_X12_whole, f_X7_isShip, f_X12_isShip, e2, within_eq, h2, nI_nateq, nI_add, nI_clamp, vpin, (h3 y (by omega)).2.2, Nat.reduceEqDiff, not_true_eq_false, not_false_eq_true, forall_const, true_implies, false_implies, implies_true, and_true, true_and, and_false, false_and, or_true, true_or, or_false, false_or, forall_eq, ↓reduceIte, ne_eq, nI1ne, nI0eq, Classical.not_not, eq_self, reduceCtorEq]; exact hR
  by_cases q : ∃ k, k < 6 ∧ p1 = nI k
  · obtain ⟨k, hk, q⟩ := q
    exact d k q hk
  · have n : ∀ k, k < 6 → (p1 = nI k) = False := fun k hk => eq_false (fun g => q ⟨k, hk, g⟩)
    simp only [wp_X11_whole, wp_X12_whole, n 0 (by decide), n 1 (by decide), n 2 (by decide), n 3 (by decide), n 4 (by decide), n 5 (by decide), not_true_eq_false, not_false_eq_true, forall_const, true_implies, false_implies, implies_true, and_true, true_and, and_false, false_and, or_true, true_or, or_false, false_or, forall_eq, ↓reduceIte, ne_eq, nI1ne, nI0eq, Classical.not_not, eq_self, reduceCtorEq]
    exact hR
