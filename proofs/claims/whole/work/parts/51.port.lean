def nB (b : Bool) : Int32 := nI (if b then 1 else 0)
theorem nB0 (b : Bool) : (nB b = 0) = (b = false) := by cases b <;> simp [nB, nI1ne, nI0eq]
theorem nB_t : nB true = nI 1 := rfl
theorem nB_f : nB false = nI 0 := rfl
def andTo (b : Bool) (f : Nat → Bool) (i : Nat) : Bool := b && (List.range i).all f
theorem andTo_0 (b : Bool) (f : Nat → Bool) : andTo b f 0 = b := by simp [andTo]
theorem andTo_s (b : Bool) (f : Nat → Bool) (i : Nat) : andTo b f (i + 1) = (andTo b f i && f i) := by
  simp [andTo, List.range_succ, Bool.and_assoc]
theorem andTo_t (b : Bool) (f : Nat → Bool) (i : Nat) : andTo b f i = true ↔ b = true ∧ ∀ j, j < i → f j = true := by
  simp [andTo]
theorem andStep (b : Bool) {c : Prop} [Decidable c] : (if nB b = 0 then nI 0 else if c then nI 0 else nI 1) = nB (b && decide (¬ c)) := by
  cases b
  · simp [nB, nI0eq]
  · by_cases h : c <;> simp [nB, nI1ne, h]
theorem nI_mul (a b : Nat) : nI a * nI b = nI (a * b) := (Int32.ofNat_mul a b).symm
theorem core_berth {gr goods ab pl : Nat → Int32} {sc : Int32} {bond sold passed tar parts pur : Nat → Int32} {chest : Int32} {fs ow : Nat → Int32} {fc : Int32} {uf ut : Nat → Int32} {uc : Int32} {quo s : Nat → Int32} {p1 p2 : Int32} {R : (Nat → Int32) → (Nat → Int32) → Prop} (hgr : ∀ i, i < 30 → gr i = s (20 + i) ∧ isN (s (20 + i)) 5) (h : IPort goods ab pl sc bond sold passed tar parts pur chest fs ow fc uf ut uc quo s) (hR : ∀ l' v, IPort goods ab l' sc bond sold passed tar parts pur chest fs ow fc uf ut uc quo v → outS idxP s v → R l' v) : wp_X11_berth p1 p2 gr pl sc (fun r l' => wp_X12_berth p1 p2 s (fun r' v => r = r' ∧ R l' v)) := by
  have h0 := hR pl s h (fun _ _ => rfl)
  obtain ⟨⟨c, a, b, ch, hc, e1, e2, h3, h4, h5, h6, h7, h8, h9, h10⟩, hP2, hP3, hP4⟩ := h
  subst e1
  rcases in_cases1 p1 c (by omega) with ⟨h1, -⟩ | ⟨h1, x, hx, rfl⟩
  · simp only [wp_X11_berth, wp_X12_berth, f_X7_isShip, f_X12_isShip, within_eq, e2, h1, not_true_eq_false, not_false_eq_true, forall_const, true_implies, false_implies, implies_true, and_true, true_and, and_false, false_and, or_true, true_or, or_false, false_or, forall_eq, ↓reduceIte, ne_eq, nI1ne, nI0eq, Classical.not_not, eq_self, reduceCtorEq]
    exact h0
  · rcases in_cases p2 0 29 (by decide) (by decide) with ⟨h2, -⟩ | ⟨h2, y, hy1, hy2, rfl⟩
    · simp only [wp_X11_berth, wp_X12_berth, f_X7_isShip, f_X12_isShip, f_X11_isSpot, f_X12_isSpot, within_eq, e2, h1, h2, not_true_eq_false, not_false_eq_true, forall_const, true_implies, false_implies, implies_true, and_true, true_and, and_false, false_and, or_true, true_or, or_false, false_or, forall_eq, ↓reduceIte, ne_eq, nI1ne, nI0eq, Classical.not_not, eq_self, reduceCtorEq]
      exact h0
    · obtain ⟨g1, gd, hgd, g2⟩ := hgr y (by omega)
      have model : ∀ (b0 : Bool) (K : Int32 → (Nat → Int32) → Prop), (andTo b0 (fun i => decide (¬ s (114 + i) = nI y)) c = true → K (nI 1) (upd s (114 + x) (nI y))) → (andTo b0 (fun i => decide (¬ s (114 + i) = nI y)) c = false → K (-3) s) → ∃ n, wl_X12_berth_57 (nI x) (nI y) s K n (nB b0) (nI 0) := by
        intro b0 K k1 k2
        have q : ∃ n, wl_X12_berth_57 (nI x) (nI y) s K n (nB (andTo b0 (fun i => decide (¬ s (114 + i) = nI y)) 0)) (nI 0) := by
          refine run2 (F := wl_X12_berth_57 (nI x) (nI y) s K) c (fun i => nB (andTo b0 (fun i => decide (¬ s (114 + i) = nI y)) i)) (fun i => nI i) ?_ ?_
          · intro i hi m hm
            rw [wl_X12_berth_57]
            simp (disch := omega) only [wb_X12_berth_57, e2, nI_natle, show ¬ c ≤ i from by omega, nI_add, nI_clamp, vpin, andStep, not_true_eq_false, not_false_eq_true, forall_const, true_implies, false_implies, implies_true, and_true, true_and, and_false, false_and, or_true, true_or, or_false, false_or, forall_eq, ↓reduceIte, ne_eq, nI1ne, nI0eq, Classical.not_not, eq_self, reduceCtorEq]
            rw [andTo_s] at hm
            exact hm
          · intro m
            rw [wl_X12_berth_57]
            simp (disch := omega) only [wb_X12_berth_57, e2, nI_natle, Nat.le_refl, nI_add, nI_clamp, vpin, nB0, Bool.not_eq_false, not_true_eq_false, not_false_eq_true, forall_const, true_implies, false_implies, implies_true, and_true, true_and, and_false, false_and, or_true, true_or, or_false, false_or, forall_eq, ↓reduceIte, ne_eq, nI1ne, nI0eq, Classical.not_not, eq_self, reduceCtorEq]
            exact ⟨k1, k2⟩
        rw [andTo_0] at q
        exact q
      simp (disch := omega) only [wp_X11_berth, wp_X12_berth, f_X7_isShip, f_X12_isShip, f_X11_isSpot, f_X12_isSpot, within_eq, e2, h1, h2, nI_add, nI_clamp, vpin, g1, not_true_eq_false, not_false_eq_true, forall_const, true_implies, false_implies, implies_true, and_true, true_and, and_false, false_and, or_true, true_or, or_false, false_or, forall_eq, ↓reduceIte, ne_eq, nI1ne, nI0eq, Classical.not_not, eq_self, reduceCtorEq]
      have gg : (if f_X12_in (s (20 + y)) (nI 1) (nI 2) = 0 then nI 0 else if s (114 + x) = -2 then nI 1 else nI 0) = nB (decide ((gd = 1 ∨ gd = 2) ∧ s (114 + x) = -2)) := by
        rw [g2, in_def]
        have : gd = 0 ∨ gd = 1 ∨ gd = 2 ∨ gd = 3 ∨ gd = 4 ∨ gd = 5 := by omega
        by_cases w : s (114 + x) = -2
        · rcases this with rfl | rfl | rfl | rfl | rfl | rfl <;> simp (config := { decide := true }) [w, nB]
        · rcases this with rfl | rfl | rfl | rfl | rfl | rfl <;> simp (config := { decide := true }) [w, nB]
      rw [gg]
      by_cases t : gd = 1 ∨ gd = 2
      · have t1 : (if s (20 + y) = nI 1 then nI 1 else if s (20 + y) = nI 2 then nI 1 else nI 0) = nI 1 := by
          rw [g2]
          rcases t with rfl | rfl <;> decide
        rw [t1]
        simp only [not_true_eq_false, not_false_eq_true, forall_const, true_implies, false_implies, implies_true, and_true, true_and, and_false, false_and, or_true, true_or, or_false, false_or, forall_eq, ↓reduceIte, ne_eq, nI1ne, nI0eq, Classical.not_not, eq_self, reduceCtorEq]
        refine hasShip (by omega) (fun hs => ?_) (fun hs => ?_)
        · simp only [not_true_eq_false, not_false_eq_true, forall_const, true_implies, false_implies, implies_true, and_true, true_and, and_false, false_and, or_true, true_or, or_false, false_or, forall_eq, ↓reduceIte, ne_eq, nI1ne, nI0eq, Classical.not_not, eq_self, reduceCtorEq]
          refine model _ _ (fun q => ?_) (fun _ => ?_)
          · exfalso
            obtain ⟨i, hi, hp⟩ := hs
            have := (andTo_t _ _ _).mp q
            have := this.2 i hi
            rw [(h3 i (by omega)).2.2] at hp
            simp [hp] at this
          · simp only [not_true_eq_false, not_false_eq_true, forall_const, true_implies, false_implies, implies_true, and_true, true_and, and_false, false_and, or_true, true_or, or_false, false_or, forall_eq, ↓reduceIte, ne_eq, nI1ne, nI0eq, Classical.not_not, eq_self, reduceCtorEq]; exact h0
        · simp (disch := omega) only [(h3 x (by omega)).2.2, vpin, not_true_eq_false, not_false_eq_true, forall_const, true_implies, false_implies, implies_true, and_true, true_and, and_false, false_and, or_true, true_or, or_false, false_or, forall_eq, ↓reduceIte, ne_eq, nI1ne, nI0eq, Classical.not_not, eq_self, reduceCtorEq]
          by_cases w : s (114 + x) = -2
          · simp only [w, not_true_eq_false, not_false_eq_true, forall_const, true_implies, false_implies, implies_true, and_true, true_and, and_false, false_and, or_true, true_or, or_false, false_or, forall_eq, ↓reduceIte, ne_eq, nI1ne, nI0eq, Classical.not_not, eq_self, reduceCtorEq]
            refine model _ _ (fun _ => ?_) (fun q => ?_)
            · simp only [not_true_eq_false, not_false_eq_true, forall_const, true_implies, false_implies, implies_true, and_true, true_and, and_false, false_and, or_true, true_or, or_false, false_or, forall_eq, ↓reduceIte, ne_eq, nI1ne, nI0eq, Classical.not_not, eq_self, reduceCtorEq]
              refine hR _ _ ⟨⟨c, a, b, ch, by omega, rfl, by rw [updne (by omega)]; exact e2, fun i hi => ?_, fun i hi => ?_, fun i hi => ?_, fun i hi => ?_, h7, ?_, h9, h10⟩, IP2_congr hP2 (fun j hj => ?_), IP3_congr hP3 (fun j hj => ?_), IP4_congr hP4 (fun j hj => ?_)⟩ (fun j hj => updne (fun q => hj (by unfold idxP; omega)))
              · by_cases q : i = x
                · subst q
                  simp (disch := omega) only [upde, updne, not_true_eq_false, not_false_eq_true, forall_const, true_implies, false_implies, implies_true, and_true, true_and, and_false, false_and, or_true, true_or, or_false, false_or, forall_eq, ↓reduceIte, ne_eq, nI1ne, nI0eq, Classical.not_not, eq_self, reduceCtorEq]
                  exact ⟨(h3 i hi).1, (h3 i hi).2.1⟩
                · simp (disch := omega) only [updne]
                  exact h3 i hi
              · by_cases q : i = x
                · subst q
                  simp (disch := omega) only [upde, updne]
                  exact ⟨(h4 i hi).1, Or.inr (Or.inr (Or.inr ⟨y, by omega, rfl⟩))⟩
                · simp (disch := omega) only [updne]
                  exact h4 i hi
              · simp (disch := omega) only [updne]; exact h5 i hi
              · simp (disch := omega) only [updne]; exact h6 i hi
              · simp (disch := omega) only [updne]; exact h8
              · unfold idx2 at hj; simp (disch := omega) only [updne]
              · unfold idx3 at hj; simp (disch := omega) only [updne]
              · unfold idx4 at hj; simp (disch := omega) only [updne]
            · exfalso
              have : andTo (decide ((gd = 1 ∨ gd = 2) ∧ True)) (fun i => decide (¬ s (114 + i) = nI y)) c = true := by
                refine (andTo_t _ _ _).mpr ⟨by simp [t], fun j hj => ?_⟩
                have := hs j hj
                rw [(h3 j (by omega)).2.2] at this
                simp [this]
              simp only [and_true] at this q
              rw [this] at q
              cases q
          · simp only [w, not_true_eq_false, not_false_eq_true, forall_const, true_implies, false_implies, implies_true, and_true, true_and, and_false, false_and, or_true, true_or, or_false, false_or, forall_eq, ↓reduceIte, ne_eq, nI1ne, nI0eq, Classical.not_not, eq_self, reduceCtorEq]
            refine model _ _ (fun q => ?_) (fun _ => ?_)
            · exfalso
              have := (andTo_t _ _ _).mp q
              simp at this
            · simp only [not_true_eq_false, not_false_eq_true, forall_const, true_implies, false_implies, implies_true, and_true, true_and, and_false, false_and, or_true, true_or, or_false, false_or, forall_eq, ↓reduceIte, ne_eq, nI1ne, nI0eq, Classical.not_not, eq_self, reduceCtorEq]; exact h0
      · have t1 : (if s (20 + y) = nI 1 then nI 1 else if s (20 + y) = nI 2 then nI 1 else nI 0) = nI 0 := by
          rw [g2]
          have : gd = 0 ∨ gd = 3 ∨ gd = 4 ∨ gd = 5 := by omega
          rcases this with rfl | rfl | rfl | rfl <;> decide
        rw [t1]
        simp only [not_true_eq_false, not_false_eq_true, forall_const, true_implies, false_implies, implies_true, and_true, true_and, and_false, false_and, or_true, true_or, or_false, false_or, forall_eq, ↓reduceIte, ne_eq, nI1ne, nI0eq, Classical.not_not, eq_self, reduceCtorEq]
        refine model _ _ (fun q => ?_) (fun _ => ?_)
        · exfalso
          have := (andTo_t _ _ _).mp q
          simp [t] at this
        · simp only [not_true_eq_false, not_false_eq_true, forall_const, true_implies, false_implies, implies_true, and_true, true_and, and_false, false_and, or_true, true_or, or_false, false_or, forall_eq, ↓reduceIte, ne_eq, nI1ne, nI0eq, Classical.not_not, eq_self, reduceCtorEq]; exact h0
theorem core_goods {goods ab pl : Nat → Int32} {sc : Int32} {bond sold passed tar parts pur : Nat → Int32} {chest : Int32} {fs ow : Nat → Int32} {fc : Int32} {uf ut : Nat → Int32} {uc : Int32} {quo s : Nat → Int32} {p1 p2 : Int32} {R : (Nat → Int32) → (Nat → Int32) → (Nat → Int32) → Prop} (h : IPort goods ab pl sc bond sold passed tar parts pur chest fs ow fc uf ut uc quo s) (hR : ∀ a' b' v, IPort goods a' pl sc b' sold passed tar parts pur chest fs ow fc uf ut uc quo v → outS idxP s v → R a' b' v) : wp_X11_goods p1 p2 goods ab pl sc bond (fun r a' b' => wp_X12_goods p1 p2 s (fun r' v => r = r' ∧ R a' b' v)) := by
  have h0 := hR ab bond s h (fun _ _ => rfl)
  obtain ⟨⟨c, a, b, ch, hc, e1, e2, h3, h4, h5, h6, h7, h8, h9, h10⟩, hP2, hP3, hP4⟩ := h
  subst e1
  rcases in_cases1 p1 c (by omega) with ⟨h1, -⟩ | ⟨h1, x, hx, rfl⟩
  · simp only [wp_X11_goods, wp_X12_goods, f_X7_isShip, f_X12_isShip, within_eq, e2, h1, not_true_eq_false, not_false_eq_true, forall_const, true_implies, false_implies, implies_true, and_true, true_and, and_false, false_and, or_true, true_or, or_false, false_or, forall_eq, ↓reduceIte, ne_eq, nI1ne, nI0eq, Classical.not_not, eq_self, reduceCtorEq]
    exact h0
  · rcases in_cases p2 1 999 (by decide) (by decide) with ⟨h2, -⟩ | ⟨h2, y, hy1, hy2, rfl⟩
    · simp only [wp_X11_goods, wp_X12_goods, f_X7_isShip, f_X12_isShip, within_eq, e2, h1, h2, not_true_eq_false, not_false_eq_true, forall_const, true_implies, false_implies, implies_true, and_true, true_and, and_false, false_and, or_true, true_or, or_false, false_or, forall_eq, ↓reduceIte, ne_eq, nI1ne, nI0eq, Classical.not_not, eq_self, reduceCtorEq]
      exact h0
    · obtain ⟨q1, q2, q3⟩ := h3 x (by omega)
      obtain ⟨⟨g, hg, q4⟩, q5⟩ := h4 x hx
      have q6 := h5 x (by omega)
      have q7 := h6 g (by omega)
      have u1 := up12 (a := a) (i := x) (v := a x - y) (by omega)
      have u2 := up4 (a := b) (i := g) (v := b g + y) (by omega)
      have ax : a x ≤ sum12 a := by
        have : x = 0 ∨ x = 1 ∨ x = 2 ∨ x = 3 ∨ x = 4 ∨ x = 5 ∨ x = 6 ∨ x = 7 ∨ x = 8 ∨ x = 9 ∨ x = 10 ∨ x = 11 := by omega
        unfold sum12
        rcases this with rfl | rfl | rfl | rfl | rfl | rfl | rfl | rfl | rfl | rfl | rfl | rfl <;> omega
      simp (disch := omega) only [wp_X11_goods, wp_X12_goods, wp_X7_land, f_X7_isShip, f_X12_isShip, within_eq, e2, h1, h2, nI_add, nI_clamp, vpin, q1, q2, q3, q4, q6, nI_natle, updne, (hP2 g (by omega)).1, q7, not_true_eq_false, not_false_eq_true, forall_const, true_implies, false_implies, implies_true, and_true, true_and, and_false, false_and, or_true, true_or, or_false, false_or, forall_eq, ↓reduceIte, ne_eq, nI1ne, nI0eq, Classical.not_not, eq_self, reduceCtorEq]
      by_cases w : s (114 + x) < 0 ∨ ¬ y ≤ a x
      · simp only [w, not_true_eq_false, not_false_eq_true, forall_const, true_implies, false_implies, implies_true, and_true, true_and, and_false, false_and, or_true, true_or, or_false, false_or, forall_eq, ↓reduceIte, ne_eq, nI1ne, nI0eq, Classical.not_not, eq_self, reduceCtorEq]
        exact h0
      · simp only [w, not_true_eq_false, not_false_eq_true, forall_const, true_implies, false_implies, implies_true, and_true, true_and, and_false, false_and, or_true, true_or, or_false, false_or, forall_eq, ↓reduceIte, ne_eq, nI1ne, nI0eq, Classical.not_not, eq_self, reduceCtorEq]
        have w2 : y ≤ a x := by
          rcases Nat.lt_or_ge (a x) y with k | k
          · exact absurd (Or.inr (by omega)) w
          · exact k
        simp (disch := omega) only [upde, updne, q7, q4, nI_add, nI_clamp, vpin, nI_subL, not_true_eq_false, not_false_eq_true, forall_const, true_implies, false_implies, implies_true, and_true, true_and, and_false, false_and, or_true, true_or, or_false, false_or, forall_eq, ↓reduceIte, ne_eq, nI1ne, nI0eq, Classical.not_not, eq_self, reduceCtorEq]
        refine hR _ _ _ ⟨⟨c, va_up a x (a x - y), va_up b g (b g + y), ch, hc, rfl, by simp (disch := omega) only [updne]; exact e2, fun i hi => ?_, fun i hi => ?_, fun i hi => ?_, fun i hi => ?_, h7, ?_, by omega, by omega⟩, fun i hi => ?_, IP3_congr hP3 (fun j hj => ?_), IP4_congr hP4 (fun j hj => ?_)⟩ (fun j hj => ?_)
        · by_cases q : i = x
          · subst q
            simp (disch := omega) only [upde, updne, not_true_eq_false, not_false_eq_true, forall_const, true_implies, false_implies, implies_true, and_true, true_and, and_false, false_and, or_true, true_or, or_false, false_or, forall_eq, ↓reduceIte, ne_eq, nI1ne, nI0eq, Classical.not_not, eq_self, reduceCtorEq]
            exact ⟨q1, q3⟩
          · simp (disch := omega) only [updne]
            exact h3 i hi
        · simp (disch := omega) only [updne]
          exact h4 i hi
        · by_cases q : i = x
          · subst q
            simp (disch := omega) only [upde, updne, upee]
          · simp (disch := omega) only [updne, upene]
            exact h5 i hi
        · by_cases q : i = g
          · subst q
            simp (disch := omega) only [upde, updne, upee]
          · simp (disch := omega) only [updne, upene]
            exact h6 i hi
        · simp (disch := omega) only [updne]; exact h8
        · by_cases q : i = g
          · subst q
            simp (disch := omega) only [upde, updne, not_true_eq_false, not_false_eq_true, forall_const, true_implies, false_implies, implies_true, and_true, true_and, and_false, false_and, or_true, true_or, or_false, false_or, forall_eq, ↓reduceIte, ne_eq, nI1ne, nI0eq, Classical.not_not, eq_self, reduceCtorEq]
            exact (hP2 i hi).2
          · simp (disch := omega) only [updne]
            exact hP2 i hi
        · unfold idx3 at hj; simp (disch := omega) only [updne]
        · unfold idx4 at hj; simp (disch := omega) only [updne]
        · have k : j ≠ 50 + g ∧ j ≠ 102 + x := by
            unfold idxP at hj
            omega
          simp only [updne k.1, updne k.2]
theorem core_coin {goods ab pl : Nat → Int32} {sc : Int32} {bond sold passed tar parts pur : Nat → Int32} {chest : Int32} {fs ow : Nat → Int32} {fc : Int32} {uf ut : Nat → Int32} {uc : Int32} {quo s : Nat → Int32} {p1 p2 p3 : Int32} {R : (Nat → Int32) → (Nat → Int32) → (Nat → Int32) → Int32 → (Nat → Int32) → Prop} (hz : p3 = nI 0 ∨ p3 = nI 1) (h : IPort goods ab pl sc bond sold passed tar parts pur chest fs ow fc uf ut uc quo s) (hR : ∀ b' s' p' c' v, IPort goods ab pl sc b' s' p' tar parts pur c' fs ow fc uf ut uc quo v → outS idxP s v → R b' s' p' c' v) : wp_X11_coin p1 p2 p3 bond sold passed tar chest (fun r b' s' p' c' => wp_X12_coin p1 p2 p3 s (fun r' v => r = r' ∧ R b' s' p' c' v)) := by
  have h0 := hR bond sold passed chest s h (fun _ _ => rfl)
  obtain ⟨⟨c, a, b, ch, hc, e1, e2, h3, h4, h5, h6, h7, h8, h9, h10⟩, hP2, hP3, hP4⟩ := h
  subst e1
  subst h7
  rcases in_cases p1 0 3 (by decide) (by decide) with ⟨h1, -⟩ | ⟨h1, g, hx1, hx2, rfl⟩
  · simp only [wp_X11_coin, wp_X12_coin, f_X11_isGood, f_X12_isGood, within_eq, h1, not_true_eq_false, not_false_eq_true, forall_const, true_implies, false_implies, implies_true, and_true, true_and, and_false, false_and, or_true, true_or, or_false, false_or, forall_eq, ↓reduceIte, ne_eq, nI1ne, nI0eq, Classical.not_not, eq_self, reduceCtorEq]
    exact h0
  · rcases in_cases p2 1 999 (by decide) (by decide) with ⟨h2, -⟩ | ⟨h2, y, hy1, hy2, rfl⟩
    · simp only [wp_X11_coin, wp_X12_coin, f_X11_isGood, f_X12_isGood, within_eq, h1, h2, not_true_eq_false, not_false_eq_true, forall_const, true_implies, false_implies, implies_true, and_true, true_and, and_false, false_and, or_true, true_or, or_false, false_or, forall_eq, ↓reduceIte, ne_eq, nI1ne, nI0eq, Classical.not_not, eq_self, reduceCtorEq]
      exact h0
    · obtain ⟨q1, q2, q3, q4, t, ht, q5⟩ := hP2 g (by omega)
      have q7 := h6 g (by omega)
      have bx : b g ≤ sum4 b := by
        have : g = 0 ∨ g = 1 ∨ g = 2 ∨ g = 3 := by omega
        unfold sum4
        rcases this with rfl | rfl | rfl | rfl <;> omega
      by_cases w : y ≤ b g
      · have u2 := up4 (a := b) (i := g) (v := b g - y) (by omega)
        have hyt : y * t ≤ 99 * y := by rw [Nat.mul_comm]; exact Nat.mul_le_mul_right y ht
        rcases hz with rfl | rfl
        · simp (disch := omega) only [wp_X11_coin, wp_X12_coin, wp_X7_release, f_X11_isGood, f_X12_isGood, within_eq, h1, h2, nI_add, nI_clamp, vpin, q1, q2, q3, q4, q5, q7, nI_natle, w, updne, upde, nI_subL, nI_mul, h8, not_true_eq_false, not_false_eq_true, forall_const, true_implies, false_implies, implies_true, and_true, true_and, and_false, false_and, or_true, true_or, or_false, false_or, forall_eq, ↓reduceIte, ne_eq, nI1ne, nI0eq, Classical.not_not, eq_self, reduceCtorEq]
          refine hR _ _ _ _ _ ⟨⟨c, a, va_up b g (b g - y), ch + y * t, hc, rfl, by simp (disch := omega) only [updne]; exact e2, fun i hi => ?_, fun i hi => ?_, fun i hi => ?_, fun i hi => ?_, rfl, upde, by omega, by omega⟩, fun i hi => ?_, IP3_congr hP3 (fun j hj => ?_), IP4_congr hP4 (fun j hj => ?_)⟩ (fun j hj => ?_)
          · simp (disch := omega) only [updne]; exact h3 i hi
          · simp (disch := omega) only [updne]; exact h4 i hi
          · simp (disch := omega) only [updne]; exact h5 i hi
          · by_cases q : i = g
            · subst q
              simp (disch := omega) only [upde, updne, upee]
            · simp (disch := omega) only [updne, upene]
              exact h6 i hi
          · by_cases q : i = g
            · subst q
              simp (disch := omega) only [upde, updne, not_true_eq_false, not_false_eq_true, forall_const, true_implies, false_implies, implies_true, and_true, true_and, and_false, false_and, or_true, true_or, or_false, false_or, forall_eq, ↓reduceIte, ne_eq, nI1ne, nI0eq, Classical.not_not, eq_self, reduceCtorEq]
              exact (hP2 i hi).2.2
            · simp (disch := omega) only [updne]
              exact hP2 i hi
          · unfold idx3 at hj; simp (disch := omega) only [updne]
          · unfold idx4 at hj; simp (disch := omega) only [updne]
          · have k : j ≠ 50 + g ∧ j ≠ 54 + g ∧ j ≠ 4 := by
              unfold idxP at hj
              omega
            simp only [updne k.1, updne k.2.1, updne k.2.2]
        · simp (disch := omega) only [wp_X11_coin, wp_X12_coin, wp_X7_release, f_X11_isGood, f_X12_isGood, within_eq, h1, h2, nI_add, nI_clamp, vpin, q1, q2, q3, q4, q5, q7, nI_natle, w, updne, upde, nI_subL, nI_mul, h8, Nat.add_zero, not_true_eq_false, not_false_eq_true, forall_const, true_implies, false_implies, implies_true, and_true, true_and, and_false, false_and, or_true, true_or, or_false, false_or, forall_eq, ↓reduceIte, ne_eq, nI1ne, nI0eq, Classical.not_not, eq_self, reduceCtorEq]
          refine hR _ _ _ _ _ ⟨⟨c, a, va_up b g (b g - y), ch, hc, rfl, by simp (disch := omega) only [updne]; exact e2, fun i hi => ?_, fun i hi => ?_, fun i hi => ?_, fun i hi => ?_, rfl, upde, by omega, by omega⟩, fun i hi => ?_, IP3_congr hP3 (fun j hj => ?_), IP4_congr hP4 (fun j hj => ?_)⟩ (fun j hj => ?_)
          · simp (disch := omega) only [updne]; exact h3 i hi
          · simp (disch := omega) only [updne]; exact h4 i hi
          · simp (disch := omega) only [updne]; exact h5 i hi
          · by_cases q : i = g
            · subst q
              simp (disch := omega) only [upde, updne, upee]
            · simp (disch := omega) only [updne, upene]
              exact h6 i hi
          · by_cases q : i = g
            · subst q
              simp (disch := omega) only [upde, updne, not_true_eq_false, not_false_eq_true, forall_const, true_implies, false_implies, implies_true, and_true, true_and, and_false, false_and, or_true, true_or, or_false, false_or, forall_eq, ↓reduceIte, ne_eq, nI1ne, nI0eq, Classical.not_not, eq_self, reduceCtorEq]
              exact ⟨q2, (hP2 i hi).2.2.2⟩
            · simp (disch := omega) only [updne]
              exact hP2 i hi
          · unfold idx3 at hj; simp (disch := omega) only [updne]
          · unfold idx4 at hj; simp (disch := omega) only [updne]
          · have k : j ≠ 50 + g ∧ j ≠ 58 + g ∧ j ≠ 4 := by
              unfold idxP at hj
              omega
            simp only [updne k.1, updne k.2.1, updne k.2.2]
      · simp (disch := omega) only [wp_X11_coin, wp_X12_coin, f_X11_isGood, f_X12_isGood, within_eq, h1, h2, nI_add, nI_clamp, vpin, q1, q7, nI_natle, w, not_true_eq_false, not_false_eq_true, forall_const, true_implies, false_implies, implies_true, and_true, true_and, and_false, false_and, or_true, true_or, or_false, false_or, forall_eq, ↓reduceIte, ne_eq, nI1ne, nI0eq, Classical.not_not, eq_self, reduceCtorEq]
        exact h0
theorem core_firm {goods ab pl : Nat → Int32} {sc : Int32} {bond sold passed tar parts pur : Nat → Int32} {chest : Int32} {fs ow : Nat → Int32} {fc : Int32} {uf ut : Nat → Int32} {uc : Int32} {quo s : Nat → Int32} {p1 p2 : Int32} {R : (Nat → Int32) → (Nat → Int32) → Int32 → (Nat → Int32) → Prop} (h : IPort goods ab pl sc bond sold passed tar parts pur chest fs ow fc uf ut uc quo s) (hR : ∀ f' o' c' v, IPort goods ab pl sc bond sold passed tar parts pur chest f' o' c' uf ut uc quo v → outS idxP s v → R f' o' c' v) : wp_X11_firm p1 p2 fs ow fc (fun r f' o' c' => wp_X12_firm p1 p2 s (fun r' v => r = r' ∧ R f' o' c' v)) := by
  have h0 := hR fs ow fc s h (fun _ _ => rfl)
  obtain ⟨hP1, hP2, hP3, f, u, hf, g1, g2, hu, g3, g4, g5, g6, g7, g8⟩ := h
  subst g1
  rcases in_cases p1 0 2 (by decide) (by decide) with ⟨h1, -⟩ | ⟨h1, x, hx1, hx2, rfl⟩
  · simp only [wp_X11_firm, wp_X12_firm, f_X11_isSide, within_eq, h1, not_true_eq_false, not_false_eq_true, forall_const, true_implies, false_implies, implies_true, and_true, true_and, and_false, false_and, or_true, true_or, or_false, false_or, forall_eq, ↓reduceIte, ne_eq, nI1ne, nI0eq, Classical.not_not, eq_self, reduceCtorEq]
    exact h0
  · have fin : (p2 = -1 ∨ ∃ j, j < f ∧ p2 = nI j) → ¬ (¬ p2 = -1 ∧ f_X12_in p2 (nI 0) (nI f - nI 1) = 0) → wp_X11_firm (nI x) p2 fs ow (nI f) (fun r f' o' c' => wp_X12_firm (nI x) p2 s (fun r' v => r = r' ∧ R f' o' c' v)) := by
      intro hp hq
      by_cases w : f = 10
      · subst w
        simp (disch := omega) only [wp_X11_firm, wp_X12_firm, f_X11_isSide, f_X7_isFirm, f_X12_isFirm, within_eq, h1, g2, hq, nI_natlt, Nat.lt_irrefl, not_true_eq_false, not_false_eq_true, forall_const, true_implies, false_implies, implies_true, and_true, true_and, and_false, false_and, or_true, true_or, or_false, false_or, forall_eq, ↓reduceIte, ne_eq, nI1ne, nI0eq, Classical.not_not, eq_self, reduceCtorEq]
        exact h0
      · simp (disch := omega) only [wp_X11_firm, wp_X12_firm, wp_X7_addFirm, f_X11_isSide, f_X7_isFirm, f_X12_isFirm, within_eq, h1, g2, hq, nI_natlt, nI_nateq, w, show f < 10 from by omega, nI_add, nI_clamp, vpin, updne, upde, nI_subL, Nat.add_sub_cancel, not_true_eq_false, not_false_eq_true, forall_const, true_implies, false_implies, implies_true, and_true, true_and, and_false, false_and, or_true, true_or, or_false, false_or, forall_eq, ↓reduceIte, ne_eq, nI1ne, nI0eq, Classical.not_not, eq_self, reduceCtorEq]
        refine hR _ _ _ _ ⟨IP1_congr hP1 (fun j hj => ?_), IP2_congr hP2 (fun j hj => ?_), IP3_congr hP3 (fun j hj => ?_), f + 1, u, by omega, rfl, upde, hu, g3, ?_, fun i hi => ?_, fun i hi => ?_, fun i hi => ?_, fun i hi => ?_⟩ (fun j hj => ?_)
        · unfold idx1 at hj; simp (disch := omega) only [updne]
        · unfold idx2 at hj; simp (disch := omega) only [updne]
        · unfold idx3 at hj; simp (disch := omega) only [updne]
        · simp (disch := omega) only [updne]; exact g4
        · by_cases q : i = f
          · subst q
            simp (disch := omega) only [upde, updne, not_true_eq_false, not_false_eq_true, forall_const, true_implies, false_implies, implies_true, and_true, true_and, and_false, false_and, or_true, true_or, or_false, false_or, forall_eq, ↓reduceIte, ne_eq, nI1ne, nI0eq, Classical.not_not, eq_self, reduceCtorEq]
          · simp (disch := omega) only [updne]; exact g5 i hi
        · by_cases q : i = f
          · subst q
            simp (disch := omega) only [upde, updne]
            exact ⟨⟨x, by omega, rfl⟩, hp⟩
          · simp (disch := omega) only [updne]; exact g6 i (by omega)
        · simp (disch := omega) only [updne]; exact g7 i hi
        · simp (disch := omega) only [updne]
          obtain ⟨⟨j, k1, k2⟩, k3⟩ := g8 i hi
          exact ⟨⟨j, by omega, k2⟩, k3⟩
        · have k : j ≠ 130 + f ∧ j ≠ 140 + f ∧ j ≠ 5 := by
            unfold idxP at hj
            omega
          simp only [updne k.1, updne k.2.1, updne k.2.2]
    by_cases q : p2 = -1
    · exact fin (Or.inl q) (fun g => g.1 q)
    · rcases in_cases1 p2 f (by omega) with ⟨h2, -⟩ | ⟨h2, y, hy, rfl⟩
      · simp only [wp_X11_firm, wp_X12_firm, f_X11_isSide, f_X7_isFirm, f_X12_isFirm, within_eq, h1, g2, q, h2, not_true_eq_false, not_false_eq_true, forall_const, true_implies, false_implies, implies_true, and_true, true_and, and_false, false_and, or_true, true_or, or_false, false_or, forall_eq, ↓reduceIte, ne_eq, nI1ne, nI0eq, Classical.not_not, eq_self, reduceCtorEq]
        exact h0
      · refine fin (Or.inr ⟨y, hy, rfl⟩) (fun g => ?_)
        rw [h2] at g
        exact absurd g.2 (by decide)
theorem core_used {goods ab pl : Nat → Int32} {sc : Int32} {bond sold passed tar parts pur : Nat → Int32} {chest : Int32} {fs ow : Nat → Int32} {fc : Int32} {uf ut : Nat → Int32} {uc : Int32} {quo s : Nat → Int32} {p1 p2 : Int32} {R : (Nat → Int32) → (Nat → Int32) → Int32 → (Nat → Int32) → Prop} (h : IPort goods ab pl sc bond sold passed tar parts pur chest fs ow fc uf ut uc quo s) (hR : ∀ f' o' c' v, IPort goods ab pl sc bond sold passed tar parts pur chest fs ow fc f' o' c' quo v → outS idxP s v → R f' o' c' v) : wp_X11_used p1 p2 fc uf ut uc (fun r f' o' c' => wp_X12_used p1 p2 s (fun r' v => r = r' ∧ R f' o' c' v)) := by
  have h0 := hR uf ut uc s h (fun _ _ => rfl)
  obtain ⟨hP1, hP2, hP3, f, u, hf, g1, g2, hu, g3, g4, g5, g6, g7, g8⟩ := h
  subst g1
  subst g3
  rcases in_cases1 p1 f (by omega) with ⟨h1, -⟩ | ⟨h1, x, hx, rfl⟩
  · simp only [wp_X11_used, wp_X12_used, f_X7_isFirm, f_X12_isFirm, within_eq, g2, h1, not_true_eq_false, not_false_eq_true, forall_const, true_implies, false_implies, implies_true, and_true, true_and, and_false, false_and, or_true, true_or, or_false, false_or, forall_eq, ↓reduceIte, ne_eq, nI1ne, nI0eq, Classical.not_not, eq_self, reduceCtorEq]
    exact h0
  · rcases in_cases p2 1 999 (by decide) (by decide) with ⟨h2, -⟩ | ⟨h2, y, hy1, hy2, rfl⟩
    · simp only [wp_X11_used, wp_X12_used, f_X7_isFirm, f_X12_isFirm, within_eq, g2, h1, h2, not_true_eq_false, not_false_eq_true, forall_const, true_implies, false_implies, implies_true, and_true, true_and, and_false, false_and, or_true, true_or, or_false, false_or, forall_eq, ↓reduceIte, ne_eq, nI1ne, nI0eq, Classical.not_not, eq_self, reduceCtorEq]
      exact h0
    · by_cases w : u = 40
      · subst w
        simp (disch := omega) only [wp_X11_used, wp_X12_used, f_X7_isFirm, f_X12_isFirm, within_eq, g2, g4, h1, h2, nI_natlt, Nat.lt_irrefl, not_true_eq_false, not_false_eq_true, forall_const, true_implies, false_implies, implies_true, and_true, true_and, and_false, false_and, or_true, true_or, or_false, false_or, forall_eq, ↓reduceIte, ne_eq, nI1ne, nI0eq, Classical.not_not, eq_self, reduceCtorEq]
        exact h0
      · simp (disch := omega) only [wp_X11_used, wp_X12_used, wp_X7_addUse, f_X7_isFirm, f_X12_isFirm, within_eq, h1, h2, g2, g4, nI_natlt, nI_nateq, w, show u < 40 from by omega, nI_add, nI_clamp, vpin, updne, upde, not_true_eq_false, not_false_eq_true, forall_const, true_implies, false_implies, implies_true, and_true, true_and, and_false, false_and, or_true, true_or, or_false, false_or, forall_eq, ↓reduceIte, ne_eq, nI1ne, nI0eq, Classical.not_not, eq_self, reduceCtorEq]
        refine hR _ _ _ _ ⟨IP1_congr hP1 (fun j hj => ?_), IP2_congr hP2 (fun j hj => ?_), IP3_congr hP3 (fun j hj => ?_), f, u + 1, hf, rfl, ?_, by omega, rfl, upde, fun i hi => ?_, fun i hi => ?_, fun i hi => ?_, fun i hi => ?_⟩ (fun j hj => ?_)
        · unfold idx1 at hj; simp (disch := omega) only [updne]
        · unfold idx2 at hj; simp (disch := omega) only [updne]
        · unfold idx3 at hj; simp (disch := omega) only [updne]
        · simp (disch := omega) only [updne]; exact g2
        · simp (disch := omega) only [updne]; exact g5 i hi
        · simp (disch := omega) only [updne]; exact g6 i hi
        · by_cases q : i = u
          · subst q
            simp (disch := omega) only [upde, updne, not_true_eq_false, not_false_eq_true, forall_const, true_implies, false_implies, implies_true, and_true, true_and, and_false, false_and, or_true, true_or, or_false, false_or, forall_eq, ↓reduceIte, ne_eq, nI1ne, nI0eq, Classical.not_not, eq_self, reduceCtorEq]
          · simp (disch := omega) only [updne]; exact g7 i hi
        · by_cases q : i = u
          · subst q
            simp (disch := omega) only [upde, updne]
            exact ⟨⟨x, hx, rfl⟩, y, by omega, rfl⟩
          · simp (disch := omega) only [updne]; exact g8 i (by omega)
        · have k : j ≠ 150 + u ∧ j ≠ 190 + u ∧ j ≠ 11 := by
            unfold idxP at hj
            omega
          simp only [updne k.1, updne k.2.1, updne k.2.2]
