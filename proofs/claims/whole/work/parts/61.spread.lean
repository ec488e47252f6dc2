def isB (x : Int32) (P : Prop) : Prop := (P ∧ x = nI 1) ∨ (¬ P ∧ x = nI 0)
def onB (f : Nat → Int32) (i : Nat) : Bool := decide (f i = nI 1)
theorem nar1 : vp_nar .boolean (nI 1) = nI 1 := by decide
theorem nar0 : vp_nar .boolean (nI 0) = nI 0 := by decide
/-- a round of the reference's spreading, from g, at i and j -/
def Jr (r : Nat) (M : Nat → Nat → Bool) (S : Nat → Prop) (g : Nat → Int32) (i j : Nat) (c : Int32) (h : Nat → Int32) : Prop := (∀ a, a < 50 → h a = nI 0 ∨ h a = nI 1) ∧ (∀ a, a < 50 → g a = nI 1 → h a = nI 1) ∧ (∀ a, a < 50 → h a = nI 1 → Cl r M S a) ∧ (c = nI 0 ∧ (∀ a, a < 50 → h a = g a) ∧ (∀ a b, a < r → b < r → (a < i ∨ a = i ∧ b < j) → g a = nI 0 → g b = nI 1 → M a b = false) ∨ c = nI 1 ∧ unfN r (onB h) < unfN r (onB g))
theorem mod_on_fallen {s f : Nat → Int32} {r : Nat} {M : Nat → Nat → Bool} {S : Nat → Prop} {Q : (Nat → Int32) → Prop} (hr : r ≤ 50) (h2 : s 2 = nI r) (hM : ∀ i, i < r → ∀ j, j < 50 → s (1910 + 50 * i + j) = nI (if M i j then 1 else 0)) (hMr : ∀ i j, i < r → M i j = true → j < r) (hf : ∀ i, i < 50 → isB (f i) (S i)) (hQ : ∀ f', (∀ i, i < 50 → isB (f' i) (Cl r M S i)) → Q f') : wp_X12_spreads_fallen s f Q := by
  unfold wp_X12_spreads_fallen
  refine meas2 (F := wl_X12_spreads_fallen_2 s Q) (fun c g => (∀ a, a < 50 → g a = nI 0 ∨ g a = nI 1) ∧ (∀ a, a < 50 → S a → g a = nI 1) ∧ (∀ a, a < 50 → g a = nI 1 → Cl r M S a) ∧ (c = nI 0 ∧ (∀ a b, a < r → b < r → g a = nI 0 → g b = nI 1 → M a b = false) ∨ c = nI 1)) (fun c g => 2 * unfN r (onB g) + if c = 0 then 0 else 1) ?_ _ _ ?_
  · rintro c g ⟨i1, i2, i3, i4⟩ m ih
    rw [wl_X12_spreads_fallen_2]
    unfold wb_X12_spreads_fallen_2
    rcases i4 with ⟨rfl, cl⟩ | rfl
    · refine ⟨fun _ => hQ g (fun i hi => ?_), fun z => absurd (of_eq_true nI0eq) z⟩
      rcases i1 i hi with e | e
      · right
        refine ⟨fun h => ?_, e⟩
        have k : i < 50 → g i = nI 1 := h (fun i => i < 50 → g i = nI 1) (fun i h1 h2 => i2 i h2 h1) (fun a b h1 h3 h4 ha => by
          have hb := hMr a b h1 h3
          rcases i1 a ha with q | q
          · have := cl a b h1 hb q (h4 (by omega))
            rw [h3] at this
            cases this
          · exact q)
        rw [k hi] at e
        exact absurd e (by decide)
      · exact Or.inl ⟨i3 i hi e, e⟩
    · refine ⟨fun z => by rw [nI1ne] at z; exact z.elim, fun _ => ?_⟩
      refine meas3 (F := wl_X12_spreads_fallen_10 s _) (fun c v h => ∃ i, i ≤ r ∧ v = nI i ∧ Jr r M S g i 0 c h) (fun _ v _ => r - v.toNatClampNeg) ?_ _ _ _ ⟨0, by omega, rfl, i1, fun _ _ h => h, i3, Or.inl ⟨rfl, fun _ _ => rfl, fun a b _ _ h => by omega⟩⟩
      rintro c v h ⟨i, hi, rfl, hJ⟩ m2 ih2
      rw [wl_X12_spreads_fallen_10]
      unfold wb_X12_spreads_fallen_10
      rw [h2, nI_natle (by omega) (by omega)]
      refine ⟨fun q => ?_, fun q => ?_⟩
      · have e : i = r := by omega
        subst e
        obtain ⟨j1, j2, j3, j4⟩ := hJ
        rcases j4 with ⟨rfl, k1, k2⟩ | ⟨rfl, k1⟩
        · refine ih _ _ ⟨j1, fun a ha hs => j2 a ha (i2 a ha hs), j3, Or.inl ⟨rfl, fun a b ha hb w1 w2 => k2 a b ha hb (Or.inl ha) ?_ ?_⟩⟩ ?_
          · rw [← k1 a (by omega)]; exact w1
          · rw [← k1 b (by omega)]; exact w2
          · have e1 := unf_le (f := onB g) (g := onB h) i (fun a ha w => by unfold onB at w ⊢; rw [k1 a (by omega)]; exact w)
            simp only [nI0eq, nI1ne, not_true_eq_false, not_false_eq_true, forall_const, true_implies, false_implies, implies_true, and_true, true_and, and_false, false_and, or_true, true_or, or_false, false_or, forall_eq, ↓reduceIte, ne_eq, nI1ne, nI0eq, Classical.not_not, eq_self, reduceCtorEq]
            omega
        · refine ih _ _ ⟨j1, fun a ha hs => j2 a ha (i2 a ha hs), j3, Or.inr rfl⟩ ?_
          simp only [nI1ne, not_true_eq_false, not_false_eq_true, forall_const, true_implies, false_implies, implies_true, and_true, true_and, and_false, false_and, or_true, true_or, or_false, false_or, forall_eq, ↓reduceIte, ne_eq, nI1ne, nI0eq, Classical.not_not, eq_self, reduceCtorEq]
          omega
      · have hi2 : i < r := by omega
        refine meas3 (F := wl_X12_spreads_fallen_23 s (nI i) _) (fun c v h => ∃ j, j ≤ r ∧ v = nI j ∧ Jr r M S g i j c h) (fun _ v _ => r - v.toNatClampNeg) ?_ _ _ _ ⟨0, by omega, rfl, hJ⟩
        rintro c v h ⟨j, hj, rfl, j1, j2, j3, j4⟩ m3 ih3
        rw [wl_X12_spreads_fallen_23]
        unfold wb_X12_spreads_fallen_23
        rw [h2, nI_natle (by omega) (by omega)]
        refine ⟨fun q => ?_, fun q => ?_⟩
        · have e : j = r := by omega
          subst e
          rw [nI_add]
          refine ih2 _ _ _ ⟨i + 1, by omega, rfl, j1, j2, j3, ?_⟩ (by rw [nI_clamp (by omega), nI_clamp (by omega)]; omega)
          rcases j4 with ⟨rfl, k1, k2⟩ | h
          · refine Or.inl ⟨rfl, k1, fun a b ha hb h => k2 a b ha hb ?_⟩
            omega
          · exact Or.inr h
        · have hj2 : j < r := by omega
          have step : ∀ c' h', Jr r M S g i (j + 1) c' h' → wl_X12_spreads_fallen_23 s (nI i) (wl_X12_spreads_fallen_10 s (wl_X12_spreads_fallen_2 s Q m) m2) m3 c' (nI (j + 1)) h' := fun c' h' hJ' => ih3 _ _ _ ⟨j + 1, by omega, rfl, hJ'⟩ (by rw [nI_clamp (by omega), nI_clamp (by omega)]; omega)
          have hrow := hM i hi2 j (by omega)
          simp (disch := omega) only [vpin, nI_clamp, ok_X12_leans, f_X12_leans, nI_mul, nI_add, nar1, hrow, not_true_eq_false, not_false_eq_true, forall_const, true_implies, false_implies, implies_true, and_true, true_and, and_false, false_and, or_true, true_or, or_false, false_or, forall_eq, ↓reduceIte, ne_eq, nI1ne, nI0eq, Classical.not_not, eq_self, reduceCtorEq]
          by_cases w : h i = nI 0 ∧ h j = nI 1 ∧ M i j = true
          · obtain ⟨w1, w2, w3⟩ := w
            simp only [w1, w2, w3, nI0eq, nI1ne, not_true_eq_false, not_false_eq_true, forall_const, true_implies, false_implies, implies_true, and_true, true_and, and_false, false_and, or_true, true_or, or_false, false_or, forall_eq, ↓reduceIte, ne_eq, nI1ne, nI0eq, Classical.not_not, eq_self, reduceCtorEq]
            refine step _ _ ⟨fun a ha => ?_, fun a ha hz => ?_, fun a ha hz => ?_, Or.inr ⟨rfl, ?_⟩⟩
            · by_cases e : a = i
              · subst e; right; exact upde
              · rw [updne e]; exact j1 a ha
            · by_cases e : a = i
              · subst e; exact upde
              · rw [updne e]; exact j2 a ha hz
            · by_cases e : a = i
              · subst e; exact Cl_step hi2 w3 (j3 j (by omega) w2)
              · rw [updne e] at hz; exact j3 a ha hz
            · have h1 := unf_lt (f := onB h) (g := onB (upd h i (nI 1))) r (fun a _ ha => by
                unfold onB at ha ⊢
                by_cases e : a = i
                · subst e; rw [upde]; decide
                · rw [updne e]; exact ha) ⟨i, hi2, by unfold onB; rw [w1]; decide, by unfold onB; rw [upde]; decide⟩
              have h2 := unf_le (f := onB g) (g := onB h) r (fun a ha hz => by
                unfold onB at hz ⊢
                exact decide_eq_true (j2 a (by omega) (of_decide_eq_true hz)))
              omega
          · have hno : ¬ (h i = 0 ∧ ¬ h j = 0 ∧ ¬ (if nI (if M i j = true then 1 else 0) = nI 1 then nI 1 else nI 0) = 0) := by
              rintro ⟨w1, w2, w3⟩
              apply w
              refine ⟨?_, ?_, ?_⟩
              · rcases j1 i (by omega) with e | e
                · exact e
                · rw [e, nI1ne] at w1; exact w1.elim
              · rcases j1 j (by omega) with e | e
                · rw [e, nI0eq] at w2; exact absurd trivial w2
                · exact e
              · cases hm : M i j
                · rw [hm] at w3
                  exact absurd (by decide) w3
                · rfl
            refine ⟨fun z => absurd z hno, fun _ => step _ _ ⟨j1, j2, j3, ?_⟩⟩
            rcases j4 with ⟨rfl, k1, k2⟩ | h
            · refine Or.inl ⟨rfl, k1, fun a b ha hb hz w1 w2 => ?_⟩
              by_cases e : a = i ∧ b = j
              · obtain ⟨rfl, rfl⟩ := e
                apply Bool.eq_false_iff.mpr
                intro w3
                exact w ⟨by rw [k1 a (by omega)]; exact w1, by rw [k1 b (by omega)]; exact w2, w3⟩
              · exact k2 a b ha hb (by omega) w1 w2
            · exact Or.inr h
  · refine ⟨fun a ha => ?_, fun a ha hs => ?_, fun a ha hz => ?_, Or.inr rfl⟩
    · rcases hf a ha with ⟨-, e⟩ | ⟨-, e⟩
      · exact Or.inr e
      · exact Or.inl e
    · rcases hf a ha with ⟨-, e⟩ | ⟨z, -⟩
      · exact e
      · exact absurd hs z
    · rcases hf a ha with ⟨z, -⟩ | ⟨-, e⟩
      · exact Cl_seed z
      · rw [e] at hz; exact absurd hz (by decide)
theorem mod_on_held {s f : Nat → Int32} {r : Nat} {M : Nat → Nat → Bool} {S : Nat → Prop} {Q : (Nat → Int32) → Prop} (hr : r ≤ 50) (h2 : s 2 = nI r) (hM : ∀ i, i < r → ∀ j, j < 50 → s (1910 + 50 * i + j) = nI (if M i j then 1 else 0)) (hMr : ∀ i j, i < r → M i j = true → j < r) (hf : ∀ i, i < 50 → isB (f i) (S i)) (hQ : ∀ f', (∀ i, i < 50 → isB (f' i) (Cl r M S i)) → Q f') : wp_X12_spreads_held s f Q := by
  unfold wp_X12_spreads_held
  refine meas2 (F := wl_X12_spreads_held_2 s Q) (fun c g => (∀ a, a < 50 → g a = nI 0 ∨ g a = nI 1) ∧ (∀ a, a < 50 → S a → g a = nI 1) ∧ (∀ a, a < 50 → g a = nI 1 → Cl r M S a) ∧ (c = nI 0 ∧ (∀ a b, a < r → b < r → g a = nI 0 → g b = nI 1 → M a b = false) ∨ c = nI 1)) (fun c g => 2 * unfN r (onB g) + if c = 0 then 0 else 1) ?_ _ _ ?_
  · rintro c g ⟨i1, i2, i3, i4⟩ m ih
    rw [wl_X12_spreads_held_2]
    unfold wb_X12_spreads_held_2
    rcases i4 with ⟨rfl, cl⟩ | rfl
    · refine ⟨fun _ => hQ g (fun i hi => ?_), fun z => absurd (of_eq_true nI0eq) z⟩
      rcases i1 i hi with e | e
      · right
        refine ⟨fun h => ?_, e⟩
        have k : i < 50 → g i = nI 1 := h (fun i => i < 50 → g i = nI 1) (fun i h1 h2 => i2 i h2 h1) (fun a b h1 h3 h4 ha => by
          have hb := hMr a b h1 h3
          rcases i1 a ha with q | q
          · have := cl a b h1 hb q (h4 (by omega))
            rw [h3] at this
            cases this
          · exact q)
        rw [k hi] at e
        exact absurd e (by decide)
      · exact Or.inl ⟨i3 i hi e, e⟩
    · refine ⟨fun z => by rw [nI1ne] at z; exact z.elim, fun _ => ?_⟩
      refine meas3 (F := wl_X12_spreads_held_10 s _) (fun c v h => ∃ i, i ≤ r ∧ v = nI i ∧ Jr r M S g i 0 c h) (fun _ v _ => r - v.toNatClampNeg) ?_ _ _ _ ⟨0, by omega, rfl, i1, fun _ _ h => h, i3, Or.inl ⟨rfl, fun _ _ => rfl, fun a b _ _ h => by omega⟩⟩
      rintro c v h ⟨i, hi, rfl, hJ⟩ m2 ih2
      rw [wl_X12_spreads_held_10]
      unfold wb_X12_spreads_held_10
      rw [h2, nI_natle (by omega) (by omega)]
      refine ⟨fun q => ?_, fun q => ?_⟩
      · have e : i = r := by omega
        subst e
        obtain ⟨j1, j2, j3, j4⟩ := hJ
        rcases j4 with ⟨rfl, k1, k2⟩ | ⟨rfl, k1⟩
        · refine ih _ _ ⟨j1, fun a ha hs => j2 a ha (i2 a ha hs), j3, Or.inl ⟨rfl, fun a b ha hb w1 w2 => k2 a b ha hb (Or.inl ha) ?_ ?_⟩⟩ ?_
          · rw [← k1 a (by omega)]; exact w1
          · rw [← k1 b (by omega)]; exact w2
          · have e1 := unf_le (f := onB g) (g := onB h) i (fun a ha w => by unfold onB at w ⊢; rw [k1 a (by omega)]; exact w)
            simp only [nI0eq, nI1ne, not_true_eq_false, not_false_eq_true, forall_const, true_implies, false_implies, implies_true, and_true, true_and, and_false, false_and, or_true, true_or, or_false, false_or, forall_eq, ↓reduceIte, ne_eq, nI1ne, nI0eq, Classical.not_not, eq_self, reduceCtorEq]
            omega
        · refine ih _ _ ⟨j1, fun a ha hs => j2 a ha (i2 a ha hs), j3, Or.inr rfl⟩ ?_
          simp only [nI1ne, not_true_eq_false, not_false_eq_true, forall_const, true_implies, false_implies, implies_true, and_true, true_and, and_false, false_and, or_true, true_or, or_false, false_or, forall_eq, ↓reduceIte, ne_eq, nI1ne, nI0eq, Classical.not_not, eq_self, reduceCtorEq]
          omega
      · have hi2 : i < r := by omega
        refine meas3 (F := wl_X12_spreads_held_23 s (nI i) _) (fun c v h => ∃ j, j ≤ r ∧ v = nI j ∧ Jr r M S g i j c h) (fun _ v _ => r - v.toNatClampNeg) ?_ _ _ _ ⟨0, by omega, rfl, hJ⟩
        rintro c v h ⟨j, hj, rfl, j1, j2, j3, j4⟩ m3 ih3
        rw [wl_X12_spreads_held_23]
        unfold wb_X12_spreads_held_23
        rw [h2, nI_natle (by omega) (by omega)]
        refine ⟨fun q => ?_, fun q => ?_⟩
        · have e : j = r := by omega
          subst e
          rw [nI_add]
          refine ih2 _ _ _ ⟨i + 1, by omega, rfl, j1, j2, j3, ?_⟩ (by rw [nI_clamp (by omega), nI_clamp (by omega)]; omega)
          rcases j4 with ⟨rfl, k1, k2⟩ | h
          · refine Or.inl ⟨rfl, k1, fun a b ha hb h => k2 a b ha hb ?_⟩
            omega
          · exact Or.inr h
        · have hj2 : j < r := by omega
          have step : ∀ c' h', Jr r M S g i (j + 1) c' h' → wl_X12_spreads_held_23 s (nI i) (wl_X12_spreads_held_10 s (wl_X12_spreads_held_2 s Q m) m2) m3 c' (nI (j + 1)) h' := fun c' h' hJ' => ih3 _ _ _ ⟨j + 1, by omega, rfl, hJ'⟩ (by rw [nI_clamp (by omega), nI_clamp (by omega)]; omega)
          have hrow := hM i hi2 j (by omega)
          simp (disch := omega) only [vpin, nI_clamp, ok_X12_leans, f_X12_leans, nI_mul, nI_add, nar1, hrow, not_true_eq_false, not_false_eq_true, forall_const, true_implies, false_implies, implies_true, and_true, true_and, and_false, false_and, or_true, true_or, or_false, false_or, forall_eq, ↓reduceIte, ne_eq, nI1ne, nI0eq, Classical.not_not, eq_self, reduceCtorEq]
          by_cases w : h i = nI 0 ∧ h j = nI 1 ∧ M i j = true
          · obtain ⟨w1, w2, w3⟩ := w
            simp only [w1, w2, w3, nI0eq, nI1ne, not_true_eq_false, not_false_eq_true, forall_const, true_implies, false_implies, implies_true, and_true, true_and, and_false, false_and, or_true, true_or, or_false, false_or, forall_eq, ↓reduceIte, ne_eq, nI1ne, nI0eq, Classical.not_not, eq_self, reduceCtorEq]
            refine step _ _ ⟨fun a ha => ?_, fun a ha hz => ?_, fun a ha hz => ?_, Or.inr ⟨rfl, ?_⟩⟩
            · by_cases e : a = i
              · subst e; right; exact upde
              · rw [updne e]; exact j1 a ha
            · by_cases e : a = i
              · subst e; exact upde
              · rw [updne e]; exact j2 a ha hz
            · by_cases e : a = i
              · subst e; exact Cl_step hi2 w3 (j3 j (by omega) w2)
              · rw [updne e] at hz; exact j3 a ha hz
            · have h1 := unf_lt (f := onB h) (g := onB (upd h i (nI 1))) r (fun a _ ha => by
                unfold onB at ha ⊢
                by_cases e : a = i
                · subst e; rw [upde]; decide
                · rw [updne e]; exact ha) ⟨i, hi2, by unfold onB; rw [w1]; decide, by unfold onB; rw [upde]; decide⟩
              have h2 := unf_le (f := onB g) (g := onB h) r (fun a ha hz => by
                unfold onB at hz ⊢
                exact decide_eq_true (j2 a (by omega) (of_decide_eq_true hz)))
              omega
          · have hno : ¬ (h i = 0 ∧ ¬ h j = 0 ∧ ¬ (if nI (if M i j = true then 1 else 0) = nI 1 then nI 1 else nI 0) = 0) := by
              rintro ⟨w1, w2, w3⟩
              apply w
              refine ⟨?_, ?_, ?_⟩
              · rcases j1 i (by omega) with e | e
                · exact e
                · rw [e, nI1ne] at w1; exact w1.elim
              · rcases j1 j (by omega) with e | e
                · rw [e, nI0eq] at w2; exact absurd trivial w2
                · exact e
              · cases hm : M i j
                · rw [hm] at w3
                  exact absurd (by decide) w3
                · rfl
            refine ⟨fun z => absurd z hno, fun _ => step _ _ ⟨j1, j2, j3, ?_⟩⟩
            rcases j4 with ⟨rfl, k1, k2⟩ | h
            · refine Or.inl ⟨rfl, k1, fun a b ha hb hz w1 w2 => ?_⟩
              by_cases e : a = i ∧ b = j
              · obtain ⟨rfl, rfl⟩ := e
                apply Bool.eq_false_iff.mpr
                intro w3
                exact w ⟨by rw [k1 a (by omega)]; exact w1, by rw [k1 b (by omega)]; exact w2, w3⟩
              · exact k2 a b ha hb (by omega) w1 w2
            · exact Or.inr h
  · refine ⟨fun a ha => ?_, fun a ha hs => ?_, fun a ha hz => ?_, Or.inr rfl⟩
    · rcases hf a ha with ⟨-, e⟩ | ⟨-, e⟩
      · exact Or.inr e
      · exact Or.inl e
    · rcases hf a ha with ⟨-, e⟩ | ⟨z, -⟩
      · exact e
      · exact absurd hs z
    · rcases hf a ha with ⟨z, -⟩ | ⟨-, e⟩
      · exact Cl_seed z
      · rw [e] at hz; exact absurd hz (by decide)
theorem mod_on_falling {s f : Nat → Int32} {r : Nat} {M : Nat → Nat → Bool} {S : Nat → Prop} {Q : (Nat → Int32) → Prop} (hr : r ≤ 50) (h2 : s 2 = nI r) (hM : ∀ i, i < r → ∀ j, j < 50 → s (1910 + 50 * i + j) = nI (if M i j then 1 else 0)) (hMr : ∀ i j, i < r → M i j = true → j < r) (hf : ∀ i, i < 50 → isB (f i) (S i)) (hQ : ∀ f', (∀ i, i < 50 → isB (f' i) (Cl r M S i)) → Q f') : wp_X12_spreads_falling s f Q := by
  unfold wp_X12_spreads_falling
  refine meas2 (F := wl_X12_spreads_falling_2 s Q) (fun c g => (∀ a, a < 50 → g a = nI 0 ∨ g a = nI 1) ∧ (∀ a, a < 50 → S a → g a = nI 1) ∧ (∀ a, a < 50 → g a = nI 1 → Cl r M S a) ∧ (c = nI 0 ∧ (∀ a b, a < r → b < r → g a = nI 0 → g b = nI 1 → M a b = false) ∨ c = nI 1)) (fun c g => 2 * unfN r (onB g) + if c = 0 then 0 else 1) ?_ _ _ ?_
  · rintro c g ⟨i1, i2, i3, i4⟩ m ih
    rw [wl_X12_spreads_falling_2]
    unfold wb_X12_spreads_falling_2
    rcases i4 with ⟨rfl, cl⟩ | rfl
    · refine ⟨fun _ => hQ g (fun i hi => ?_), fun z => absurd (of_eq_true nI0eq) z⟩
      rcases i1 i hi with e | e
      · right
        refine ⟨fun h => ?_, e⟩
        have k : i < 50 → g i = nI 1 := h (fun i => i < 50 → g i = nI 1) (fun i h1 h2 => i2 i h2 h1) (fun a b h1 h3 h4 ha => by
          have hb := hMr a b h1 h3
          rcases i1 a ha with q | q
          · have := cl a b h1 hb q (h4 (by omega))
            rw [h3] at this
            cases this
          · exact q)
        rw [k hi] at e
        exact absurd e (by decide)
      · exact Or.inl ⟨i3 i hi e, e⟩
    · refine ⟨fun z => by rw [nI1ne] at z; exact z.elim, fun _ => ?_⟩
      refine meas3 (F := wl_X12_spreads_falling_10 s _) (fun c v h => ∃ i, i ≤ r ∧ v = nI i ∧ Jr r M S g i 0 c h) (fun _ v _ => r - v.toNatClampNeg) ?_ _ _ _ ⟨0, by omega, rfl, i1, fun _ _ h => h, i3, Or.inl ⟨rfl, fun _ _ => rfl, fun a b _ _ h => by omega⟩⟩
      rintro c v h ⟨i, hi, rfl, hJ⟩ m2 ih2
      rw [wl_X12_spreads_falling_10]
      unfold wb_X12_spreads_falling_10
      rw [h2, nI_natle (by omega) (by omega)]
      refine ⟨fun q => ?_, fun q => ?_⟩
      · have e : i = r := by omega
        subst e
        obtain ⟨j1, j2, j3, j4⟩ := hJ
        rcases j4 with ⟨rfl, k1, k2⟩ | ⟨rfl, k1⟩
        · refine ih _ _ ⟨j1, fun a ha hs => j2 a ha (i2 a ha hs), j3, Or.inl ⟨rfl, fun a b ha hb w1 w2 => k2 a b ha hb (Or.inl ha) ?_ ?_⟩⟩ ?_
          · rw [← k1 a (by omega)]; exact w1
          · rw [← k1 b (by omega)]; exact w2
          · have e1 := unf_le (f := onB g) (g := onB h) i (fun a ha w => by unfold onB at w ⊢; rw [k1 a (by omega)]; exact w)
            simp only [nI0eq, nI1ne, not_true_eq_false, not_false_eq_true, forall_const, true_implies, false_implies, implies_true, and_true, true_and, and_false, false_and, or_true, true_or, or_false, false_or, forall_eq, ↓reduceIte, ne_eq, nI1ne, nI0eq, Classical.not_not, eq_self, reduceCtorEq]
            omega
        · refine ih _ _ ⟨j1, fun a ha hs => j2 a ha (i2 a ha hs), j3, Or.inr rfl⟩ ?_
          simp only [nI1ne, not_true_eq_false, not_false_eq_true, forall_const, true_implies, false_implies, implies_true, and_true, true_and, and_false, false_and, or_true, true_or, or_false, false_or, forall_eq, ↓reduceIte, ne_eq, nI1ne, nI0eq, Classical.not_not, eq_self, reduceCtorEq]
          omega
      · have hi2 : i < r := by omega
        refine meas3 (F := wl_X12_spreads_falling_23 s (nI i) _) (fun c v h => ∃ j, j ≤ r ∧ v = nI j ∧ Jr r M S g i j c h) (fun _ v _ => r - v.toNatClampNeg) ?_ _ _ _ ⟨0, by omega, rfl, hJ⟩
        rintro c v h ⟨j, hj, rfl, j1, j2, j3, j4⟩ m3 ih3
        rw [wl_X12_spreads_falling_23]
        unfold wb_X12_spreads_falling_23
        rw [h2, nI_natle (by omega) (by omega)]
        refine ⟨fun q => ?_, fun q => ?_⟩
        · have e : j = r := by omega
          subst e
          rw [nI_add]
          refine ih2 _ _ _ ⟨i + 1, by omega, rfl, j1, j2, j3, ?_⟩ (by rw [nI_clamp (by omega), nI_clamp (by omega)]; omega)
          rcases j4 with ⟨rfl, k1, k2⟩ | h
          · refine Or.inl ⟨rfl, k1, fun a b ha hb h => k2 a b ha hb ?_⟩
            omega
          · exact Or.inr h
        · have hj2 : j < r := by omega
          have step : ∀ c' h', Jr r M S g i (j + 1) c' h' → wl_X12_spreads_falling_23 s (nI i) (wl_X12_spreads_falling_10 s (wl_X12_spreads_falling_2 s Q m) m2) m3 c' (nI (j + 1)) h' := fun c' h' hJ' => ih3 _ _ _ ⟨j + 1, by omega, rfl, hJ'⟩ (by rw [nI_clamp (by omega), nI_clamp (by omega)]; omega)
          have hrow := hM i hi2 j (by omega)
          simp (disch := omega) only [vpin, nI_clamp, ok_X12_leans, f_X12_leans, nI_mul, nI_add, nar1, hrow, not_true_eq_false, not_false_eq_true, forall_const, true_implies, false_implies, implies_true, and_true, true_and, and_false, false_and, or_true, true_or, or_false, false_or, forall_eq, ↓reduceIte, ne_eq, nI1ne, nI0eq, Classical.not_not, eq_self, reduceCtorEq]
          by_cases w : h i = nI 0 ∧ h j = nI 1 ∧ M i j = true
          · obtain ⟨w1, w2, w3⟩ := w
            simp only [w1, w2, w3, nI0eq, nI1ne, not_true_eq_false, not_false_eq_true, forall_const, true_implies, false_implies, implies_true, and_true, true_and, and_false, false_and, or_true, true_or, or_false, false_or, forall_eq, ↓reduceIte, ne_eq, nI1ne, nI0eq, Classical.not_not, eq_self, reduceCtorEq]
            refine step _ _ ⟨fun a ha => ?_, fun a ha hz => ?_, fun a ha hz => ?_, Or.inr ⟨rfl, ?_⟩⟩
            · by_cases e : a = i
              · subst e; right; exact upde
              · rw [updne e]; exact j1 a ha
            · by_cases e : a = i
              · subst e; exact upde
              · rw [updne e]; exact j2 a ha hz
            · by_cases e : a = i
              · subst e; exact Cl_step hi2 w3 (j3 j (by omega) w2)
              · rw [updne e] at hz; exact j3 a ha hz
            · have h1 := unf_lt (f := onB h) (g := onB (upd h i (nI 1))) r (fun a _ ha => by
                unfold onB at ha ⊢
                by_cases e : a = i
                · subst e; rw [upde]; decide
                · rw [updne e]; exact ha) ⟨i, hi2, by unfold onB; rw [w1]; decide, by unfold onB; rw [upde]; decide⟩
              have h2 := unf_le (f := onB g) (g := onB h) r (fun a ha hz => by
                unfold onB at hz ⊢
                exact decide_eq_true (j2 a (by omega) (of_decide_eq_true hz)))
              omega
          · have hno : ¬ (h i = 0 ∧ ¬ h j = 0 ∧ ¬ (if nI (if M i j = true then 1 else 0) = nI 1 then nI 1 else nI 0) = 0) := by
              rintro ⟨w1, w2, w3⟩
              apply w
              refine ⟨?_, ?_, ?_⟩
              · rcases j1 i (by omega) with e | e
                · exact e
                · rw [e, nI1ne] at w1; exact w1.elim
              · rcases j1 j (by omega) with e | e
                · rw [e, nI0eq] at w2; exact absurd trivial w2
                · exact e
              · cases hm : M i j
                · rw [hm] at w3
                  exact absurd (by decide) w3
                · rfl
            refine ⟨fun z => absurd z hno, fun _ => step _ _ ⟨j1, j2, j3, ?_⟩⟩
            rcases j4 with ⟨rfl, k1, k2⟩ | h
            · refine Or.inl ⟨rfl, k1, fun a b ha hb hz w1 w2 => ?_⟩
              by_cases e : a = i ∧ b = j
              · obtain ⟨rfl, rfl⟩ := e
                apply Bool.eq_false_iff.mpr
                intro w3
                exact w ⟨by rw [k1 a (by omega)]; exact w1, by rw [k1 b (by omega)]; exact w2, w3⟩
              · exact k2 a b ha hb (by omega) w1 w2
            · exact Or.inr h
  · refine ⟨fun a ha => ?_, fun a ha hs => ?_, fun a ha hz => ?_, Or.inr rfl⟩
    · rcases hf a ha with ⟨-, e⟩ | ⟨-, e⟩
      · exact Or.inr e
      · exact Or.inl e
    · rcases hf a ha with ⟨-, e⟩ | ⟨z, -⟩
      · exact e
      · exact absurd hs z
    · rcases hf a ha with ⟨z, -⟩ | ⟨-, e⟩
      · exact Cl_seed z
      · rw [e] at hz; exact absurd hz (by decide)
