theorem ruling_all {today : Int32} {rights : Nat → Option Nat} {leans : Nat → Int64} {heardOn : Nat → Int32} {overruled : Int64} {R_L : List Nat} {R_kind R_number R_side R_n R_cell R_day R_ruling R_share : Nat → Int32} {s : Nat → Int32} {r i : Nat} (hm : ICm today rights (nI r) leans heardOn overruled R_L R_kind R_number R_side R_n R_cell R_day R_ruling R_share s) (hr : r ≤ 50) (hi : i < r) (h6 : s (1310 + i) = nI 6) : ∃ a, rights i = some a ∧ a ∈ R_L ∧ R_n a = s (1510 + i) ∧ (s (1510 + i) = nI 10 ∨ s (1510 + i) = nI 20) ∧ f_X2_find rights (nI r) (nI i) = rights i ∧ ok_X2_find rights (nI r) (nI i) := by
  have hfind : f_X2_find rights (nI r) (nI i) = rights i ∧ ok_X2_find rights (nI r) (nI i) := by
    rcases find_cases rights r hr (nI i) with ⟨-, -, -, e⟩ | ⟨k, hk, e, e1, -, e3⟩
    · exact absurd rfl (e i hi)
    · have : k = i := ((nI_eq (by omega) (by omega)).mp e).symm
      subst this
      exact ⟨e1, e3⟩
  obtain ⟨-, r', ki, hr', h4, h5, g, -⟩ := hm
  have er : r' = r := ((nI_eq (by omega) (by omega)).mp h4).symm
  subst er
  obtain ⟨a, g1, g2, g3, g4, g5, g6, -, -, -, g10, -, -, -, g14, -⟩ := g i hi
  rw [g5] at h6
  refine ⟨a, g1, g2, g10, ?_, hfind.1, hfind.2⟩
  rcases (g14 ((nI_eq (by omega) (by omega)).mp h6)).2.2.1 with w | w
  · exact Or.inl w.1
  · exact Or.inr w.1
theorem core_appeal {today : Int32} {rights : Nat → Option Nat} {count : Int32} {leans : Nat → Int64} {heardOn : Nat → Int32} {overruled : Int64} {termDays step : Int32} {R_L : List Nat} {R_kind R_number R_side R_n R_cell R_day R_ruling R_share : Nat → Int32} {s fallen held stands : Nat → Int32} {p1 p2 p3 : Int32} {R : (Nat → Option Nat) → Int32 → (Nat → Int64) → (Nat → Int32) → List Nat → (Nat → Int32) → (Nat → Int32) → (Nat → Int32) → (Nat → Int32) → (Nat → Int32) → (Nat → Int32) → (Nat → Int32) → (Nat → Int32) → (Nat → Int32) → Prop} (h : ICourt today rights count leans heardOn overruled termDays step R_L R_kind R_number R_side R_n R_cell R_day R_ruling R_share s) (ht : today = s 0 ∧ isN (s 0) 999) (hR : ∀ rights' count' leans' heardOn' X_L X_kind X_number X_side X_n X_cell X_day X_ruling X_share v, ICourt today rights' count' leans' heardOn' overruled termDays step X_L X_kind X_number X_side X_n X_cell X_day X_ruling X_share v → outS idxC s v → poolR R_L R_kind R_number R_side R_n R_cell R_day R_ruling R_share X_L X_kind X_number X_side X_n X_cell X_day X_ruling X_share → R rights' count' leans' heardOn' X_L X_kind X_number X_side X_n X_cell X_day X_ruling X_share v) : wp_X11_appeal p1 p2 p3 today rights count leans heardOn overruled termDays R_L R_kind R_number R_side R_n R_cell R_day R_ruling R_share (fun r a b c d L e1 e2 e3 e4 e5 e6 e7 e8 => wp_X12_appeal p1 p2 p3 s fallen held stands (fun r' v _ _ _ => r = r' ∧ R a b c d L e1 e2 e3 e4 e5 e6 e7 e8 v)) := by
  have h0 := hR rights count leans heardOn R_L R_kind R_number R_side R_n R_cell R_day R_ruling R_share s h (fun _ _ => rfl) poolR_rfl
  obtain ⟨a1, a2, a3, a4⟩ := ruling_eq h.2.2 p1
  unfold wp_X11_appeal
  rw [a1]
  simp only [a2, not_true_eq_false, not_false_eq_true, forall_const, true_implies, false_implies, implies_true, and_true, true_and, and_false, false_and, or_true, true_or, or_false, false_or, forall_eq, ↓reduceIte, ne_eq, nI1ne, nI0eq, Classical.not_not, eq_self, reduceCtorEq]
  rcases a4 with e | ⟨e, r, i, hr, rfl, hi, rfl, hi6⟩
  · simp only [wp_X12_appeal, a3, e, nI0eq, not_true_eq_false, not_false_eq_true, forall_const, true_implies, false_implies, implies_true, and_true, true_and, and_false, false_and, or_true, true_or, or_false, false_or, forall_eq, ↓reduceIte, ne_eq, nI1ne, nI0eq, Classical.not_not, eq_self, reduceCtorEq]
    exact h0
  have hm := h.2.2
  obtain ⟨h2, hM, hMr⟩ := ICm_M hm hr
  rcases in_cases p2 0 1 (by decide) (by decide) with ⟨f1, -⟩ | ⟨f1, x2, -, hx2, rfl⟩
  · simp only [wp_X12_appeal, within_eq, a3, e, f1, nI0eq, nI1ne, not_true_eq_false, not_false_eq_true, forall_const, true_implies, false_implies, implies_true, and_true, true_and, and_false, false_and, or_true, true_or, or_false, false_or, forall_eq, ↓reduceIte, ne_eq, nI1ne, nI0eq, Classical.not_not, eq_self, reduceCtorEq]
    exact h0
  rcases in_cases p3 0 100 (by decide) (by decide) with ⟨f2, -⟩ | ⟨f2, x3, -, hx3, rfl⟩
  · simp only [wp_X12_appeal, within_eq, a3, e, f1, f2, nI0eq, nI1ne, not_true_eq_false, not_false_eq_true, forall_const, true_implies, false_implies, implies_true, and_true, true_and, and_false, false_and, or_true, true_or, or_false, false_or, forall_eq, ↓reduceIte, ne_eq, nI1ne, nI0eq, Classical.not_not, eq_self, reduceCtorEq]
    exact h0
  simp only [within_eq, e, f1, f2, nI1ne, not_true_eq_false, not_false_eq_true, forall_const, true_implies, false_implies, implies_true, and_true, true_and, and_false, false_and, or_true, true_or, or_false, false_or, forall_eq, ↓reduceIte, ne_eq, nI1ne, nI0eq, Classical.not_not, eq_self, reduceCtorEq]
  have td : termDays = s 12 := h.1.1
  refine cls_takes hm hr hi hi6 (fun hT => ?_) (fun hT => ?_)
  · rw [ht.1, td] at hT
    simp only [nI0eq, not_true_eq_false, not_false_eq_true, forall_const, true_implies, false_implies, implies_true, and_true, true_and, and_false, false_and, or_true, true_or, or_false, false_or, forall_eq, ↓reduceIte, ne_eq, nI1ne, nI0eq, Classical.not_not, eq_self, reduceCtorEq]
    refine mod_appeal hm hr hi e a3 f1 f2 (fun f g st _ => ⟨rfl, h0⟩) (fun f g st z => absurd hT z)
  · rw [ht.1, td] at hT
    simp only [nI1ne, not_true_eq_false, not_false_eq_true, forall_const, true_implies, false_implies, implies_true, and_true, true_and, and_false, false_and, or_true, true_or, or_false, false_or, forall_eq, ↓reduceIte, ne_eq, nI1ne, nI0eq, Classical.not_not, eq_self, reduceCtorEq]
    by_cases q : r = 50
    · subst q
      simp (disch := omega) only [f_X2_isFull, nI_natlt, Nat.lt_irrefl, nI1ne, not_true_eq_false, not_false_eq_true, forall_const, true_implies, false_implies, implies_true, and_true, true_and, and_false, false_and, or_true, true_or, or_false, false_or, forall_eq, ↓reduceIte, ne_eq, nI1ne, nI0eq, Classical.not_not, eq_self, reduceCtorEq]
      exact mod_appeal hm hr hi e a3 f1 f2 (fun f g st z => absurd z hT) (fun f g st _ => ⟨fun _ => ⟨rfl, h0⟩, fun z => absurd rfl z⟩)
    · have hr2 : r < 50 := by omega
      obtain ⟨a, g1, g2, g3, g4, g5, g6⟩ := ruling_all hm hr hi hi6
      have ne : ¬ rights i = none := by rw [g1]; exact fun z => by cases z
      have og : oget (rights i) = a := by rw [g1]; rfl
      simp (disch := omega) only [f_X2_isFull, nI_natlt, hr2, wp_X2_lodge, ok_X2_letsByRuling, f_X2_letsByRuling, wp_X9_init, g5, g6, ne, og, memq, upup, g2, not_true_eq_false, not_false_eq_true, forall_const, true_implies, false_implies, implies_true, and_true, true_and, and_false, false_and, or_true, true_or, or_false, false_or, forall_eq, ↓reduceIte, ne_eq, nI1ne, nI0eq, Classical.not_not, eq_self, reduceCtorEq]
      intro b hb
      rw [upene (fresh_ne hb g2), g3]
      have en : (if (if s (1510 + i) = nI 10 then nI 1 else nI 0) = 0 then nI 20 else nI 10) = s (1510 + i) := by
        rcases g4 with z | z <;> rw [z] <;> decide
      rw [en]
      refine ⟨List.mem_append.mpr (Or.inl g2), ?_⟩
      refine grantC hr2 memq ?_
      refine mod_appeal hm hr hi e a3 f1 f2 (fun f g st z => absurd z hT) (fun f g st _ => ⟨fun z => absurd z q, fun _ => ?_⟩)
      refine rightM hr2 h2 (fun v w2 w3 w4 w5 w6 w7 w8 w9 w10 w11 w12 hv => ?_)
      simp (disch := omega) only [nI_add, nI_clamp, vpin, not_true_eq_false, not_false_eq_true, forall_const, true_implies, false_implies, implies_true, and_true, true_and, and_false, false_and, or_true, true_or, or_false, false_or, forall_eq, ↓reduceIte, ne_eq, nI1ne, nI0eq, Classical.not_not, eq_self, reduceCtorEq]
      have hu := newR_up (x := nI x3) (b := 1710) (Or.inr (Or.inr rfl)) hr2 (newR_up (x := nI i) (b := 1610) (Or.inr (Or.inl rfl)) hr2 hv)
      have ev : ∀ j, j ≠ 1610 + r → j ≠ 1710 + r → upd (upd v (1610 + r) (nI i)) (1710 + r) (nI x3) j = v j := fun j z1 z2 => by rw [updne z2, updne z1]
      refine hR _ _ _ _ _ _ _ _ _ _ _ _ _ _ (ICourt_of h hr2 hu (ICm_grant (kd := 7) h.2.2 hr2 (poolR_up hb) memq hu ?_ ?_ (by omega) (by omega) ?_ upee upee (by rw [upee, ev _ (by omega) (by omega), w4]) (by rw [ev _ (by omega) (by omega), w4]; exact ⟨x2, by omega, rfl⟩) (by rw [upee, ev _ (by omega) (by omega), w7]) (by rw [ev _ (by omega) (by omega), w8, ht.1]) (by rw [ht.1]; exact ht.2) (by rw [ev _ (by omega) (by omega)]; exact w11) (fun e => by omega) (fun _ => ⟨⟨i, hi, hi6, ?_, upee⟩, ?_, ?_, ?_, ?_⟩))) (newR_out hr2 hu) (poolR_up hb)
      · rw [ev _ (by omega) (by omega)]; exact w2
      · intro k hk
        rw [ev _ (by omega) (by omega), ev _ (by omega) (by omega)]; exact w12 k hk
      · rw [ev _ (by omega) (by omega)]; exact w3
      · rw [updne (by omega), upde]
      · rw [upee, upde]
      · rw [upde]; exact ⟨x3, hx3, rfl⟩
      · rw [ev _ (by omega) (by omega)]; exact w10
      · rw [ev _ (by omega) (by omega)]; exact w9
