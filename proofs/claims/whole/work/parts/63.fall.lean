def HS (r : Nat) (s : Nat → Int32) : Nat → Prop := fun j => j < 2 ^ 31 ∧ HU r s j
theorem narB {x : Int32} {P : Prop} (h : isB x P) : isB (vp_nar .boolean x) P := by
  rcases h with ⟨h, rfl⟩ | ⟨h, rfl⟩
  · exact Or.inl ⟨h, nar1⟩
  · exact Or.inr ⟨h, nar0⟩
theorem isB_iff {x : Int32} {P P' : Prop} (h : isB x P) (e : P ↔ P') : isB x P' := by
  rcases h with ⟨h, rfl⟩ | ⟨h, rfl⟩
  · exact Or.inl ⟨e.mp h, rfl⟩
  · exact Or.inr ⟨fun z => h (e.mpr z), rfl⟩
theorem isB_0 {x : Int32} {P : Prop} (h : isB x P) : (x = 0) = ¬ P := by
  rcases h with ⟨h, rfl⟩ | ⟨h, rfl⟩
  · rw [nI1ne]; exact propext ⟨False.elim, fun z => z h⟩
  · rw [nI0eq]; exact propext ⟨fun _ => h, fun _ => trivial⟩
theorem ov_eq {today : Int32} {rights : Nat → Option Nat} {leans : Nat → Int64} {heardOn : Nat → Int32} {overruled : Int64} {R_L : List Nat} {R_kind R_number R_side R_n R_cell R_day R_ruling R_share : Nat → Int32} {s : Nat → Int32} {r i : Nat} (hm : ICm today rights (nI r) leans heardOn overruled R_L R_kind R_number R_side R_n R_cell R_day R_ruling R_share s) (hr : r ≤ 50) (hi : i < 50) : isB (if s 2 ≤ nI i then nI 0 else if s (1310 + i) = nI 6 then (if s (1860 + i) = nI 1 then nI 1 else nI 0) else nI 0) (Sx overruled i) := by
  obtain ⟨-, r', ki, hr', h4, h5, h6, h7, h8, h9⟩ := hm
  have er : r' = r := ((nI_eq (by omega) (by omega)).mp h4).symm
  subst er
  have le : (s 2 ≤ nI i) = (r' ≤ i) := by rw [h5, nI_natle (by omega) (by omega)]
  by_cases q : r' ≤ i
  · rw [if_pos (le ▸ q)]
    exact Or.inr ⟨fun z => by have := (h9 i z).1; omega, rfl⟩
  · rw [if_neg (fun z => q (le ▸ z))]
    obtain ⟨a, -, -, -, -, g5, -, -, -, -, -, -, -, -, g14, -⟩ := h6 i (by omega)
    by_cases k6 : ki i = 6
    · have e := (g14 k6).2.2.2
      rw [k6] at g5
      rw [g5, if_pos rfl, e]
      unfold Sx
      by_cases b : bitL overruled i = true
      · rw [b]; exact Or.inl ⟨rfl, by decide⟩
      · have b2 : bitL overruled i = false := Bool.eq_false_iff.mpr b
        rw [b2]; exact Or.inr ⟨by decide, by decide⟩
    · have : ¬ s (1310 + i) = nI 6 := by
        obtain ⟨a, -, -, -, w, g5, -⟩ := h6 i (by omega)
        rw [g5]
        exact fun e => k6 ((nI_eq (by omega) (by omega)).mp e)
      rw [if_neg this]
      exact Or.inr ⟨fun z => k6 (h9 i z).2, rfl⟩
theorem ICm_M {today : Int32} {rights : Nat → Option Nat} {leans : Nat → Int64} {heardOn : Nat → Int32} {overruled : Int64} {R_L : List Nat} {R_kind R_number R_side R_n R_cell R_day R_ruling R_share : Nat → Int32} {s : Nat → Int32} {r : Nat} (hm : ICm today rights (nI r) leans heardOn overruled R_L R_kind R_number R_side R_n R_cell R_day R_ruling R_share s) (hr : r ≤ 50) : s 2 = nI r ∧ (∀ i, i < r → ∀ j, j < 50 → s (1910 + 50 * i + j) = nI (if Mx leans i j then 1 else 0)) ∧ (∀ i j, i < r → Mx leans i j = true → j < r) := by
  obtain ⟨-, r', ki, hr', h4, h5, h6, h7, h8, h9⟩ := hm
  have er : r' = r := ((nI_eq (by omega) (by omega)).mp h4).symm
  subst er
  exact ⟨h5, h7, fun i j hi h => (h8 i hi j h).1⟩
theorem mod_looks {today : Int32} {rights : Nat → Option Nat} {leans : Nat → Int64} {heardOn : Nat → Int32} {overruled : Int64} {R_L : List Nat} {R_kind R_number R_side R_n R_cell R_day R_ruling R_share : Nat → Int32} {s fallen held stands : Nat → Int32} {r : Nat} {Q : (Nat → Int32) → (Nat → Int32) → (Nat → Int32) → Prop} (hm : ICm today rights (nI r) leans heardOn overruled R_L R_kind R_number R_side R_n R_cell R_day R_ruling R_share s) (hr : r ≤ 50) (hQ : ∀ f h st, (∀ i, i < 50 → isB (f i) (Cl r (Mx leans) (Sx overruled) i)) → (∀ i, i < 50 → isB (h i) (Cl r (Mx leans) (HS r s) i)) → (∀ i, i < 50 → isB (st i) (((i < r ∧ s (1310 + i) = nI 6) ∧ ¬ Cl r (Mx leans) (Sx overruled) i) ∧ ¬ Cl r (Mx leans) (HS r s) i)) → Q f h st) : wp_X12_looks s fallen held stands Q := by
  obtain ⟨h2, hM, hMr⟩ := ICm_M hm hr
  unfold wp_X12_looks
  refine meas3 (F := wl_X12_looks_2 s stands Q) (fun v f h => ∃ i, i ≤ 50 ∧ v = nI i ∧ ∀ a, a < i → isB (f a) (Sx overruled a) ∧ h a = nI 0) (fun v _ _ => 50 - v.toNatClampNeg) ?_ _ _ _ ⟨0, by omega, rfl, fun a ha => by omega⟩
  rintro v f h ⟨i, hi, rfl, hf⟩ m ih
  rw [wl_X12_looks_2]
  by_cases q : i = 50
  · subst q
    simp (disch := omega) only [wb_X12_looks_2, nI_natle, Nat.le_refl, not_true_eq_false, not_false_eq_true, forall_const, true_implies, false_implies, implies_true, and_true, true_and, and_false, false_and, or_true, true_or, or_false, false_or, forall_eq, ↓reduceIte, ne_eq, nI1ne, nI0eq, Classical.not_not, eq_self, reduceCtorEq]
    clear ih
    refine meas2 (F := wl_X12_looks_73 s stands Q f) (fun v g => ∃ i, i ≤ r ∧ v = nI i ∧ ∀ a, a < 50 → isB (g a) (HS i s a)) (fun v _ => r - v.toNatClampNeg) ?_ _ _ ⟨0, by omega, rfl, fun a ha => Or.inr ⟨fun ⟨_, v, hv, _⟩ => by omega, (hf a ha).2⟩⟩
    rintro v g ⟨i, hi, rfl, hg⟩ m ih
    rw [wl_X12_looks_73]
    by_cases q : i = r
    · subst q
      simp (disch := omega) only [wb_X12_looks_73, h2, nI_natle, Nat.le_refl, not_true_eq_false, not_false_eq_true, forall_const, true_implies, false_implies, implies_true, and_true, true_and, and_false, false_and, or_true, true_or, or_false, false_or, forall_eq, ↓reduceIte, ne_eq, nI1ne, nI0eq, Classical.not_not, eq_self, reduceCtorEq]
      refine mod_on_fallen hr h2 hM hMr (fun a ha => (hf a ha).1) (fun f' hf' => mod_on_held hr h2 hM hMr hg (fun h' hh' => ?_))
      clear ih
      refine meas2 (F := wl_X12_looks_151 s Q f' h') (fun v g => ∃ k, k ≤ 50 ∧ v = nI k ∧ ∀ a, a < k → isB (g a) (((a < i ∧ s (1310 + a) = nI 6) ∧ ¬ Cl i (Mx leans) (Sx overruled) a) ∧ ¬ Cl i (Mx leans) (HS i s) a)) (fun v _ => 50 - v.toNatClampNeg) ?_ _ _ ⟨0, by omega, rfl, fun a ha => by omega⟩
      rintro v st ⟨k, hk, rfl, hst⟩ m ih
      rw [wl_X12_looks_151]
      by_cases q : k = 50
      · subst q
        simp (disch := omega) only [wb_X12_looks_151, nI_natle, Nat.le_refl, not_true_eq_false, not_false_eq_true, forall_const, true_implies, false_implies, implies_true, and_true, true_and, and_false, false_and, or_true, true_or, or_false, false_or, forall_eq, ↓reduceIte, ne_eq, nI1ne, nI0eq, Classical.not_not, eq_self, reduceCtorEq]
        exact hQ f' h' st hf' hh' hst
      · have hk2 : k < 50 := by omega
        simp (disch := omega) only [wb_X12_looks_151, h2, nI_natle, show ¬ 50 ≤ k from by omega, nI_add, nI_clamp, vpin, not_true_eq_false, not_false_eq_true, forall_const, true_implies, false_implies, implies_true, and_true, true_and, and_false, false_and, or_true, true_or, or_false, false_or, forall_eq, ↓reduceIte, ne_eq, nI1ne, nI0eq, Classical.not_not, eq_self, reduceCtorEq]
        refine ih _ _ ⟨k + 1, by omega, rfl, fun a ha => ?_⟩ (by rw [nI_clamp (by omega), nI_clamp (by omega)]; omega)
        by_cases e : a = k
        · subst e
          rw [upde]
          refine narB ?_
          have ef := isB_0 (hf' a hk2)
          have eh := isB_0 (hh' a hk2)
          by_cases w1 : i ≤ a
          · rw [if_pos w1]; exact Or.inr ⟨fun z => by omega, rfl⟩
          rw [if_neg w1]
          by_cases w2 : s (1310 + a) = nI 6
          · rw [if_pos w2]
            by_cases w3 : Cl i (Mx leans) (Sx overruled) a
            · rw [if_neg (fun z => (ef ▸ z) w3)]; exact Or.inr ⟨fun z => z.1.2 w3, rfl⟩
            · rw [if_pos (ef ▸ w3)]
              by_cases w4 : Cl i (Mx leans) (HS i s) a
              · rw [if_neg (fun z => (eh ▸ z) w4)]; exact Or.inr ⟨fun z => z.2 w4, rfl⟩
              · rw [if_pos (eh ▸ w4)]; exact Or.inl ⟨⟨⟨⟨by omega, w2⟩, w3⟩, w4⟩, rfl⟩
          · rw [if_neg w2]; exact Or.inr ⟨fun z => w2 z.1.1.2, rfl⟩
        · rw [updne e]; exact hst a (by omega)
    · obtain ⟨a, -, -, g3⟩ := held_one hm hr (show i < r by omega)
      simp (disch := omega) only [wb_X12_looks_73, h2, nI_natle, show ¬ r ≤ i from by omega, nI_add, nI_clamp, vpin, not_true_eq_false, not_false_eq_true, forall_const, true_implies, false_implies, implies_true, and_true, true_and, and_false, false_and, or_true, true_or, or_false, false_or, forall_eq, ↓reduceIte, ne_eq, nI1ne, nI0eq, Classical.not_not, eq_self, reduceCtorEq]
      have mu : r - (nI (i + 1)).toNatClampNeg < r - (nI i).toNatClampNeg := by rw [nI_clamp (by omega), nI_clamp (by omega)]; omega
      rcases g3 with ⟨-, -, q0, hq0, -, z4, z5, z6⟩ | ⟨-, z⟩
      · simp (disch := omega) only [z4, z5, z6, nI0eq, nI_clamp, vpin, nar1, not_true_eq_false, not_false_eq_true, forall_const, true_implies, false_implies, implies_true, and_true, true_and, and_false, false_and, or_true, true_or, or_false, false_or, forall_eq, ↓reduceIte, ne_eq, nI1ne, nI0eq, Classical.not_not, eq_self, reduceCtorEq]
        refine ih _ _ ⟨i + 1, by omega, rfl, fun a ha => ?_⟩ mu
        by_cases e : a = q0
        · subst e
          rw [upde]
          exact Or.inl ⟨⟨by omega, (HU_s _).mpr (Or.inr ⟨z4, z5, z6⟩)⟩, rfl⟩
        · rw [updne e]
          refine isB_iff (hg a ha) ⟨fun h => ⟨h.1, (HU_s _).mpr (Or.inl h.2)⟩, fun h => ⟨h.1, ?_⟩⟩
          rcases (HU_s _).mp h.2 with w | w
          · exact w
          · have := w.2.2
            rw [z6] at this
            exact absurd ((nI_eq (by omega) (by omega)).mp this).symm e
      · have z' : ¬ (s (1310 + i) = nI 7 ∧ s (1760 + i) = 0) := z
        refine ⟨fun w => absurd w z', fun _ => ih _ _ ⟨i + 1, by omega, rfl, fun a ha => ?_⟩ mu⟩
        refine isB_iff (hg a ha) ⟨fun h => ⟨h.1, (HU_s _).mpr (Or.inl h.2)⟩, fun h => ⟨h.1, ?_⟩⟩
        rcases (HU_s _).mp h.2 with w | w
        · exact w
        · exact absurd ⟨w.1, w.2.1⟩ z
  · have hi2 : i < 50 := by omega
    have hv := ov_eq hm hr hi2
    simp (disch := omega) only [wb_X12_looks_2, nI_natle, show ¬ 50 ≤ i from by omega, nI_add, nI_clamp, vpin, nar0, not_true_eq_false, not_false_eq_true, forall_const, true_implies, false_implies, implies_true, and_true, true_and, and_false, false_and, or_true, true_or, or_false, false_or, forall_eq, ↓reduceIte, ne_eq, nI1ne, nI0eq, Classical.not_not, eq_self, reduceCtorEq]
    refine ih _ _ _ ⟨i + 1, by omega, rfl, fun a ha => ?_⟩ (by rw [nI_clamp (by omega), nI_clamp (by omega)]; omega)
    by_cases e : a = i
    · subst e
      rw [upde, upde]
      exact ⟨narB hv, rfl⟩
    · rw [updne e, updne e]; exact hf a (by omega)
theorem isB_pop {y : Int64} {P : Nat → Prop} {f : Nat → Int32} (h : ∀ i, i < 64 → (bitL y i = true ↔ P i)) (hf : ∀ i, i < 64 → isB (f i) (P i)) (i : Nat) (hi : i < 64) : f i = nI (if bitL y i then 1 else 0) := by
  rcases hf i hi with ⟨a, b⟩ | ⟨a, b⟩
  · rw [(h i hi).mpr a, b]; rfl
  · have : bitL y i = false := Bool.eq_false_iff.mpr (fun z => a ((h i hi).mp z))
    rw [this, b]; rfl
theorem Cl_lt {r : Nat} {M : Nat → Nat → Bool} {S : Nat → Prop} {b : Nat} (hr : r ≤ b) (hS : ∀ i, S i → i < b) {i : Nat} (h : Cl r M S i) : i < b := h _ hS (fun i j hi _ _ => by omega)
theorem core_fall {today : Int32} {rights : Nat → Option Nat} {count : Int32} {leans : Nat → Int64} {heardOn : Nat → Int32} {overruled : Int64} {termDays step : Int32} {R_L : List Nat} {R_kind R_number R_side R_n R_cell R_day R_ruling R_share : Nat → Int32} {s fallen held stands falling : Nat → Int32} {p1 p2 : Int32} {R : Prop} (h : ICourt today rights count leans heardOn overruled termDays step R_L R_kind R_number R_side R_n R_cell R_day R_ruling R_share s) (hR : R) : wp_X11_fall p1 p2 rights count leans heardOn overruled R_L R_kind R_ruling (fun r => wp_X12_fall p1 p2 s fallen held stands falling (fun r' _ _ _ _ => r = r' ∧ R)) := by
  obtain ⟨a1, a2, a3, a4⟩ := ruling_eq h.2.2 p1
  unfold wp_X11_fall wp_X12_fall
  rw [a1]
  simp only [a2, a3, not_true_eq_false, not_false_eq_true, forall_const, true_implies, false_implies, implies_true, and_true, true_and, and_false, false_and, or_true, true_or, or_false, false_or, forall_eq, ↓reduceIte, ne_eq, nI1ne, nI0eq, Classical.not_not, eq_self, reduceCtorEq]
  rcases a4 with e | ⟨e, r, i, hr, rfl, hi, rfl, hi6⟩
  · simp only [e, nI0eq, not_true_eq_false, not_false_eq_true, forall_const, true_implies, false_implies, implies_true, and_true, true_and, and_false, false_and, or_true, true_or, or_false, false_or, forall_eq, ↓reduceIte, ne_eq, nI1ne, nI0eq, Classical.not_not, eq_self, reduceCtorEq]
    exact hR
  have hm := h.2.2
  obtain ⟨h2, hM, hMr⟩ := ICm_M hm hr
  simp only [e, nI1ne, not_true_eq_false, not_false_eq_true, forall_const, true_implies, false_implies, implies_true, and_true, true_and, and_false, false_and, or_true, true_or, or_false, false_or, forall_eq, ↓reduceIte, ne_eq, nI1ne, nI0eq, Classical.not_not, eq_self, reduceCtorEq]
  have asB : ∀ b, f_X11_asInt (nB b) = nB b := fun b => by cases b <;> decide
  have out : ∀ (P : Nat → Prop) (y : Int64) (f : Nat → Int32), (∀ j, bitL y j = true ↔ P j) → isB (f i) (P i) → f_X11_asInt (f_X11_hasBit y (nI i)) = (if f i = 0 then nI 0 else nI 1) := by
    intro P y f hy hf
    rw [hasBit y i (by omega), asB]
    rcases hf with ⟨z, w⟩ | ⟨z, w⟩
    · rw [w, (hy i).mpr z]; decide
    · have : bitL y i = false := Bool.eq_false_iff.mpr (fun b => z ((hy i).mp b))
      rw [w, this]; decide
  rcases in_cases p2 0 3 (by decide) (by decide) with ⟨f1, f2⟩ | ⟨f1, x, -, hx, rfl⟩
  · simp only [f1, f2 0 (by omega) (by omega), f2 1 (by omega) (by omega), f2 2 (by omega) (by omega), f2 3 (by omega) (by omega), not_true_eq_false, not_false_eq_true, forall_const, true_implies, false_implies, implies_true, and_true, true_and, and_false, false_and, or_true, true_or, or_false, false_or, forall_eq, ↓reduceIte, ne_eq, nI1ne, nI0eq, Classical.not_not, eq_self, reduceCtorEq]
    exact hR
  have : x = 0 ∨ x = 1 ∨ x = 2 ∨ x = 3 := by omega
  rcases this with rfl | rfl | rfl | rfl
  · simp (disch := omega) only [f1, nI_nateq, nI_natle, Nat.reduceEqDiff, Nat.reduceLeDiff, nI_clamp, vpin, nI_ne0, not_true_eq_false, not_false_eq_true, forall_const, true_implies, false_implies, implies_true, and_true, true_and, and_false, false_and, or_true, true_or, or_false, false_or, forall_eq, ↓reduceIte, ne_eq, nI1ne, nI0eq, Classical.not_not, eq_self, reduceCtorEq]
    refine cls_fallen hr (fun y hy => mod_looks hm hr (fun f h st hf hh hst => ?_))
    exact ⟨out _ y f hy (hf i (by omega)), hR⟩
  · simp (disch := omega) only [f1, nI_nateq, nI_natle, Nat.reduceEqDiff, Nat.reduceLeDiff, nI_clamp, vpin, nI_ne0, not_true_eq_false, not_false_eq_true, forall_const, true_implies, false_implies, implies_true, and_true, true_and, and_false, false_and, or_true, true_or, or_false, false_or, forall_eq, ↓reduceIte, ne_eq, nI1ne, nI0eq, Classical.not_not, eq_self, reduceCtorEq]
    refine cls_held hm hr (fun y hy => mod_looks hm hr (fun f h st hf hh hst => ?_))
    exact ⟨out _ y h hy (hh i (by omega)), hR⟩
  · simp (disch := omega) only [f1, nI_nateq, nI_natle, Nat.reduceEqDiff, Nat.reduceLeDiff, nI_clamp, vpin, nI_ne0, not_true_eq_false, not_false_eq_true, forall_const, true_implies, false_implies, implies_true, and_true, true_and, and_false, false_and, or_true, true_or, or_false, false_or, forall_eq, ↓reduceIte, ne_eq, nI1ne, nI0eq, Classical.not_not, eq_self, reduceCtorEq]
    refine cls_standing hm hr (fun y hy => mod_looks hm hr (fun f h st hf hh hst => ?_))
    exact ⟨out _ y st hy (hst i (by omega)), hR⟩
  · simp (disch := omega) only [f1, nI_nateq, nI_natle, Nat.reduceEqDiff, Nat.reduceLeDiff, Nat.le_refl, nI_clamp, vpin, nI_ne0, not_true_eq_false, not_false_eq_true, forall_const, true_implies, false_implies, implies_true, and_true, true_and, and_false, false_and, or_true, true_or, or_false, false_or, forall_eq, ↓reduceIte, ne_eq, nI1ne, nI0eq, Classical.not_not, eq_self, reduceCtorEq]
    refine cls_on hr (fun y hy => cls_fallen hr (fun z hz => mod_looks hm hr (fun f h st hf hh hst => ?_)))
    have hone : ∀ j, bitL ((1 : Int64) <<< ((nI i).toInt64 &&& 63)) j = true ↔ j = i := by
      intro j
      rcases Nat.lt_or_ge j 64 with q | q
      · rw [bit_one i j (by omega) q]; simp
      · rw [bit_hi _ _ q]
        exact ⟨fun w => (by cases w), fun w => by omega⟩
    have hy2 : ∀ j, bitL y j = true ↔ Cl r (Mx leans) (fun j => j = i) j := fun j => Iff.trans (hy j) (Cl_congr hone j)
    refine meas2 (F := wl_X12_fall_80 (nI i) s _ f h st) (fun v g => ∃ k, k ≤ 50 ∧ v = nI k ∧ ∀ a, a < k → isB (g a) (a = i)) (fun v _ => 50 - v.toNatClampNeg) ?_ _ _ ⟨0, by omega, rfl, fun a ha => by omega⟩
    rintro v g ⟨k, hk, rfl, hg⟩ m ih
    rw [wl_X12_fall_80]
    by_cases q : k = 50
    · subst q
      simp (disch := omega) only [wb_X12_fall_80, nI_natle, Nat.le_refl, not_true_eq_false, not_false_eq_true, forall_const, true_implies, false_implies, implies_true, and_true, true_and, and_false, false_and, or_true, true_or, or_false, false_or, forall_eq, ↓reduceIte, ne_eq, nI1ne, nI0eq, Classical.not_not, eq_self, reduceCtorEq]
      refine mod_on_falling hr h2 hM hMr hg (fun g' hg' => ?_)
      clear ih
      rw [bc64, popS_top (m := 50) 64 (by omega) (fun j hj => by
        rw [if_neg]
        intro w
        have := Cl_lt hr (fun a ha => by omega) ((hy2 j).mp ((bit_and_not j).mp w).1)
        omega)]
      refine run2 (F := wl_X12_fall_121 _ f h st g') 50 (fun j => nI (popS (fun b => if bitL (y &&& (z ^^^ (-1))) b then 1 else 0) j)) (fun j => nI j) ?_ ?_
      · intro j hj n ih
        have bit : (if g' j = 0 then nI 0 else if f j = 0 then nI 1 else nI 0) = nI (if bitL (y &&& (z ^^^ (-1))) j then 1 else 0) := by
          have b1 := bit_and_not (x := y) (y := z) j
          rw [hy2, hz] at b1
          have eg := isB_0 (hg' j hj)
          have ef := isB_0 (hf j hj)
          by_cases w1 : Cl r (Mx leans) (fun j => j = i) j
          · rw [if_neg (fun z => (eg ▸ z) w1)]
            by_cases w2 : Cl r (Mx leans) (Sx overruled) j
            · rw [if_neg (fun z => (ef ▸ z) w2), if_neg (fun z => (b1.mp z).2 w2)]
            · rw [if_pos (ef ▸ w2), if_pos (b1.mpr ⟨w1, w2⟩)]
          · rw [if_pos (eg ▸ w1), if_neg (fun z => w1 (b1.mp z).1)]
        rw [wl_X12_fall_121]
        simp (disch := omega) only [wb_X12_fall_121, nI_natle, show ¬ 50 ≤ j from by omega, nI_clamp, vpin, bit, nI_add, not_true_eq_false, not_false_eq_true, forall_const, true_implies, false_implies, implies_true, and_true, true_and, and_false, false_and, or_true, true_or, or_false, false_or, forall_eq, ↓reduceIte, ne_eq, nI1ne, nI0eq, Classical.not_not, eq_self, reduceCtorEq]
        exact ih
      · intro n
        rw [wl_X12_fall_121]
        simp (disch := omega) only [wb_X12_fall_121, nI_natle, Nat.le_refl, not_true_eq_false, not_false_eq_true, forall_const, true_implies, false_implies, implies_true, and_true, true_and, and_false, false_and, or_true, true_or, or_false, false_or, forall_eq, ↓reduceIte, ne_eq, nI1ne, nI0eq, Classical.not_not, eq_self, reduceCtorEq]
        exact hR
    · simp (disch := omega) only [wb_X12_fall_80, nI_natle, show ¬ 50 ≤ k from by omega, nI_add, nI_clamp, vpin, nI_nateq, not_true_eq_false, not_false_eq_true, forall_const, true_implies, false_implies, implies_true, and_true, true_and, and_false, false_and, or_true, true_or, or_false, false_or, forall_eq, ↓reduceIte, ne_eq, nI1ne, nI0eq, Classical.not_not, eq_self, reduceCtorEq]
      refine ih _ _ ⟨k + 1, by omega, rfl, fun a ha => ?_⟩ (by rw [nI_clamp (by omega), nI_clamp (by omega)]; omega)
      by_cases e : a = k
      · subst e
        rw [upde]
        refine narB ?_
        by_cases w : a = i
        · rw [if_pos w]; exact Or.inl ⟨w, rfl⟩
        · rw [if_neg w]; exact Or.inr ⟨w, rfl⟩
      · rw [updne e]; exact hg a (by omega)
