/-- a late right of a side about a ruling, among the first k -/
def TK (k : Nat) (s : Nat → Int32) (i : Nat) (p : Int32) : Prop := ∃ v, v < k ∧ s (1310 + v) = nI 7 ∧ s (1610 + v) = nI i ∧ s (1360 + v) = p
theorem TK_s {k : Nat} {s : Nat → Int32} {i : Nat} {p : Int32} : TK (k + 1) s i p ↔ TK k s i p ∨ (s (1310 + k) = nI 7 ∧ s (1610 + k) = nI i ∧ s (1360 + k) = p) := by
  constructor
  · rintro ⟨v, hv, h⟩
    by_cases e : v = k
    · subst e; exact Or.inr h
    · exact Or.inl ⟨v, by omega, h⟩
  · rintro (⟨v, hv, h⟩ | h)
    · exact ⟨v, by omega, h⟩
    · exact ⟨k, by omega, h⟩
theorem take_one {today : Int32} {rights : Nat → Option Nat} {leans : Nat → Int64} {heardOn : Nat → Int32} {overruled : Int64} {R_L : List Nat} {R_kind R_number R_side R_n R_cell R_day R_ruling R_share : Nat → Int32} {s : Nat → Int32} {r i k : Nat} {p : Int32} (hm : ICm today rights (nI r) leans heardOn overruled R_L R_kind R_number R_side R_n R_cell R_day R_ruling R_share s) (hr : r ≤ 50) (hk : k < r) : ∃ a, rights k = some a ∧ a ∈ R_L ∧ ((R_kind a = nI 7 ∧ R_ruling a = nI i ∧ R_side a = p) ↔ (s (1310 + k) = nI 7 ∧ s (1610 + k) = nI i ∧ s (1360 + k) = p)) := by
  obtain ⟨-, r', ki, hr', h4, h5, h6, h7, h8, h9⟩ := hm
  have er : r' = r := ((nI_eq (by omega) (by omega)).mp h4).symm
  subst er
  obtain ⟨a, g1, g2, g3, g4, g5, g6, g7, g8, -, g9, -, -, -, -, g10⟩ := h6 k hk
  refine ⟨a, g1, g2, ?_⟩
  rw [g6, g8, g5]
  constructor
  · rintro ⟨w1, w2, w3⟩
    obtain ⟨⟨q, -, -, z1, z2⟩, -⟩ := g10 ((nI_eq (by omega) (by omega)).mp w1)
    exact ⟨w1, by rw [z1, ← z2]; exact w2, w3⟩
  · rintro ⟨w1, w2, w3⟩
    obtain ⟨⟨q, -, -, z1, z2⟩, -⟩ := g10 ((nI_eq (by omega) (by omega)).mp w1)
    exact ⟨w1, by rw [z2, ← z1]; exact w2, w3⟩
theorem cls_takes {today : Int32} {rights : Nat → Option Nat} {leans : Nat → Int64} {heardOn : Nat → Int32} {overruled : Int64} {R_L : List Nat} {R_kind R_number R_side R_n R_cell R_day R_ruling R_share : Nat → Int32} {s : Nat → Int32} {r i : Nat} {p td : Int32} {Q : Int32 → Prop} (hm : ICm today rights (nI r) leans heardOn overruled R_L R_kind R_number R_side R_n R_cell R_day R_ruling R_share s) (hr : r ≤ 50) (hi : i < r) (h6 : s (1310 + i) = nI 6) (h0 : (Cl r (Mx leans) (Sx overruled) i ∨ ¬ (today - s (1660 + i)) ≤ td ∨ TK r s i p) → Q (nI 0)) (h1 : ¬ (Cl r (Mx leans) (Sx overruled) i ∨ ¬ (today - s (1660 + i)) ≤ td ∨ TK r s i p) → Q (nI 1)) : wp_X2_takesAppeal (nI i) p today rights (nI r) leans overruled td R_L R_kind R_side R_day R_ruling Q := by
  have hfind : f_X2_find rights (nI r) (nI i) = rights i ∧ ok_X2_find rights (nI r) (nI i) := by
    rcases find_cases rights r hr (nI i) with ⟨-, -, -, e⟩ | ⟨k, hk, e, e1, -, e3⟩
    · exact absurd rfl (e i hi)
    · have : k = i := ((nI_eq (by omega) (by omega)).mp e).symm
      subst this
      exact ⟨e1, e3⟩
  have hday : ∃ a, rights i = some a ∧ a ∈ R_L ∧ R_day a = s (1660 + i) := by
    obtain ⟨-, r', ki, hr', h4, h5, g, -⟩ := hm
    have er : r' = r := ((nI_eq (by omega) (by omega)).mp h4).symm
    subst er
    obtain ⟨a, g1, g2, g3, g4, g5, g6, -, -, -, -, -, -, -, g14, -⟩ := g i hi
    rw [g5] at h6
    exact ⟨a, g1, g2, (g14 ((nI_eq (by omega) (by omega)).mp h6)).1⟩
  obtain ⟨a, g1, g2, g3⟩ := hday
  have ne : ¬ rights i = none := by rw [g1]; exact fun z => by cases z
  have og : oget (rights i) = a := by rw [g1]; rfl
  simp only [wp_X2_takesAppeal, hfind.1, hfind.2, ne, og, g2, g3, not_true_eq_false, not_false_eq_true, forall_const, true_implies, false_implies, implies_true, and_true, true_and, and_false, false_and, or_true, true_or, or_false, false_or, forall_eq, ↓reduceIte, ne_eq, nI1ne, nI0eq, Classical.not_not, eq_self, reduceCtorEq]
  refine cls_fallen hr (fun y hy => ?_)
  rw [hasBit y i (by omega), nB0]
  have by0 : bitL y i = false ↔ ¬ Cl r (Mx leans) (Sx overruled) i := by
    rw [← hy i]
    cases bitL y i <;> simp
  refine ⟨fun w => h0 ?_, fun w => ?_⟩
  · rcases w with w | w
    · left
      apply Classical.byContradiction
      intro z
      exact w (by0.mpr z)
    · exact Or.inr (Or.inl w)
  · have w1 : ¬ Cl r (Mx leans) (Sx overruled) i := fun z => w (Or.inl (fun z2 => by0.mp z2 z))
    have w2 : (today - s (1660 + i)) ≤ td := Classical.byContradiction (fun z => w (Or.inr z))
    refine meas1 (F := wl_X2_takesAppeal_42 (nI i) p rights (nI r) R_L R_kind R_side R_ruling Q) (fun v => ∃ k, k ≤ r ∧ v = nI k ∧ ¬ TK k s i p) (fun v => r - v.toNatClampNeg) ?_ _ ⟨0, by omega, rfl, fun ⟨v, hv, _⟩ => by omega⟩
    rintro v ⟨k, hk, rfl, ht⟩ m ih
    rw [wl_X2_takesAppeal_42]
    by_cases q : k = r
    · subst q
      simp (disch := omega) only [wb_X2_takesAppeal_42, nI_natle, Nat.le_refl, not_true_eq_false, not_false_eq_true, forall_const, true_implies, false_implies, implies_true, and_true, true_and, and_false, false_and, or_true, true_or, or_false, false_or, forall_eq, ↓reduceIte, ne_eq, nI1ne, nI0eq, Classical.not_not, eq_self, reduceCtorEq]
      refine h1 (fun z => ?_)
      rcases z with z | z | z
      · exact w1 z
      · exact z w2
      · exact ht z
    · obtain ⟨b, b1, b2, b3⟩ := take_one (i := i) (p := p) hm hr (show k < r by omega)
      have nb : ¬ rights k = none := by rw [b1]; exact fun z => by cases z
      have ob : oget (rights k) = b := by rw [b1]; rfl
      simp (disch := omega) only [wb_X2_takesAppeal_42, nI_natle, show ¬ r ≤ k from by omega, vpin, nI_clamp, nb, ob, b2, b3, nI_add, not_true_eq_false, not_false_eq_true, forall_const, true_implies, false_implies, implies_true, and_true, true_and, and_false, false_and, or_true, true_or, or_false, false_or, forall_eq, ↓reduceIte, ne_eq, nI1ne, nI0eq, Classical.not_not, eq_self, reduceCtorEq]
      refine ⟨fun z => h0 (Or.inr (Or.inr ⟨k, by omega, z⟩)), fun z => ih _ ⟨k + 1, by omega, rfl, fun z2 => ?_⟩ (by rw [nI_clamp (by omega), nI_clamp (by omega)]; omega)⟩
      rcases TK_s.mp z2 with z3 | z3
      · exact ht z3
      · exact z z3
theorem lt_le (x y : Int32) : x < y ↔ ¬ y ≤ x := by
  constructor
  · intro h g
    rw [Int32.lt_iff_toInt_lt] at h
    rw [Int32.le_iff_toInt_le] at g
    omega
  · intro h
    rw [Int32.lt_iff_toInt_lt]
    rw [Int32.le_iff_toInt_le] at h
    omega
theorem mod_appeal {today : Int32} {rights : Nat → Option Nat} {leans : Nat → Int64} {heardOn : Nat → Int32} {overruled : Int64} {R_L : List Nat} {R_kind R_number R_side R_n R_cell R_day R_ruling R_share : Nat → Int32} {s fallen held stands : Nat → Int32} {r i x2 x3 : Nat} {K : Int32 → (Nat → Int32) → (Nat → Int32) → (Nat → Int32) → (Nat → Int32) → Prop} (hm : ICm today rights (nI r) leans heardOn overruled R_L R_kind R_number R_side R_n R_cell R_day R_ruling R_share s) (hr : r ≤ 50) (hi : i < r) (e1 : f_X12_isOf s (nI i) (nI 6) = nI 1) (e2 : ok_X12_isOf s (nI i) (nI 6)) (f1 : f_X12_in (nI x2) (nI 0) (nI 1) = nI 1) (f2 : f_X12_in (nI x3) (nI 0) (nI 100) = nI 1)
    (k0 : ∀ f h st, (Cl r (Mx leans) (Sx overruled) i ∨ ¬ (s 0 - s (1660 + i)) ≤ s 12 ∨ TK r s i (nI x2)) → K (-3) s f h st)
    (k1 : ∀ f h st, ¬ (Cl r (Mx leans) (Sx overruled) i ∨ ¬ (s 0 - s (1660 + i)) ≤ s 12 ∨ TK r s i (nI x2)) → (r = 50 → K (-4) s f h st) ∧ (r ≠ 50 → wp_X12_right (nI 7) (nI x2) (s (1410 + i)) (s (1460 + i)) (s (1510 + i)) s (fun r' v => vp_in (nI 1610 + r') 6700 ∧ vp_in (nI 1710 + r') 6700 ∧ K r' (upd (upd v ((nI 1610 + r').toNatClampNeg) (nI i)) ((nI 1710 + r').toNatClampNeg) (nI x3)) f h st))) : wp_X12_appeal (nI i) (nI x2) (nI x3) s fallen held stands K := by
  obtain ⟨h2, hM, hMr⟩ := ICm_M hm hr
  simp only [wp_X12_appeal, e1, e2, f1, f2, nI1ne, not_true_eq_false, not_false_eq_true, forall_const, true_implies, false_implies, implies_true, and_true, true_and, and_false, false_and, or_true, true_or, or_false, false_or, forall_eq, ↓reduceIte, ne_eq, nI1ne, nI0eq, Classical.not_not, eq_self, reduceCtorEq]
  refine mod_looks hm hr (fun f h st hf hh hst => ?_)
  simp (disch := omega) only [nI_add, nI_clamp, vpin, not_true_eq_false, not_false_eq_true, forall_const, true_implies, false_implies, implies_true, and_true, true_and, and_false, false_and, or_true, true_or, or_false, false_or, forall_eq, ↓reduceIte, ne_eq, nI1ne, nI0eq, Classical.not_not, eq_self, reduceCtorEq]
  have ef := isB_0 (hf i (by omega))
  refine meas2 (F := wl_X12_appeal_84 (nI i) (nI x2) (nI x3) s K f h st) (fun c v => ∃ k, k ≤ r ∧ v = nI k ∧ isB c (¬ (Cl r (Mx leans) (Sx overruled) i ∨ ¬ (s 0 - s (1660 + i)) ≤ s 12 ∨ TK k s i (nI x2)))) (fun _ v => r - v.toNatClampNeg) ?_ _ _ ⟨0, by omega, rfl, ?_⟩
  · rintro c v ⟨k, hk, rfl, hc⟩ m ih
    rw [wl_X12_appeal_84]
    have ec := isB_0 hc
    by_cases q : k = r
    · subst q
      simp (disch := omega) only [wb_X12_appeal_84, h2, nI_natle, Nat.le_refl, nI_nateq, nI_add, nI_clamp, vpin, not_true_eq_false, not_false_eq_true, forall_const, true_implies, false_implies, implies_true, and_true, true_and, and_false, false_and, or_true, true_or, or_false, false_or, forall_eq, ↓reduceIte, ne_eq, nI1ne, nI0eq, Classical.not_not, eq_self, reduceCtorEq]
      refine ⟨fun w => ?_, fun w => ?_⟩
      · have z : ¬ (Cl k (Mx leans) (Sx overruled) i ∨ ¬ (s 0 - s (1660 + i)) ≤ s 12 ∨ TK k s i (nI x2)) := fun z => w (ec ▸ (fun y => y z))
        exact ⟨(k1 f h st z).2, (k1 f h st z).1⟩
      · have z : Cl k (Mx leans) (Sx overruled) i ∨ ¬ (s 0 - s (1660 + i)) ≤ s 12 ∨ TK k s i (nI x2) := Classical.byContradiction (fun y => (ec ▸ w) y)
        exact k0 f h st z
    · simp (disch := omega) only [wb_X12_appeal_84, h2, nI_natle, show ¬ r ≤ k from by omega, nI_add, nI_clamp, vpin, not_true_eq_false, not_false_eq_true, forall_const, true_implies, false_implies, implies_true, and_true, true_and, and_false, false_and, or_true, true_or, or_false, false_or, forall_eq, ↓reduceIte, ne_eq, nI1ne, nI0eq, Classical.not_not, eq_self, reduceCtorEq]
      refine ih _ _ ⟨k + 1, by omega, rfl, ?_⟩ (by rw [nI_clamp (by omega), nI_clamp (by omega)]; omega)
      rw [TK_s]
      rcases hc with ⟨w, rfl⟩ | ⟨w, rfl⟩
      · rw [if_neg (show ¬ nI 1 = 0 by decide)]
        by_cases z1 : s (1310 + k) = nI 7
        · rw [if_pos z1]
          by_cases z2 : s (1610 + k) = nI i
          · rw [if_pos z2]
            by_cases z3 : s (1360 + k) = nI x2
            · rw [if_pos z3]
              exact Or.inr ⟨fun y => y (Or.inr (Or.inr (Or.inr ⟨z1, z2, z3⟩))), rfl⟩
            · rw [if_neg z3]
              refine Or.inl ⟨fun y => ?_, rfl⟩
              rcases y with y | y | y | y
              · exact w (Or.inl y)
              · exact w (Or.inr (Or.inl y))
              · exact w (Or.inr (Or.inr y))
              · exact z3 y.2.2
          · rw [if_neg z2]
            refine Or.inl ⟨fun y => ?_, rfl⟩
            rcases y with y | y | y | y
            · exact w (Or.inl y)
            · exact w (Or.inr (Or.inl y))
            · exact w (Or.inr (Or.inr y))
            · exact z2 y.2.1
        · rw [if_neg z1]
          refine Or.inl ⟨fun y => ?_, rfl⟩
          rcases y with y | y | y | y
          · exact w (Or.inl y)
          · exact w (Or.inr (Or.inl y))
          · exact w (Or.inr (Or.inr y))
          · exact z1 y.1
      · rw [if_pos (show nI 0 = 0 by decide)]
        refine Or.inr ⟨fun y => w (fun y2 => y ?_), rfl⟩
        rcases y2 with y2 | y2 | y2
        · exact Or.inl y2
        · exact Or.inr (Or.inl y2)
        · exact Or.inr (Or.inr (Or.inl y2))
  · by_cases w1 : Cl r (Mx leans) (Sx overruled) i
    · rw [if_neg (fun z => (ef ▸ z) w1)]
      exact Or.inr ⟨fun y => y (Or.inl w1), rfl⟩
    · rw [if_pos (ef ▸ w1)]
      by_cases w2 : s 12 < s 0 - s (1660 + i)
      · rw [if_pos w2]
        exact Or.inr ⟨fun y => y (Or.inr (Or.inl ((lt_le _ _).mp w2))), rfl⟩
      · rw [if_neg w2]
        refine Or.inl ⟨fun y => ?_, rfl⟩
        rcases y with y | y | ⟨v, hv, -⟩
        · exact w1 y
        · exact w2 ((lt_le _ _).mpr y)
        · omega
