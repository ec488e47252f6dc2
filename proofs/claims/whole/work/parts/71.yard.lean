def anyAt (s : Nat → Int32) (b k : Nat) (x : Int32) : Prop := ∃ v, v < k ∧ s (b + v) = x
theorem anyAt_s {s : Nat → Int32} {b k : Nat} {x : Int32} : anyAt s b (k + 1) x ↔ anyAt s b k x ∨ s (b + k) = x := by
  constructor
  · rintro ⟨v, hv, h⟩
    by_cases e : v = k
    · subst e; exact Or.inr h
    · exact Or.inl ⟨v, by omega, h⟩
  · rintro (⟨v, hv, h⟩ | h)
    · exact ⟨v, by omega, h⟩
    · exact ⟨k, by omega, h⟩
theorem anyAt_0 {s : Nat → Int32} {b : Nat} {x : Int32} : ¬ anyAt s b 0 x := fun ⟨_, hv, _⟩ => by omega
theorem cls_ship {s pl : Nat → Int32} {c : Nat} {x : Int32} {Q : Int32 → Prop} (hc : c ≤ 12) (hp : ∀ i, i < 12 → pl i = s (114 + i)) (h1 : anyAt s 114 c x → Q (nI 1)) (h0 : ¬ anyAt s 114 c x → Q (nI 0)) : wp_X7_hasShipAt x pl (nI c) Q := by
  unfold wp_X7_hasShipAt
  refine meas1 (F := wl_X7_hasShipAt_2 x pl (nI c) Q) (fun v => ∃ k, k ≤ c ∧ v = nI k ∧ ¬ anyAt s 114 k x) (fun v => c - v.toNatClampNeg) ?_ _ ⟨0, by omega, rfl, anyAt_0⟩
  rintro v ⟨k, hk, rfl, hn⟩ m ih
  rw [wl_X7_hasShipAt_2]
  by_cases q : k = c
  · subst q
    simp (disch := omega) only [wb_X7_hasShipAt_2, nI_natle, Nat.le_refl, not_true_eq_false, not_false_eq_true, forall_const, true_implies, false_implies, implies_true, and_true, true_and, and_false, false_and, or_true, true_or, or_false, false_or, forall_eq, ↓reduceIte, ne_eq, nI1ne, nI0eq, Classical.not_not, eq_self, reduceCtorEq]
    exact h0 hn
  · simp (disch := omega) only [wb_X7_hasShipAt_2, nI_natle, show ¬ c ≤ k from by omega, vpin, nI_clamp, nI_add, hp k (by omega), not_true_eq_false, not_false_eq_true, forall_const, true_implies, false_implies, implies_true, and_true, true_and, and_false, false_and, or_true, true_or, or_false, false_or, forall_eq, ↓reduceIte, ne_eq, nI1ne, nI0eq, Classical.not_not, eq_self, reduceCtorEq]
    refine ⟨fun z => ih _ ⟨k + 1, by omega, rfl, fun z2 => ?_⟩ (by rw [nI_clamp (by omega), nI_clamp (by omega)]; omega), fun z => h1 ⟨k, by omega, z⟩⟩
    rcases anyAt_s.mp z2 with z3 | z3
    · exact hn z3
    · exact z z3
theorem cls_paint {s ds : Nat → Int32} {c : Nat} {x : Int32} {Q : Int32 → Prop} (hc : c ≤ 6) (hp : ∀ i, i < 6 → ds i = s (230 + i)) (h1 : anyAt s 230 c x → Q (nI 1)) (h0 : ¬ anyAt s 230 c x → Q (nI 0)) : wp_X6_isPainted x ds (nI c) Q := by
  unfold wp_X6_isPainted
  refine meas1 (F := wl_X6_isPainted_2 x ds (nI c) Q) (fun v => ∃ k, k ≤ c ∧ v = nI k ∧ ¬ anyAt s 230 k x) (fun v => c - v.toNatClampNeg) ?_ _ ⟨0, by omega, rfl, anyAt_0⟩
  rintro v ⟨k, hk, rfl, hn⟩ m ih
  rw [wl_X6_isPainted_2]
  by_cases q : k = c
  · subst q
    simp (disch := omega) only [wb_X6_isPainted_2, nI_natle, Nat.le_refl, not_true_eq_false, not_false_eq_true, forall_const, true_implies, false_implies, implies_true, and_true, true_and, and_false, false_and, or_true, true_or, or_false, false_or, forall_eq, ↓reduceIte, ne_eq, nI1ne, nI0eq, Classical.not_not, eq_self, reduceCtorEq]
    exact h0 hn
  · simp (disch := omega) only [wb_X6_isPainted_2, nI_natle, show ¬ c ≤ k from by omega, vpin, nI_clamp, nI_add, hp k (by omega), not_true_eq_false, not_false_eq_true, forall_const, true_implies, false_implies, implies_true, and_true, true_and, and_false, false_and, or_true, true_or, or_false, false_or, forall_eq, ↓reduceIte, ne_eq, nI1ne, nI0eq, Classical.not_not, eq_self, reduceCtorEq]
    refine ⟨fun z => ih _ ⟨k + 1, by omega, rfl, fun z2 => ?_⟩ (by rw [nI_clamp (by omega), nI_clamp (by omega)]; omega), fun z => h1 ⟨k, by omega, z⟩⟩
    rcases anyAt_s.mp z2 with z3 | z3
    · exact hn z3
    · exact z z3
theorem free_step {c y x : Int32} {P : Prop} (hc : isB c (¬ P)) : isB (if c = 0 then nI 0 else if y = x then nI 0 else nI 1) (¬ (P ∨ y = x)) := by
  rcases hc with ⟨h, rfl⟩ | ⟨h, rfl⟩
  · rw [if_neg (show ¬ nI 1 = 0 by decide)]
    by_cases z : y = x
    · rw [if_pos z]; exact Or.inr ⟨fun w => w (Or.inr z), rfl⟩
    · rw [if_neg z]; exact Or.inl ⟨fun w => w.elim h z, rfl⟩
  · rw [if_pos (show nI 0 = 0 by decide)]
    exact Or.inr ⟨fun w => h (fun p => w (Or.inl p)), rfl⟩
theorem mod_yard {s : Nat → Int32} {x1 x2 c d : Nat} {stamp night : Int32} {K : Int32 → (Nat → Int32) → Int32 → Int32 → Prop} (hx1 : x1 < 30) (hc : c ≤ 12) (hd : d ≤ 6) (h3 : s 3 = nI c) (h6 : s 6 = nI d) (k0 : (anyAt s 114 c (nI x1) ∨ anyAt s 230 d (nI x1)) → K (-3) s stamp night) (k1 : ¬ (anyAt s 114 c (nI x1) ∨ anyAt s 230 d (nI x1)) → K (s (20 + x1)) (upd s (20 + x1) (nI x2)) (stamp + nI 1) (night + nI 1)) : ∃ n, wl_X12_yard_26 (nI x1) (nI x2) s stamp night K n (nI 1) (nI 0) := by
  refine meas2 (F := wl_X12_yard_26 (nI x1) (nI x2) s stamp night K) (fun v w => ∃ k, k ≤ c ∧ w = nI k ∧ isB v (¬ anyAt s 114 k (nI x1))) (fun _ w => c - w.toNatClampNeg) ?_ _ _ ⟨0, by omega, rfl, Or.inl ⟨anyAt_0, rfl⟩⟩
  rintro v w ⟨k, hk, rfl, hv⟩ m ih
  rw [wl_X12_yard_26]
  by_cases q : k = c
  · subst q
    simp (disch := omega) only [wb_X12_yard_26, h3, nI_natle, Nat.le_refl, not_true_eq_false, not_false_eq_true, forall_const, true_implies, false_implies, implies_true, and_true, true_and, and_false, false_and, or_true, true_or, or_false, false_or, forall_eq, ↓reduceIte, ne_eq, nI1ne, nI0eq, Classical.not_not, eq_self, reduceCtorEq]
    clear ih
    refine meas2 (F := wl_X12_yard_70 (nI x1) (nI x2) s stamp night K) (fun v w => ∃ j, j ≤ d ∧ w = nI j ∧ isB v (¬ (anyAt s 114 k (nI x1) ∨ anyAt s 230 j (nI x1)))) (fun _ w => d - w.toNatClampNeg) ?_ _ _ ⟨0, by omega, rfl, isB_iff hv ⟨fun a b => b.elim a anyAt_0, fun a b => a (Or.inl b)⟩⟩
    rintro v w ⟨j, hj, rfl, hv⟩ m ih
    rw [wl_X12_yard_70]
    have ev := isB_0 hv
    by_cases q : j = d
    · subst q
      simp (disch := omega) only [wb_X12_yard_70, h6, nI_natle, Nat.le_refl, vpin, nI_clamp, nI_add, not_true_eq_false, not_false_eq_true, forall_const, true_implies, false_implies, implies_true, and_true, true_and, and_false, false_and, or_true, true_or, or_false, false_or, forall_eq, ↓reduceIte, ne_eq, nI1ne, nI0eq, Classical.not_not, eq_self, reduceCtorEq]
      refine ⟨fun z => k1 (fun y => z (ev ▸ (fun w => w y))), fun z => k0 (Classical.byContradiction (fun y => (ev ▸ z) y))⟩
    · simp (disch := omega) only [wb_X12_yard_70, h6, nI_natle, show ¬ d ≤ j from by omega, vpin, nI_clamp, nI_add, not_true_eq_false, not_false_eq_true, forall_const, true_implies, false_implies, implies_true, and_true, true_and, and_false, false_and, or_true, true_or, or_false, false_or, forall_eq, ↓reduceIte, ne_eq, nI1ne, nI0eq, Classical.not_not, eq_self, reduceCtorEq]
      refine ih _ _ ⟨j + 1, by omega, rfl, isB_iff (free_step hv) ?_⟩ (by rw [nI_clamp (by omega), nI_clamp (by omega)]; omega)
      rw [anyAt_s, or_assoc]
  · simp (disch := omega) only [wb_X12_yard_26, h3, nI_natle, show ¬ c ≤ k from by omega, vpin, nI_clamp, nI_add, not_true_eq_false, not_false_eq_true, forall_const, true_implies, false_implies, implies_true, and_true, true_and, and_false, false_and, or_true, true_or, or_false, false_or, forall_eq, ↓reduceIte, ne_eq, nI1ne, nI0eq, Classical.not_not, eq_self, reduceCtorEq]
    refine ih _ _ ⟨k + 1, by omega, rfl, isB_iff (free_step hv) ?_⟩ (by rw [nI_clamp (by omega), nI_clamp (by omega)]; omega)
    rw [anyAt_s]
theorem core_yard {gr : Nat → Int32} {today : Int32} {tape : Nat → Int32} {bytes : Int32} {texts : Nat → Option Nat} {tc : Int32} {T_L : List Nat} {T_number T_tongue T_day : Nat → Int32} {T_code : Nat → Option Nat} {C_L : List Nat} {C_len : Nat → Nat} {C_row : Nat → Nat → Int32} {goods ab pl : Nat → Int32} {sc : Int32} {bond sold passed tar parts pur : Nat → Int32} {chest : Int32} {fs ow : Nat → Int32} {fc : Int32} {uf ut : Nat → Int32} {uc : Int32} {quo : Nat → Int32} {ds fh lh : Nat → Int32} {dc : Int32} {si : Nat → Int32} {s : Nat → Int32} {stamp night p1 p2 : Int32} {R : (Nat → Int32) → (Nat → Int32) → Int32 → Int32 → Prop} (h : ILand gr today tape bytes texts tc T_L T_number T_tongue T_day T_code C_L C_len C_row s) (hP : IPort goods ab pl sc bond sold passed tar parts pur chest fs ow fc uf ut uc quo s) (hN : INight ds fh lh dc si s) (h0 : R gr s stamp night) (hR : ∀ a v, ILand a today tape bytes texts tc T_L T_number T_tongue T_day T_code C_L C_len C_row v → outS idxY s v → R a v (stamp + nI 1) (night + nI 1)) : wp_X11_yard p1 p2 gr pl sc ds dc (fun r a => wp_X12_yard p1 p2 s stamp night (fun r' v y z => r = r' ∧ R a v y z)) := by
  obtain ⟨⟨c, a, b, ch, hc, rfl, e3, e4, -⟩, -⟩ := hP
  obtain ⟨⟨d, hd, rfl, e6, e7, -⟩, -⟩ := hN
  rcases in_cases p1 0 29 (by decide) (by decide) with ⟨g1, -⟩ | ⟨g1, x1, -, hx1, rfl⟩
  · simp only [wp_X11_yard, wp_X12_yard, f_X11_isSpot, f_X12_isSpot, within_eq, g1, not_true_eq_false, not_false_eq_true, forall_const, true_implies, false_implies, implies_true, and_true, true_and, and_false, false_and, or_true, true_or, or_false, false_or, forall_eq, ↓reduceIte, ne_eq, nI1ne, nI0eq, Classical.not_not, eq_self, reduceCtorEq]
    exact h0
  rcases in_cases p2 0 5 (by decide) (by decide) with ⟨g2, -⟩ | ⟨g2, x2, -, hx2, rfl⟩
  · simp only [wp_X11_yard, wp_X12_yard, f_X11_isSpot, f_X12_isSpot, within_eq, g1, g2, nI1ne, not_true_eq_false, not_false_eq_true, forall_const, true_implies, false_implies, implies_true, and_true, true_and, and_false, false_and, or_true, true_or, or_false, false_or, forall_eq, ↓reduceIte, ne_eq, nI1ne, nI0eq, Classical.not_not, eq_self, reduceCtorEq]
    exact h0
  simp only [wp_X11_yard, wp_X12_yard, f_X11_isSpot, f_X12_isSpot, within_eq, g1, g2, nI1ne, not_true_eq_false, not_false_eq_true, forall_const, true_implies, false_implies, implies_true, and_true, true_and, and_false, false_and, or_true, true_or, or_false, false_or, forall_eq, ↓reduceIte, ne_eq, nI1ne, nI0eq, Classical.not_not, eq_self, reduceCtorEq]
  refine cls_ship hc (fun i hi => (e4 i hi).2.2) (fun w => ?_) (fun w => ?_)
  · simp only [nI1ne, not_true_eq_false, not_false_eq_true, forall_const, true_implies, false_implies, implies_true, and_true, true_and, and_false, false_and, or_true, true_or, or_false, false_or, forall_eq, ↓reduceIte, ne_eq, nI1ne, nI0eq, Classical.not_not, eq_self, reduceCtorEq]
    exact mod_yard (by omega) hc hd e3 e6 (fun _ => ⟨rfl, h0⟩) (fun z => absurd (Or.inl w) z)
  · simp only [nI0eq, not_true_eq_false, not_false_eq_true, forall_const, true_implies, false_implies, implies_true, and_true, true_and, and_false, false_and, or_true, true_or, or_false, false_or, forall_eq, ↓reduceIte, ne_eq, nI1ne, nI0eq, Classical.not_not, eq_self, reduceCtorEq]
    refine cls_paint hd (fun i hi => (e7 i hi).1) (fun y => ?_) (fun y => ?_)
    · simp only [nI1ne, not_true_eq_false, not_false_eq_true, forall_const, true_implies, false_implies, implies_true, and_true, true_and, and_false, false_and, or_true, true_or, or_false, false_or, forall_eq, ↓reduceIte, ne_eq, nI1ne, nI0eq, Classical.not_not, eq_self, reduceCtorEq]
      exact mod_yard (by omega) hc hd e3 e6 (fun _ => ⟨rfl, h0⟩) (fun z => absurd (Or.inr y) z)
    · simp (disch := omega) only [nI0eq, vpin, nI_clamp, not_true_eq_false, not_false_eq_true, forall_const, true_implies, false_implies, implies_true, and_true, true_and, and_false, false_and, or_true, true_or, or_false, false_or, forall_eq, ↓reduceIte, ne_eq, nI1ne, nI0eq, Classical.not_not, eq_self, reduceCtorEq]
      refine mod_yard (by omega) hc hd e3 e6 (fun z => absurd z (fun z => z.elim w y)) (fun _ => ⟨(h.1 x1 (by omega)).1, ?_⟩)
      obtain ⟨l1, l2, l3, l5, l6, l7, t, ht, l8, l9, l10⟩ := h
      refine hR _ _ ⟨fun i hi => ?_, ?_, ?_, l5, fun b' hb' hb2 i hi => ?_, l7, t, ht, l8, ?_, fun i hi => ?_⟩ (fun j hj => updne (by unfold idxY at hj; omega))
      · by_cases e : i = x1
        · subst e
          rw [upde, upde]
          exact ⟨rfl, x2, hx2, rfl⟩
        · rw [updne e, updne (by omega)]
          exact l1 i hi
      · rw [updne (by omega)]; exact l2
      · rw [updne (by omega)]; exact l3
      · rw [updne (by omega)] at hb' ⊢
        exact l6 b' hb' hb2 i hi
      · rw [updne (by omega)]; exact l9
      · obtain ⟨a, c2, d1, d2, d3, d4, d5, d6, d7, d8, d9, d10⟩ := l10 i hi
        rw [updne (by omega), updne (by omega)]
        exact ⟨a, c2, d1, d2, d3, d4, d5, d6, d7, d8, d9, TextOK_congr (by omega) d10 (fun j hj => updne (by omega))⟩
