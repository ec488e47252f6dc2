/-- v is s but for what a new right r takes -/
def newR (r : Nat) (s v : Nat → Int32) : Prop := ∀ j, j ≠ 2 → (j ≠ 1310 + r ∧ j ≠ 1360 + r ∧ j ≠ 1410 + r ∧ j ≠ 1460 + r ∧ j ≠ 1510 + r ∧ j ≠ 1560 + r ∧ j ≠ 1610 + r ∧ j ≠ 1660 + r ∧ j ≠ 1710 + r ∧ j ≠ 1760 + r ∧ j ≠ 1810 + r ∧ j ≠ 1860 + r) → (∀ q, q < 50 → j ≠ 1910 + 50 * r + q ∧ j ≠ 1910 + 50 * q + r) → v j = s j
theorem rightM {p1 p2 p3 p4 p5 : Int32} {s : Nat → Int32} {r : Nat} {Q : Int32 → (Nat → Int32) → Prop} (hr : r < 50) (h2 : s 2 = nI r) (hQ : ∀ v, v 2 = nI (r + 1) → v (1310 + r) = p1 → v (1360 + r) = p2 → v (1410 + r) = p3 → v (1460 + r) = p4 → v (1510 + r) = p5 → v (1660 + r) = s 0 → v (1760 + r) = nI 0 → v (1810 + r) = -5 → v (1860 + r) = nI 0 → (∀ k, k < 50 → v (1910 + 50 * r + k) = nI 0 ∧ v (1910 + 50 * k + r) = nI 0) → newR r s v → Q (nI r) v) : wp_X12_right p1 p2 p3 p4 p5 s Q := by
  simp (disch := omega) only [wp_X12_right, h2, nI_add, nI_clamp, vpin, updne, not_true_eq_false, not_false_eq_true, forall_const, true_implies, false_implies, implies_true, and_true, true_and, and_false, false_and, or_true, true_or, or_false, false_or, forall_eq, ↓reduceIte, ne_eq, nI1ne, nI0eq, Classical.not_not, eq_self, reduceCtorEq]
  generalize hs0 : upd (upd (upd (upd (upd (upd (upd (upd (upd s (1310 + r) p1) (1360 + r) p2) (1410 + r) p3) (1460 + r) p4) (1510 + r) p5) (1660 + r) (s 0)) (1760 + r) (nI 0)) (1810 + r) (-5)) (1860 + r) (nI 0) = s0
  refine meas2 (F := wl_X12_right_127 s Q) (fun x arr => ∃ k, k ≤ 50 ∧ x = nI k ∧ (∀ q, q < k → arr (1910 + 50 * r + q) = nI 0 ∧ arr (1910 + 50 * q + r) = nI 0) ∧ ∀ j, (∀ q, q < 50 → j ≠ 1910 + 50 * r + q ∧ j ≠ 1910 + 50 * q + r) → arr j = s0 j) (fun x _ => 50 - x.toNatClampNeg) ?_ _ _ ⟨0, by omega, rfl, fun q hq => by omega, fun _ _ => rfl⟩
  rintro x arr ⟨k, hk, rfl, ha, hb⟩ m ih
  rw [wl_X12_right_127]
  by_cases w : k = 50
  · subst w
    have b2 := hb 2 (fun q hq => by omega)
    simp (disch := omega) only [wb_X12_right_127, h2, nI_natle, Nat.le_refl, b2, not_true_eq_false, not_false_eq_true, forall_const, true_implies, false_implies, implies_true, and_true, true_and, and_false, false_and, or_true, true_or, or_false, false_or, forall_eq, ↓reduceIte, ne_eq, nI1ne, nI0eq, Classical.not_not, eq_self, reduceCtorEq]
    rw [show s0 2 = nI r from by rw [← hs0]; simp (disch := omega) only [updne]; exact h2, nI_add]
    have f : ∀ b, b + r < 1910 → 1000 < b → upd arr 2 (nI (r + 1)) (b + r) = s0 (b + r) := fun b h1 h2 => by rw [updne (by omega)]; exact hb _ (fun q hq => by omega)
    refine hQ _ upde ?_ ?_ ?_ ?_ ?_ ?_ ?_ ?_ ?_ (fun k hk => ?_) (fun j h1 h2 h3 => ?_)
    · rw [f 1310 (by omega) (by omega), ← hs0]; simp (disch := omega) only [updne, upde]
    · rw [f 1360 (by omega) (by omega), ← hs0]; simp (disch := omega) only [updne, upde]
    · rw [f 1410 (by omega) (by omega), ← hs0]; simp (disch := omega) only [updne, upde]
    · rw [f 1460 (by omega) (by omega), ← hs0]; simp (disch := omega) only [updne, upde]
    · rw [f 1510 (by omega) (by omega), ← hs0]; simp (disch := omega) only [updne, upde]
    · rw [f 1660 (by omega) (by omega), ← hs0]; simp (disch := omega) only [updne, upde]
    · rw [f 1760 (by omega) (by omega), ← hs0]; simp (disch := omega) only [updne, upde]
    · rw [f 1810 (by omega) (by omega), ← hs0]; simp (disch := omega) only [updne, upde]
    · rw [f 1860 (by omega) (by omega), ← hs0]; simp (disch := omega) only [updne, upde]
    · rw [updne (by omega), updne (by omega)]
      exact ha k hk
    · rw [updne h1, hb j h3, ← hs0]
      obtain ⟨k1, k2, k3, k4, k5, k6, k7, k8, k9, k10, k11, k12⟩ := h2
      simp only [updne k1, updne k2, updne k3, updne k4, updne k5, updne k8, updne k10, updne k11, updne k12]
  · simp (disch := omega) only [wb_X12_right_127, h2, nI_natle, show ¬ 50 ≤ k from by omega, nI_mul, nI_add, nI_clamp, vpin, not_true_eq_false, not_false_eq_true, forall_const, true_implies, false_implies, implies_true, and_true, true_and, and_false, false_and, or_true, true_or, or_false, false_or, forall_eq, ↓reduceIte, ne_eq, nI1ne, nI0eq, Classical.not_not, eq_self, reduceCtorEq]
    refine ih _ _ ⟨k + 1, by omega, rfl, fun q hq => ?_, fun j hj => ?_⟩ (by rw [nI_clamp (by omega), nI_clamp (by omega)]; omega)
    · by_cases g : q = k
      · subst g
        refine ⟨?_, upde⟩
        by_cases g : 1910 + 50 * r + q = 1910 + 50 * q + r
        · rw [g, upde]
        · rw [updne g, upde]
      · have := ha q (by omega)
        refine ⟨?_, ?_⟩
        · by_cases g1 : 1910 + 50 * r + q = 1910 + 50 * k + r
          · rw [g1, upde]
          · rw [updne g1, updne (by omega)]; exact this.1
        · by_cases g1 : 1910 + 50 * q + r = 1910 + 50 * k + r
          · rw [g1, upde]
          · rw [updne g1]
            by_cases g2 : 1910 + 50 * q + r = 1910 + 50 * r + k
            · rw [g2, upde]
            · rw [updne g2]; exact this.2
    · have := hj k (by omega)
      rw [updne this.2, updne this.1]
      exact hb j hj
theorem ICm_grant {today : Int32} {rights : Nat → Option Nat} {leans : Nat → Int64} {heardOn : Nat → Int32} {overruled : Int64} {R_L : List Nat} {R_kind R_number R_side R_n R_cell R_day R_ruling R_share : Nat → Int32} {X_L : List Nat} {X_kind X_number X_side X_n X_cell X_day X_ruling X_share : Nat → Int32} {s v : Nat → Int32} {r q kd : Nat} (h : ICm today rights (nI r) leans heardOn overruled R_L R_kind R_number R_side R_n R_cell R_day R_ruling R_share s) (hr : r < 50) (hp : poolR R_L R_kind R_number R_side R_n R_cell R_day R_ruling R_share X_L X_kind X_number X_side X_n X_cell X_day X_ruling X_share) (hq : q ∈ X_L) (hv : newR r s v) (hv2 : v 2 = nI (r + 1)) (hl : ∀ k, k < 50 → v (1910 + 50 * r + k) = nI 0 ∧ v (1910 + 50 * k + r) = nI 0) (k1 : 1 ≤ kd) (k2 : kd ≤ 7) (e1 : v (1310 + r) = nI kd) (e2 : X_kind q = nI kd) (e3 : X_number q = nI r) (e4 : X_side q = v (1360 + r)) (e5 : isN (v (1360 + r)) 2) (e6 : X_n q = v (1510 + r)) (e7 : v (1660 + r) = today) (e8 : isN today 999) (e9 : v (1860 + r) = nI 0)
    (e10 : kd = 6 → X_day q = v (1660 + r) ∧ (∃ p m, p < 30 ∧ m < 5 ∧ v (1410 + r) = nI p ∧ v (1460 + r) = nI m ∧ X_cell q = nI (p * 5 + m)) ∧ (v (1510 + r) = nI 10 ∧ v (1560 + r) = nI 1 ∨ v (1510 + r) = nI 20 ∧ v (1560 + r) = nI 0))
    (e11 : kd = 7 → (∃ z, z < r ∧ s (1310 + z) = nI 6 ∧ v (1610 + r) = nI z ∧ X_ruling q = nI z) ∧ X_share q = v (1710 + r) ∧ isN (v (1710 + r)) 100 ∧ v (1810 + r) = -5 ∧ v (1760 + r) = nI 0) : ICm today (va_up rights r (some q)) (nI (r + 1)) (vp_updL leans r 0) (upd heardOn r (-5)) overruled X_L X_kind X_number X_side X_n X_cell X_day X_ruling X_share v := by
  obtain ⟨h3, r', ki, hr', h4, h5, h6, h7, h8, h9⟩ := h
  have er : r' = r := ((nI_eq (by omega) (by omega)).mp h4).symm
  subst er
  obtain ⟨td, ht, htd⟩ := e8
  have keep : ∀ b i, i < r' → (b = 1310 ∨ b = 1360 ∨ b = 1410 ∨ b = 1460 ∨ b = 1510 ∨ b = 1560 ∨ b = 1610 ∨ b = 1660 ∨ b = 1710 ∨ b = 1760 ∨ b = 1810 ∨ b = 1860) → v (b + i) = s (b + i) := by
    intro b i hi hb
    refine hv _ (by omega) ?_ (fun q hq => by omega)
    rcases hb with rfl | rfl | rfl | rfl | rfl | rfl | rfl | rfl | rfl | rfl | rfl | rfl <;> omega
  refine ⟨fun i hi y hy => ?_, r' + 1, va_up ki r' kd, by omega, rfl, hv2, fun i hi => ?_, fun i hi k hk => ?_, fun i hi k hk => ?_, fun i hi => ?_⟩
  · by_cases g : i = r'
    · subst g
      rw [upee] at hy
      cases hy
      exact hq
    · rw [upene g] at hy
      exact (hp y (h3 i hi y hy)).1
  · by_cases g : i = r'
    · subst g
      refine ⟨q, upee, hq, by rw [upee]; exact k1, by rw [upee]; exact k2, by rw [upee]; exact e1, by rw [upee]; exact e2, e3, e4, e5, e6, ⟨td, td, by rw [e7]; exact htd, htd, Nat.le_refl _, ht⟩, fun j hj => ?_, by rw [e7]; exact ⟨td, ht, htd⟩, fun g => ?_, fun g => ?_⟩
      · obtain ⟨a, -, -, -, -, -, -, -, -, -, -, ⟨d, t, z1, z2, z3, z4⟩, -⟩ := h6 j hj
        rw [htd] at z2
        have := (nI_eq (by omega) (?_ : t < 2 ^ 31)).mp z2
        · exact ⟨d, td, by rw [keep 1660 j hj (by simp)]; exact z1, by rw [e7]; exact htd, by omega, ht⟩
        · omega
      · rw [upee] at g
        obtain ⟨a1, a2, a3⟩ := e10 g
        refine ⟨a1, a2, a3, ?_⟩
        rw [e9]
        have : bitL overruled i = false := by
          by_cases z : bitL overruled i = true
          · have := (h9 i z).1
            omega
          · exact Bool.eq_false_iff.mpr z
        simp only [this, not_true_eq_false, not_false_eq_true, forall_const, true_implies, false_implies, implies_true, and_true, true_and, and_false, false_and, or_true, true_or, or_false, false_or, forall_eq, ↓reduceIte, ne_eq, nI1ne, nI0eq, Classical.not_not, eq_self, reduceCtorEq, decide_true, decide_false, Bool.true_and, Bool.and_true, Bool.and_false, Bool.false_and, Bool.false_eq_true, Bool.true_or, Bool.or_true, Bool.or_false, Bool.false_or, Bool.not_true, Bool.not_false]
      · rw [upee] at g
        obtain ⟨⟨z, z1, z2, z3, z4⟩, a2, a3, a4, a5⟩ := e11 g
        have kz : ki z = 6 := by
          obtain ⟨a, -, -, w1, w2, w3, -⟩ := h6 z z1
          rw [z2] at w3
          exact ((nI_eq (by omega) (by omega)).mp w3).symm
        exact ⟨⟨z, z1, by rw [upene (by omega)]; exact kz, z3, z4⟩, a2, a3, by rw [upde]; exact a4.symm, Or.inl ⟨a5, a4, e9⟩⟩
    · have hi2 : i < r' := by omega
      obtain ⟨a, g1, g2, g3, g4, g5, g6, g7, g8, g9, g10, g11, g12, g13, g14, g15⟩ := h6 i hi2
      obtain ⟨q0, q1, q2, q3, q4, q5, q6, q7, q8⟩ := hp a g2
      rw [keep 1310 i hi2 (by simp), keep 1360 i hi2 (by simp), keep 1510 i hi2 (by simp), keep 1410 i hi2 (by simp), keep 1460 i hi2 (by simp), keep 1560 i hi2 (by simp), keep 1860 i hi2 (by simp), keep 1610 i hi2 (by simp), keep 1710 i hi2 (by simp), keep 1810 i hi2 (by simp), keep 1760 i hi2 (by simp), keep 1660 i hi2 (by simp), upene g, updne g, upene g]
      refine ⟨a, g1, q0, g3, g4, g5, by rw [q1]; exact g6, by rw [q2]; exact g7, by rw [q3]; exact g8, g9, by rw [q4]; exact g10, g11, fun j hj => ?_, g13, fun z => ?_, fun z => ?_⟩
      · rw [keep 1660 j (by omega) (by simp)]
        exact g12 j hj
      · rw [q6, q5]
        exact g14 z
      · rw [q7, q8]
        obtain ⟨⟨y, y1, y2, y3, y4⟩, w⟩ := g15 z
        exact ⟨⟨y, y1, by rw [upene (by omega)]; exact y2, y3, y4⟩, w⟩
  · by_cases g : i = r'
    · subst g
      rw [upLe, bit_0]
      exact (hl k hk).1
    · rw [upLne g]
      by_cases g2 : k = r'
      · subst g2
        have : bitL (leans i) k = false := by
          by_cases z : bitL (leans i) k = true
          · have := (h8 i (by omega) k z).1
            omega
          · exact Bool.eq_false_iff.mpr z
        rw [this]
        exact (hl i (by omega)).2
      · rw [hv _ (by omega) (by omega) (fun z hz => by omega)]
        exact h7 i (by omega) k hk
  · by_cases g : i = r'
    · subst g
      rw [upLe, bit_0] at hk
      cases hk
    · rw [upLne g] at hk
      obtain ⟨z1, z2, z3, z4⟩ := h8 i (by omega) k hk
      exact ⟨by omega, by rw [upene (by omega)]; exact z2, by rw [upene (by omega)]; exact z3, z4⟩
  · obtain ⟨z1, z2⟩ := h9 i hi
    exact ⟨by omega, by rw [upene (by omega)]; exact z2⟩
