theorem ruling_eq {today : Int32} {rights : Nat → Option Nat} {count : Int32} {leans : Nat → Int64} {heardOn : Nat → Int32} {overruled : Int64} {R_L : List Nat} {R_kind R_number R_side R_n R_cell R_day R_ruling R_share : Nat → Int32} {s : Nat → Int32} (h : ICm today rights count leans heardOn overruled R_L R_kind R_number R_side R_n R_cell R_day R_ruling R_share s) (p : Int32) : f_X2_isRuling rights count R_L R_kind p = f_X12_isOf s p (nI 6) ∧ ok_X2_isRuling rights count R_L R_kind p ∧ ok_X12_isOf s p (nI 6) ∧ (f_X12_isOf s p (nI 6) = nI 0 ∨ f_X12_isOf s p (nI 6) = nI 1 ∧ ∃ (r i : Nat), r ≤ 50 ∧ count = nI r ∧ i < r ∧ p = nI i ∧ s (1310 + i) = nI 6) := by
  obtain ⟨h3, r, ki, hr, rfl, h4, h5, -⟩ := h
  rcases find_cases rights r hr p with ⟨e1, e2, e3, -⟩ | ⟨i, hi, rfl, e1, e2, e3⟩
  · simp only [f_X2_isRuling, ok_X2_isRuling, f_X12_isOf, ok_X12_isOf, e1, e2, e3, h4, nI0eq, not_true_eq_false, not_false_eq_true, forall_const, true_implies, false_implies, implies_true, and_true, true_and, and_false, false_and, or_true, true_or, or_false, false_or, forall_eq, ↓reduceIte, ne_eq, nI1ne, nI0eq, Classical.not_not, eq_self, reduceCtorEq]
  · obtain ⟨a, g1, g2, g3, g4, g5, g6, -⟩ := h5 i hi
    have ne : ¬ rights i = none := by rw [g1]; exact fun z => by cases z
    have og : oget (rights i) = a := by rw [g1]; rfl
    simp (disch := omega) only [f_X2_isRuling, ok_X2_isRuling, f_X12_isOf, ok_X12_isOf, e1, e2, e3, h4, ne, og, g2, g5, g6, nI_add, nI_clamp, vpin, not_true_eq_false, not_false_eq_true, forall_const, true_implies, false_implies, implies_true, and_true, true_and, and_false, false_and, or_true, true_or, or_false, false_or, forall_eq, ↓reduceIte, ne_eq, nI1ne, nI0eq, Classical.not_not, eq_self, reduceCtorEq]
    by_cases w : nI (ki i) = nI 6
    · simp only [w, not_true_eq_false, not_false_eq_true, forall_const, true_implies, false_implies, implies_true, and_true, true_and, and_false, false_and, or_true, true_or, or_false, false_or, forall_eq, ↓reduceIte, ne_eq, nI1ne, nI0eq, Classical.not_not, eq_self, reduceCtorEq]
      exact Or.inr ⟨r, i, hr, rfl, hi, rfl, by rw [g5]; exact w⟩
    · simp only [w, not_true_eq_false, not_false_eq_true, forall_const, true_implies, false_implies, implies_true, and_true, true_and, and_false, false_and, or_true, true_or, or_false, false_or, forall_eq, ↓reduceIte, ne_eq, nI1ne, nI0eq, Classical.not_not, eq_self, reduceCtorEq]
theorem ICm_lean {today : Int32} {rights : Nat → Option Nat} {count : Int32} {leans : Nat → Int64} {heardOn : Nat → Int32} {overruled : Int64} {R_L : List Nat} {R_kind R_number R_side R_n R_cell R_day R_ruling R_share : Nat → Int32} {s : Nat → Int32} {i k r : Nat} (h : ICm today rights count leans heardOn overruled R_L R_kind R_number R_side R_n R_cell R_day R_ruling R_share s) (hr : r ≤ 50) (hc : count = nI r) (hi : i < r) (hk : k < r) (ne : i ≠ k) (hi6 : s (1310 + i) = nI 6) (hk6 : s (1310 + k) = nI 6) : ICm today rights count (vp_updL leans i (leans i ||| ((1 : Int64) <<< ((nI k).toInt64 &&& 63)))) heardOn overruled R_L R_kind R_number R_side R_n R_cell R_day R_ruling R_share (upd s (1910 + 50 * i + k) (nI 1)) ∧ ∀ j, j < 50 → upd s (1910 + 50 * i + k) (nI 1) (1910 + 50 * i + j) = nI (if bitL (leans i ||| ((1 : Int64) <<< ((nI k).toInt64 &&& 63))) j then 1 else 0) := by
  obtain ⟨h3, r', ki, hr', h4, h5, h6, h7, h8, h9⟩ := h
  have er : r' = r := by rw [hc] at h4; exact ((nI_eq (by omega) (by omega)).mp h4).symm
  subst er
  have six : ∀ j, j < r' → s (1310 + j) = nI 6 → ki j = 6 := by
    intro j hj w
    obtain ⟨a, -, -, -, w2, w3, -⟩ := h6 j hj
    rw [w3] at w
    exact (nI_eq (by omega) (by omega)).mp w
  have bits : ∀ j, j < 50 → bitL (leans i ||| ((1 : Int64) <<< ((nI k).toInt64 &&& 63))) j = (bitL (leans i) j || decide (j = k)) := by
    intro j hj
    rw [bit_or, bit_one k j (by omega) (by omega)]
  have bits2 : ∀ j, bitL (leans i ||| ((1 : Int64) <<< ((nI k).toInt64 &&& 63))) j = true → bitL (leans i) j = true ∨ j = k := by
    intro j hj
    rcases Nat.lt_or_ge j 64 with q | q
    · rw [bit_or, bit_one k j (by omega) q] at hj
      simpa using hj
    · rw [bit_hi _ _ q] at hj; cases hj
  have row : ∀ j, j < 50 → upd s (1910 + 50 * i + k) (nI 1) (1910 + 50 * i + j) = nI (if bitL (leans i ||| ((1 : Int64) <<< ((nI k).toInt64 &&& 63))) j then 1 else 0) := by
    intro j hj
    rw [bits j hj]
    by_cases g : j = k
    · subst g
      rw [upde]
      simp
    · rw [updne (by omega), h7 i hi j hj]
      simp [g]
  refine ⟨⟨h3, r', ki, hr', h4, by rw [updne (by omega)]; exact h5, ?_, fun a ha b hb => ?_, fun a ha b hb => ?_, h9⟩, row⟩
  · intro a ha
    have := h6 a ha
    simp (disch := omega) only [updne]
    obtain ⟨x, w1, w2, w3, w4, w5, w6, w7, w8, w9, w10, w11, w12, w13⟩ := this
    refine ⟨x, w1, w2, w3, w4, w5, w6, w7, w8, w9, w10, w11, fun j hj => ?_, w13⟩
    rw [updne (by omega)]
    exact w12 j hj
  · by_cases g : a = i
    · subst g
      rw [upLe]
      exact row b hb
    · rw [upLne g, updne (by omega)]
      exact h7 a ha b hb
  · by_cases g : a = i
    · subst g
      rw [upLe] at hb
      rcases bits2 b hb with w | rfl
      · exact h8 a ha b w
      · exact ⟨hk, six b hk hk6, six a hi hi6, fun e => ne e.symm⟩
    · rw [upLne g] at hb
      exact h8 a ha b hb
theorem popS_top {b : Nat → Nat} {m : Nat} : ∀ n, m ≤ n → (∀ i, m ≤ i → b i = 0) → popS b n = popS b m := by
  intro n
  induction n with
  | zero => intro h _; rw [show m = 0 from by omega]
  | succ n ih =>
    intro h hz
    by_cases g : m = n + 1
    · rw [g]
    · show popS b n + b n = _
      rw [ih (by omega) hz, hz n (by omega), Nat.add_zero]
theorem core_lean {today : Int32} {rights : Nat → Option Nat} {count : Int32} {leans : Nat → Int64} {heardOn : Nat → Int32} {overruled : Int64} {termDays step : Int32} {R_L : List Nat} {R_kind R_number R_side R_n R_cell R_day R_ruling R_share : Nat → Int32} {s : Nat → Int32} {p1 p2 : Int32} {R : (Nat → Int64) → (Nat → Int32) → Prop} (h : ICourt today rights count leans heardOn overruled termDays step R_L R_kind R_number R_side R_n R_cell R_day R_ruling R_share s) (hR : ∀ l v, ICourt today rights count l heardOn overruled termDays step R_L R_kind R_number R_side R_n R_cell R_day R_ruling R_share v → outS idxC s v → R l v) : wp_X11_lean p1 p2 rights count leans R_L R_kind (fun r l => wp_X12_lean p1 p2 s (fun r' v => r = r' ∧ R l v)) := by
  have h0 := hR leans s h (fun _ _ => rfl)
  obtain ⟨a1, a2, a3, a4⟩ := ruling_eq h.2.2 p1
  obtain ⟨b1, b2, b3, b4⟩ := ruling_eq h.2.2 p2
  unfold wp_X11_lean wp_X12_lean
  rw [a1, b1]
  simp only [a2, a3, b2, b3, not_true_eq_false, not_false_eq_true, forall_const, true_implies, false_implies, implies_true, and_true, true_and, and_false, false_and, or_true, true_or, or_false, false_or, forall_eq, ↓reduceIte, ne_eq, nI1ne, nI0eq, Classical.not_not, eq_self, reduceCtorEq]
  rcases a4 with e | ⟨e, r, i, hr, hc, hi, rfl, hi6⟩
  · simp only [e, nI0eq, not_true_eq_false, not_false_eq_true, forall_const, true_implies, false_implies, implies_true, and_true, true_and, and_false, false_and, or_true, true_or, or_false, false_or, forall_eq, ↓reduceIte, ne_eq, nI1ne, nI0eq, Classical.not_not, eq_self, reduceCtorEq]
    exact h0
  rcases b4 with f | ⟨f, r2, k, hr2, hc2, hk, rfl, hk6⟩
  · simp only [e, f, nI0eq, nI1ne, not_true_eq_false, not_false_eq_true, forall_const, true_implies, false_implies, implies_true, and_true, true_and, and_false, false_and, or_true, true_or, or_false, false_or, forall_eq, ↓reduceIte, ne_eq, nI1ne, nI0eq, Classical.not_not, eq_self, reduceCtorEq]
    exact h0
  have er : r2 = r := by rw [hc] at hc2; exact ((nI_eq (by omega) (by omega)).mp hc2).symm
  subst er
  by_cases ne : i = k
  · subst ne
    simp only [e, nI1ne, not_true_eq_false, not_false_eq_true, forall_const, true_implies, false_implies, implies_true, and_true, true_and, and_false, false_and, or_true, true_or, or_false, false_or, forall_eq, ↓reduceIte, ne_eq, nI1ne, nI0eq, Classical.not_not, eq_self, reduceCtorEq]
    exact h0
  · have hrow : s (1910 + 50 * i + k) = nI (if bitL (leans i) k then 1 else 0) := by
      obtain ⟨-, r', -, hr', h4, -, -, h7, -⟩ := h.2.2
      have z1 : r' = r2 := by rw [hc] at h4; exact ((nI_eq (by omega) (by omega)).mp h4).symm
      exact h7 i (by omega) k (by omega)
    simp (disch := omega) only [e, f, nI1ne, nI_nateq, ne, ok_X12_leans, f_X12_leans, nI_mul, nI_add, nI_clamp, vpin, hrow, hasBit, not_true_eq_false, not_false_eq_true, forall_const, true_implies, false_implies, implies_true, and_true, true_and, and_false, false_and, or_true, true_or, or_false, false_or, forall_eq, ↓reduceIte, ne_eq, nI1ne, nI0eq, Classical.not_not, eq_self, reduceCtorEq]
    by_cases w : bitL (leans i) k = true
    · simp only [w, nB_t, nI1ne, not_true_eq_false, not_false_eq_true, forall_const, true_implies, false_implies, implies_true, and_true, true_and, and_false, false_and, or_true, true_or, or_false, false_or, forall_eq, ↓reduceIte, ne_eq, nI1ne, nI0eq, Classical.not_not, eq_self, reduceCtorEq]
      exact h0
    · have w2 : bitL (leans i) k = false := Bool.eq_false_iff.mpr w
      simp (disch := omega) only [w2, nB0, nI_nateq, Bool.false_eq_true, Nat.reduceEqDiff, nI0eq, not_true_eq_false, not_false_eq_true, forall_const, true_implies, false_implies, implies_true, and_true, true_and, and_false, false_and, or_true, true_or, or_false, false_or, forall_eq, ↓reduceIte, ne_eq, nI1ne, nI0eq, Classical.not_not, eq_self, reduceCtorEq]
      obtain ⟨hm, row⟩ := ICm_lean h.2.2 hr hc hi hk ne hi6 hk6
      have hz : ∀ j, 50 ≤ j → (if bitL (leans i ||| ((1 : Int64) <<< ((nI k).toInt64 &&& 63))) j then 1 else 0) = 0 := by
        intro j hj
        obtain ⟨-, r', -, hr', -, -, -, -, h8, -⟩ := hm
        by_cases g : bitL (leans i ||| ((1 : Int64) <<< ((nI k).toInt64 &&& 63))) j = true
        · obtain ⟨-, q', kz, hq', h4', -, -, -, g8, -⟩ := h.2.2
          have z1 : q' = r2 := by rw [hc] at h4'; exact ((nI_eq (by omega) (by omega)).mp h4').symm
          rcases Nat.lt_or_ge j 64 with q | q
          · rw [bit_or, bit_one k j (by omega) q] at g
            have g2 : bitL (leans i) j = true ∨ j = k := by simpa using g
            rcases g2 with g2 | g2
            · have := (g8 i (by omega) j g2).1
              omega
            · omega
          · rw [bit_hi _ _ q] at g; cases g
        · rw [if_neg g]
      rw [upLe, bc64]
      generalize hX : (leans i ||| ((1 : Int64) <<< ((nI k).toInt64 &&& 63))) = X at hm row hz ⊢
      have fin := hR _ _ ⟨by rw [updne (by omega)]; exact h.1, by rw [updne (by omega)]; exact h.2.1, hm⟩ (fun j hj => updne (by unfold idxC at hj; omega))
      rw [popS_top 64 (by omega) hz]
      refine run2 (F := wl_X12_lean_63 (nI i) (nI k) s _) 50 (fun j => nI (popS (fun b => if bitL X b then 1 else 0) j)) (fun j => nI j) ?_ ?_
      · intro m hm0 n ih
        rw [wl_X12_lean_63]
        simp (disch := omega) only [wb_X12_lean_63, ok_X12_leans, f_X12_leans, nI_natle, show ¬ 50 ≤ m from by omega, nI_mul, nI_add, nI_clamp, vpin, row m hm0, not_true_eq_false, not_false_eq_true, forall_const, true_implies, false_implies, implies_true, and_true, true_and, and_false, false_and, or_true, true_or, or_false, false_or, forall_eq, ↓reduceIte, ne_eq, nI1ne, nI0eq, Classical.not_not, eq_self, reduceCtorEq]
        have : popS (fun b => if bitL X b then 1 else 0) (m + 1) = popS (fun b => if bitL X b then 1 else 0) m + if bitL X m then 1 else 0 := rfl
        rw [this] at ih
        revert ih
        cases bitL X m <;> intro ih
        · simp (disch := omega) only [nI_nateq, Bool.false_eq_true, Nat.reduceEqDiff, nI0eq, nI_add, not_true_eq_false, not_false_eq_true, forall_const, true_implies, false_implies, implies_true, and_true, true_and, and_false, false_and, or_true, true_or, or_false, false_or, forall_eq, ↓reduceIte, ne_eq, nI1ne, nI0eq, Classical.not_not, eq_self, reduceCtorEq]
          exact ih
        · simp (disch := omega) only [nI1ne, nI_add, not_true_eq_false, not_false_eq_true, forall_const, true_implies, false_implies, implies_true, and_true, true_and, and_false, false_and, or_true, true_or, or_false, false_or, forall_eq, ↓reduceIte, ne_eq, nI1ne, nI0eq, Classical.not_not, eq_self, reduceCtorEq]
          exact ih
      · intro n
        rw [wl_X12_lean_63]
        simp (disch := omega) only [wb_X12_lean_63, nI_natle, Nat.le_refl, nI_mul, nI_add, nI_clamp, not_true_eq_false, not_false_eq_true, forall_const, true_implies, false_implies, implies_true, and_true, true_and, and_false, false_and, or_true, true_or, or_false, false_or, forall_eq, ↓reduceIte, ne_eq, nI1ne, nI0eq, Classical.not_not, eq_self, reduceCtorEq]
        exact fin
