theorem core_count {gr : Nat → Int32} {tape : Nat → Int32} {bytes : Int32} {texts : Nat → Option Nat} {tc : Int32} {T_L : List Nat} {T_number T_tongue T_day : Nat → Int32} {T_code : Nat → Option Nat} {C_L : List Nat} {C_len : Nat → Nat} {C_row : Nat → Nat → Int32} {today : Int32} {rights : Nat → Option Nat} {count : Int32} {leans : Nat → Int64} {heardOn : Nat → Int32} {overruled : Int64} {termDays step : Int32} {R_L : List Nat} {R_kind R_number R_side R_n R_cell R_day R_ruling R_share : Nat → Int32} {goods ab pl : Nat → Int32} {sc : Int32} {bond sold passed tar parts pur : Nat → Int32} {chest : Int32} {fs ow : Nat → Int32} {fc : Int32} {uf ut : Nat → Int32} {uc : Int32} {quo : Nat → Int32} {ds fh lh : Nat → Int32} {dc : Int32} {si : Nat → Int32} {vo sd ss sn : Nat → Int32} {yc : Int32} {cells : Nat → Int32} {fl fn : Nat → Int64} {qc : Int32} {wa : Nat → Int32} {wc : Int32} {s : Nat → Int32} {p1 : Int32} {R : Prop} (hL : ILand gr today tape bytes texts tc T_L T_number T_tongue T_day T_code C_L C_len C_row s) (hC : ICourt today rights count leans heardOn overruled termDays step R_L R_kind R_number R_side R_n R_cell R_day R_ruling R_share s) (hP : IPort goods ab pl sc bond sold passed tar parts pur chest fs ow fc uf ut uc quo s) (hN : INight ds fh lh dc si s) (hH : IHall vo sd ss sn yc s) (hB : IBench cells fl fn qc wa wc s) (hR : R) : wp_X11_count p1 today bytes tc count sc chest fc dc yc qc wc (fun r => wp_X12_count p1 s (fun r' => r = r' ∧ R)) := by
  obtain ⟨-, ⟨a1, -⟩, ⟨a2, -⟩, -, -, -, t, -, a3, a4, -⟩ := hL
  obtain ⟨-, -, -, r, -, -, a5, a6, -⟩ := hC
  obtain ⟨⟨c, -, -, ch, -, a7, a8, -, -, -, -, a9, a10, -⟩, -, -, f, u, -, a11, a12, -⟩ := hP
  obtain ⟨⟨d, -, a13, a14, -⟩, -⟩ := hN
  obtain ⟨-, y, -, a15, a16, -⟩ := hH
  obtain ⟨⟨q, -, a17, a18, -⟩, w, -, a19, a20, -⟩ := hB
  unfold wp_X11_count wp_X12_count
  rw [a1, a2, a3, a4, a5, a6, a7, a8, a9, a10, a11, a12, a13, a14, a15, a16, a17, a18, a19, a20]
  rcases in_cases p1 0 10 (by decide) (by decide) with ⟨-, f2⟩ | ⟨-, x, -, hx, rfl⟩
  · have n : ∀ k, k ≤ 10 → ¬ p1 = nI k := fun k hk => f2 k (by omega) hk
    simp only [n 0 (by omega), n 1 (by omega), n 2 (by omega), n 3 (by omega), n 4 (by omega), n 5 (by omega), n 6 (by omega), n 7 (by omega), n 8 (by omega), n 9 (by omega), n 10 (by omega), not_true_eq_false, not_false_eq_true, forall_const, true_implies, false_implies, implies_true, and_true, true_and, and_false, false_and, or_true, true_or, or_false, false_or, forall_eq, ↓reduceIte, ne_eq, nI1ne, nI0eq, Classical.not_not, eq_self, reduceCtorEq]
    exact hR
  · have : x = 0 ∨ x = 1 ∨ x = 2 ∨ x = 3 ∨ x = 4 ∨ x = 5 ∨ x = 6 ∨ x = 7 ∨ x = 8 ∨ x = 9 ∨ x = 10 := by omega
    rcases this with rfl | rfl | rfl | rfl | rfl | rfl | rfl | rfl | rfl | rfl | rfl <;>
      simp (disch := omega) only [nI_nateq, Nat.reduceEqDiff, not_true_eq_false, not_false_eq_true, forall_const, true_implies, false_implies, implies_true, and_true, true_and, and_false, false_and, or_true, true_or, or_false, false_or, forall_eq, ↓reduceIte, ne_eq, nI1ne, nI0eq, Classical.not_not, eq_self, reduceCtorEq] <;>
      exact hR
theorem grantC {rights : Nat → Option Nat} {r q : Nat} {leans : Nat → Int64} {heardOn : Nat → Int32} {L : List Nat} {Q : Int32 → (Nat → Option Nat) → (Int32) → (Nat → Int64) → (Nat → Int32) → Prop} (hr : r < 50) (hq : q ∈ L) (hQ : Q (nI r) (va_up rights r (some q)) (nI (r + 1)) (vp_updL leans r 0) (upd heardOn r (-5))) : wp_X2_grant q rights (nI r) leans heardOn L Q := by
  simp (disch := omega) only [wp_X2_grant, nI_natlt, hr, vpin, nI_clamp, nI_add, nI_subL, hq, not_true_eq_false, not_false_eq_true, forall_const, true_implies, false_implies, implies_true, and_true, true_and, and_false, false_and, or_true, true_or, or_false, false_or, forall_eq, ↓reduceIte, ne_eq, nI1ne, nI0eq, Classical.not_not, eq_self, reduceCtorEq]
  rw [Nat.add_sub_cancel]
  exact hQ
theorem newR_out {r : Nat} {s v : Nat → Int32} (hr : r < 50) (hv : newR r s v) : outS idxC s v := by
  intro j hj
  unfold idxC at hj
  exact hv j (by omega) (by omega) (fun q hq => by omega)
theorem newR_up {r : Nat} {s v : Nat → Int32} {x : Int32} {b : Nat} (hb : b = 1560 ∨ b = 1610 ∨ b = 1710) (hr : r < 50) (hv : newR r s v) : newR r s (upd v (b + r) x) := by
  intro j h1 h2 h3
  rw [updne (by rcases hb with rfl | rfl | rfl <;> omega)]
  exact hv j h1 h2 h3
theorem ICourt_of {today : Int32} {rights : Nat → Option Nat} {count : Int32} {leans : Nat → Int64} {heardOn : Nat → Int32} {overruled : Int64} {termDays step : Int32} {R_L : List Nat} {R_kind R_number R_side R_n R_cell R_day R_ruling R_share : Nat → Int32} {rights' : Nat → Option Nat} {count' : Int32} {leans' : Nat → Int64} {heardOn' : Nat → Int32} {X_L : List Nat} {X_kind X_number X_side X_n X_cell X_day X_ruling X_share : Nat → Int32} {s v : Nat → Int32} {r : Nat} (h : ICourt today rights count leans heardOn overruled termDays step R_L R_kind R_number R_side R_n R_cell R_day R_ruling R_share s) (hr : r < 50) (hv : newR r s v) (hm : ICm today rights' count' leans' heardOn' overruled X_L X_kind X_number X_side X_n X_cell X_day X_ruling X_share v) : ICourt today rights' count' leans' heardOn' overruled termDays step X_L X_kind X_number X_side X_n X_cell X_day X_ruling X_share v := by
  have e12 : v 12 = s 12 := hv 12 (by omega) (by omega) (fun q hq => by omega)
  have e13 : v 13 = s 13 := hv 13 (by omega) (by omega) (fun q hq => by omega)
  exact ⟨by rw [e12]; exact h.1, by rw [e13]; exact h.2.1, hm⟩
theorem fresh_ne {L : List Nat} {q a : Nat} (hq : q ∉ L) (ha : a ∈ L) : a ≠ q := fun e => hq (e ▸ ha)
theorem poolR_up {R_L : List Nat} {R_kind R_number R_side R_n R_cell R_day R_ruling R_share : Nat → Int32} {q : Nat} {x1 x2 x3 x4 x5 x6 x7 x8 : Int32} (hq : q ∉ R_L) : poolR R_L R_kind R_number R_side R_n R_cell R_day R_ruling R_share (R_L ++ [q]) (va_up R_kind q x1) (va_up R_number q x2) (va_up R_side q x3) (va_up R_n q x4) (va_up R_cell q x5) (va_up R_day q x6) (va_up R_ruling q x7) (va_up R_share q x8) := by
  intro a ha
  have h := fresh_ne hq ha
  exact ⟨List.mem_append.mpr (Or.inl ha), upene h, upene h, upene h, upene h, upene h, upene h, upene h, upene h⟩
theorem upup {f : Nat → Int32} {q : Nat} {x y : Int32} : va_up (va_up f q x) q y = va_up f q y := by
  funext j
  simp only [va_up]
  split <;> rfl
theorem memq {L : List Nat} {q : Nat} : q ∈ L ++ [q] := List.mem_append.mpr (Or.inr (List.mem_singleton.mpr rfl))
theorem core_use {today : Int32} {rights : Nat → Option Nat} {count : Int32} {leans : Nat → Int64} {heardOn : Nat → Int32} {overruled : Int64} {termDays step : Int32} {R_L : List Nat} {R_kind R_number R_side R_n R_cell R_day R_ruling R_share : Nat → Int32} {s : Nat → Int32} {p1 p2 p3 p4 : Int32} {R : (Nat → Option Nat) → Int32 → (Nat → Int64) → (Nat → Int32) → List Nat → (Nat → Int32) → (Nat → Int32) → (Nat → Int32) → (Nat → Int32) → (Nat → Int32) → (Nat → Int32) → (Nat → Int32) → (Nat → Int32) → (Nat → Int32) → Prop} (h : ICourt today rights count leans heardOn overruled termDays step R_L R_kind R_number R_side R_n R_cell R_day R_ruling R_share s) (ht : today = s 0 ∧ isN (s 0) 999) (hR : ∀ rights' count' leans' heardOn' X_L X_kind X_number X_side X_n X_cell X_day X_ruling X_share v, ICourt today rights' count' leans' heardOn' overruled termDays step X_L X_kind X_number X_side X_n X_cell X_day X_ruling X_share v → outS idxC s v → poolR R_L R_kind R_number R_side R_n R_cell R_day R_ruling R_share X_L X_kind X_number X_side X_n X_cell X_day X_ruling X_share → R rights' count' leans' heardOn' X_L X_kind X_number X_side X_n X_cell X_day X_ruling X_share v) : wp_X11_use p1 p2 p3 p4 rights count leans heardOn R_L R_kind R_number R_side R_n R_cell R_day R_ruling R_share (fun r a b c d L e1 e2 e3 e4 e5 e6 e7 e8 => wp_X12_use p1 p2 p3 p4 s (fun r' v => r = r' ∧ R a b c d L e1 e2 e3 e4 e5 e6 e7 e8 v)) := by
  have h0 := hR rights count leans heardOn R_L R_kind R_number R_side R_n R_cell R_day R_ruling R_share s h (fun _ _ => rfl) poolR_rfl
  obtain ⟨m1, r, ki, hr, rfl, m2, -⟩ := id h.2.2
  rcases in_cases p1 1 3 (by decide) (by decide) with ⟨g1, -⟩ | ⟨g1, x1, hx1, hx1', rfl⟩
  · simp only [wp_X11_use, wp_X12_use, f_X11_isSide, f_X11_isSpot, f_X11_isMatter, f_X12_isSpot, within_eq, g1, not_true_eq_false, not_false_eq_true, forall_const, true_implies, false_implies, implies_true, and_true, true_and, and_false, false_and, or_true, true_or, or_false, false_or, forall_eq, ↓reduceIte, ne_eq, nI1ne, nI0eq, Classical.not_not, eq_self, reduceCtorEq]
    exact h0
  rcases in_cases p2 0 2 (by decide) (by decide) with ⟨g2, -⟩ | ⟨g2, x2, -, hx2, rfl⟩
  · simp only [wp_X11_use, wp_X12_use, f_X11_isSide, f_X11_isSpot, f_X11_isMatter, f_X12_isSpot, within_eq, g1, g2, not_true_eq_false, not_false_eq_true, forall_const, true_implies, false_implies, implies_true, and_true, true_and, and_false, false_and, or_true, true_or, or_false, false_or, forall_eq, ↓reduceIte, ne_eq, nI1ne, nI0eq, Classical.not_not, eq_self, reduceCtorEq]
    exact h0
  rcases in_cases p3 0 29 (by decide) (by decide) with ⟨g3, -⟩ | ⟨g3, x3, -, hx3, rfl⟩
  · simp only [wp_X11_use, wp_X12_use, f_X11_isSide, f_X11_isSpot, f_X11_isMatter, f_X12_isSpot, within_eq, g1, g2, g3, not_true_eq_false, not_false_eq_true, forall_const, true_implies, false_implies, implies_true, and_true, true_and, and_false, false_and, or_true, true_or, or_false, false_or, forall_eq, ↓reduceIte, ne_eq, nI1ne, nI0eq, Classical.not_not, eq_self, reduceCtorEq]
    exact h0
  rcases in_cases p4 0 4 (by decide) (by decide) with ⟨g4, -⟩ | ⟨g4, x4, -, hx4, rfl⟩
  · simp only [wp_X11_use, wp_X12_use, f_X11_isSide, f_X11_isSpot, f_X11_isMatter, f_X12_isSpot, within_eq, g1, g2, g3, g4, not_true_eq_false, not_false_eq_true, forall_const, true_implies, false_implies, implies_true, and_true, true_and, and_false, false_and, or_true, true_or, or_false, false_or, forall_eq, ↓reduceIte, ne_eq, nI1ne, nI0eq, Classical.not_not, eq_self, reduceCtorEq]
    exact h0
  by_cases q : r = 50
  · subst q
    simp (disch := omega) only [wp_X11_use, wp_X12_use, f_X11_isSide, f_X11_isSpot, f_X11_isMatter, f_X12_isSpot, within_eq, g1, g2, g3, g4, f_X2_isFull, nI_natlt, Nat.lt_irrefl, m2, not_true_eq_false, not_false_eq_true, forall_const, true_implies, false_implies, implies_true, and_true, true_and, and_false, false_and, or_true, true_or, or_false, false_or, forall_eq, ↓reduceIte, ne_eq, nI1ne, nI0eq, Classical.not_not, eq_self, reduceCtorEq]
    exact h0
  · have hr2 : r < 50 := by omega
    simp (disch := omega) only [wp_X11_use, wp_X12_use, f_X11_isSide, f_X11_isSpot, f_X11_isMatter, f_X12_isSpot, within_eq, g1, g2, g3, g4, f_X2_isFull, nI_natlt, nI_nateq, q, hr2, m2, wp_X9_init, memq, upup, nI_add, not_true_eq_false, not_false_eq_true, forall_const, true_implies, false_implies, implies_true, and_true, true_and, and_false, false_and, or_true, true_or, or_false, false_or, forall_eq, ↓reduceIte, ne_eq, nI1ne, nI0eq, Classical.not_not, eq_self, reduceCtorEq]
    intro a ha
    refine grantC hr2 memq (rightM hr2 m2 (fun v w2 w3 w4 w5 w6 w7 w8 w9 w10 w11 w12 hv => ⟨rfl, ?_⟩))
    refine hR _ _ _ _ _ _ _ _ _ _ _ _ _ _ (ICourt_of h hr2 hv (ICm_grant (kd := x1) h.2.2 hr2 (poolR_up ha) memq hv w2 w12 hx1 (by omega) w3 upee upee (by rw [upee, w4]) (by rw [w4]; exact ⟨x2, hx2, rfl⟩) (by rw [upee, w7]) (by rw [w8, ht.1]) (by rw [ht.1]; exact ht.2) w11 (fun e => by omega) (fun e => by omega))) (newR_out hr2 hv) (poolR_up ha)
theorem core_rule {today : Int32} {rights : Nat → Option Nat} {count : Int32} {leans : Nat → Int64} {heardOn : Nat → Int32} {overruled : Int64} {termDays step : Int32} {R_L : List Nat} {R_kind R_number R_side R_n R_cell R_day R_ruling R_share : Nat → Int32} {s : Nat → Int32} {p1 p2 p3 : Int32} {R : (Nat → Option Nat) → Int32 → (Nat → Int64) → (Nat → Int32) → List Nat → (Nat → Int32) → (Nat → Int32) → (Nat → Int32) → (Nat → Int32) → (Nat → Int32) → (Nat → Int32) → (Nat → Int32) → (Nat → Int32) → (Nat → Int32) → Prop} (hz : p3 = nI 0 ∨ p3 = nI 1) (h : ICourt today rights count leans heardOn overruled termDays step R_L R_kind R_number R_side R_n R_cell R_day R_ruling R_share s) (ht : today = s 0 ∧ isN (s 0) 999) (hR : ∀ rights' count' leans' heardOn' X_L X_kind X_number X_side X_n X_cell X_day X_ruling X_share v, ICourt today rights' count' leans' heardOn' overruled termDays step X_L X_kind X_number X_side X_n X_cell X_day X_ruling X_share v → outS idxC s v → poolR R_L R_kind R_number R_side R_n R_cell R_day R_ruling R_share X_L X_kind X_number X_side X_n X_cell X_day X_ruling X_share → R rights' count' leans' heardOn' X_L X_kind X_number X_side X_n X_cell X_day X_ruling X_share v) : wp_X11_rule p1 p2 p3 today rights count leans heardOn R_L R_kind R_number R_side R_n R_cell R_day R_ruling R_share (fun r a b c d L e1 e2 e3 e4 e5 e6 e7 e8 => wp_X12_rule p1 p2 p3 s (fun r' v => r = r' ∧ R a b c d L e1 e2 e3 e4 e5 e6 e7 e8 v)) := by
  have h0 := hR rights count leans heardOn R_L R_kind R_number R_side R_n R_cell R_day R_ruling R_share s h (fun _ _ => rfl) poolR_rfl
  obtain ⟨m1, r, ki, hr, rfl, m2, -⟩ := id h.2.2
  rcases in_cases p1 0 29 (by decide) (by decide) with ⟨g1, -⟩ | ⟨g1, x1, -, hx1, rfl⟩
  · simp only [wp_X11_rule, wp_X12_rule, f_X11_isSpot, f_X11_isMatter, f_X12_isSpot, within_eq, g1, not_true_eq_false, not_false_eq_true, forall_const, true_implies, false_implies, implies_true, and_true, true_and, and_false, false_and, or_true, true_or, or_false, false_or, forall_eq, ↓reduceIte, ne_eq, nI1ne, nI0eq, Classical.not_not, eq_self, reduceCtorEq]
    exact h0
  rcases in_cases p2 0 4 (by decide) (by decide) with ⟨g2, -⟩ | ⟨g2, x2, -, hx2, rfl⟩
  · simp only [wp_X11_rule, wp_X12_rule, f_X11_isSpot, f_X11_isMatter, f_X12_isSpot, within_eq, g1, g2, not_true_eq_false, not_false_eq_true, forall_const, true_implies, false_implies, implies_true, and_true, true_and, and_false, false_and, or_true, true_or, or_false, false_or, forall_eq, ↓reduceIte, ne_eq, nI1ne, nI0eq, Classical.not_not, eq_self, reduceCtorEq]
    exact h0
  by_cases q : r = 50
  · subst q
    simp (disch := omega) only [wp_X11_rule, wp_X12_rule, f_X11_isSpot, f_X11_isMatter, f_X12_isSpot, within_eq, g1, g2, f_X2_isFull, nI_natlt, Nat.lt_irrefl, m2, not_true_eq_false, not_false_eq_true, forall_const, true_implies, false_implies, implies_true, and_true, true_and, and_false, false_and, or_true, true_or, or_false, false_or, forall_eq, ↓reduceIte, ne_eq, nI1ne, nI0eq, Classical.not_not, eq_self, reduceCtorEq]
    exact h0
  · have hr2 : r < 50 := by omega
    have hy : (if p3 = 0 then nI 20 else nI 10) = nI 20 ∧ (if p3 = 0 then nI 0 else nI 1) = nI 0 ∨ (if p3 = 0 then nI 20 else nI 10) = nI 10 ∧ (if p3 = 0 then nI 0 else nI 1) = nI 1 := by
      rcases hz with rfl | rfl
      · left; simp only [nI0eq, not_true_eq_false, not_false_eq_true, forall_const, true_implies, false_implies, implies_true, and_true, true_and, and_false, false_and, or_true, true_or, or_false, false_or, forall_eq, ↓reduceIte, ne_eq, nI1ne, nI0eq, Classical.not_not, eq_self, reduceCtorEq]
      · right; simp only [nI1ne, not_true_eq_false, not_false_eq_true, forall_const, true_implies, false_implies, implies_true, and_true, true_and, and_false, false_and, or_true, true_or, or_false, false_or, forall_eq, ↓reduceIte, ne_eq, nI1ne, nI0eq, Classical.not_not, eq_self, reduceCtorEq]
    simp (disch := omega) only [wp_X11_rule, wp_X12_rule, f_X11_isSpot, f_X11_isMatter, f_X12_isSpot, within_eq, g1, g2, f_X2_isFull, nI_natlt, nI_nateq, q, hr2, m2, wp_X9_init, memq, upup, f_X11_cellOf, nI_mul, nI_add, not_true_eq_false, not_false_eq_true, forall_const, true_implies, false_implies, implies_true, and_true, true_and, and_false, false_and, or_true, true_or, or_false, false_or, forall_eq, ↓reduceIte, ne_eq, nI1ne, nI0eq, Classical.not_not, eq_self, reduceCtorEq]
    intro a ha
    refine grantC hr2 memq ?_
    generalize (if p3 = 0 then nI 20 else nI 10) = y1 at hy ⊢
    generalize (if p3 = 0 then nI 0 else nI 1) = y2 at hy ⊢
    refine rightM hr2 m2 (fun v w2 w3 w4 w5 w6 w7 w8 w9 w10 w11 w12 hv => ?_)
    simp (disch := omega) only [nI_add, nI_clamp, vpin, not_true_eq_false, not_false_eq_true, forall_const, true_implies, false_implies, implies_true, and_true, true_and, and_false, false_and, or_true, true_or, or_false, false_or, forall_eq, ↓reduceIte, ne_eq, nI1ne, nI0eq, Classical.not_not, eq_self, reduceCtorEq]
    have hu := newR_up (x := y2) (b := 1560) (Or.inl rfl) hr2 hv
    refine hR _ _ _ _ _ _ _ _ _ _ _ _ _ _ (ICourt_of h hr2 hu (ICm_grant (kd := 6) h.2.2 hr2 (poolR_up ha) memq hu ?_ ?_ (by omega) (by omega) ?_ upee upee (by rw [upee, updne (by omega), w4]) (by rw [updne (by omega), w4]; exact ⟨2, by omega, rfl⟩) (by rw [upee, updne (by omega), w7]) (by rw [updne (by omega), w8, ht.1]) (by rw [ht.1]; exact ht.2) (by rw [updne (by omega)]; exact w11) (fun _ => ⟨?_, ⟨x1, x2, by omega, by omega, ?_, ?_, upee⟩, ?_⟩) (fun e => by omega))) (newR_out hr2 hu) (poolR_up ha)
    · rw [updne (by omega)]; exact w2
    · intro k hk
      rw [updne (by omega), updne (by omega)]; exact w12 k hk
    · rw [updne (by omega)]; exact w3
    · rw [upee, updne (by omega), w8, ht.1]
    · rw [updne (by omega)]; exact w5
    · rw [updne (by omega)]; exact w6
    · rw [updne (by omega), upde, w7]
      rcases hy with ⟨rfl, rfl⟩ | ⟨rfl, rfl⟩
      · exact Or.inr ⟨rfl, rfl⟩
      · exact Or.inl ⟨rfl, rfl⟩
theorem core_quota {today : Int32} {rights : Nat → Option Nat} {count : Int32} {leans : Nat → Int64} {heardOn : Nat → Int32} {overruled : Int64} {termDays step : Int32} {R_L : List Nat} {R_kind R_number R_side R_n R_cell R_day R_ruling R_share : Nat → Int32} {goods ab pl : Nat → Int32} {sc : Int32} {bond sold passed tar parts pur : Nat → Int32} {chest : Int32} {fs ow : Nat → Int32} {fc : Int32} {uf ut : Nat → Int32} {uc : Int32} {quo s : Nat → Int32} {p1 p2 p3 : Int32} {R : (Nat → Option Nat) → Int32 → (Nat → Int64) → (Nat → Int32) → (Nat → Int32) → List Nat → (Nat → Int32) → (Nat → Int32) → (Nat → Int32) → (Nat → Int32) → (Nat → Int32) → (Nat → Int32) → (Nat → Int32) → (Nat → Int32) → (Nat → Int32) → Prop} (h : ICourt today rights count leans heardOn overruled termDays step R_L R_kind R_number R_side R_n R_cell R_day R_ruling R_share s) (ht : today = s 0 ∧ isN (s 0) 999) (hP : IPort goods ab pl sc bond sold passed tar parts pur chest fs ow fc uf ut uc quo s) (hR : ∀ rights' count' leans' heardOn' quo' X_L X_kind X_number X_side X_n X_cell X_day X_ruling X_share v, ICourt today rights' count' leans' heardOn' overruled termDays step X_L X_kind X_number X_side X_n X_cell X_day X_ruling X_share v → IPort goods ab pl sc bond sold passed tar parts pur chest fs ow fc uf ut uc quo' v → outS (fun j => idxC j ∨ idxP j) s v → poolR R_L R_kind R_number R_side R_n R_cell R_day R_ruling R_share X_L X_kind X_number X_side X_n X_cell X_day X_ruling X_share → R rights' count' leans' heardOn' quo' X_L X_kind X_number X_side X_n X_cell X_day X_ruling X_share v) : wp_X11_quota p1 p2 p3 rights count leans heardOn quo R_L R_kind R_number R_side R_n R_cell R_day R_ruling R_share (fun r a b c d q L e1 e2 e3 e4 e5 e6 e7 e8 => wp_X12_quota p1 p2 p3 s (fun r' v => r = r' ∧ R a b c d q L e1 e2 e3 e4 e5 e6 e7 e8 v)) := by
  have h0 := hR rights count leans heardOn quo R_L R_kind R_number R_side R_n R_cell R_day R_ruling R_share s h hP (fun _ _ => rfl) poolR_rfl
  obtain ⟨m1, r, ki, hr, rfl, m2, -⟩ := id h.2.2
  rcases in_cases p1 4 5 (by decide) (by decide) with ⟨g1, -⟩ | ⟨g1, x1, hx1, hx1', rfl⟩
  · simp only [wp_X11_quota, wp_X12_quota, f_X11_isSide, within_eq, g1, not_true_eq_false, not_false_eq_true, forall_const, true_implies, false_implies, implies_true, and_true, true_and, and_false, false_and, or_true, true_or, or_false, false_or, forall_eq, ↓reduceIte, ne_eq, nI1ne, nI0eq, Classical.not_not, eq_self, reduceCtorEq]
    exact h0
  rcases in_cases p2 0 2 (by decide) (by decide) with ⟨g2, -⟩ | ⟨g2, x2, -, hx2, rfl⟩
  · simp only [wp_X11_quota, wp_X12_quota, f_X11_isSide, within_eq, g1, g2, not_true_eq_false, not_false_eq_true, forall_const, true_implies, false_implies, implies_true, and_true, true_and, and_false, false_and, or_true, true_or, or_false, false_or, forall_eq, ↓reduceIte, ne_eq, nI1ne, nI0eq, Classical.not_not, eq_self, reduceCtorEq]
    exact h0
  rcases in_cases p3 0 9999 (by decide) (by decide) with ⟨g3, -⟩ | ⟨g3, x3, -, hx3, rfl⟩
  · simp only [wp_X11_quota, wp_X12_quota, f_X11_isSide, within_eq, g1, g2, g3, not_true_eq_false, not_false_eq_true, forall_const, true_implies, false_implies, implies_true, and_true, true_and, and_false, false_and, or_true, true_or, or_false, false_or, forall_eq, ↓reduceIte, ne_eq, nI1ne, nI0eq, Classical.not_not, eq_self, reduceCtorEq]
    exact h0
  by_cases q : r = 50
  · subst q
    simp (disch := omega) only [wp_X11_quota, wp_X12_quota, f_X11_isSide, within_eq, g1, g2, g3, f_X2_isFull, nI_natlt, Nat.lt_irrefl, m2, not_true_eq_false, not_false_eq_true, forall_const, true_implies, false_implies, implies_true, and_true, true_and, and_false, false_and, or_true, true_or, or_false, false_or, forall_eq, ↓reduceIte, ne_eq, nI1ne, nI0eq, Classical.not_not, eq_self, reduceCtorEq]
    exact h0
  · have hr2 : r < 50 := by omega
    have fin : ∀ y quo', (x1 = 5 ∧ y = nI x3 ∧ quo' = upd quo x2 (nI x3) ∨ x1 = 4 ∧ y = s (72 + x2) ∧ quo' = quo) → wk_X11_quota_66 (nI x1) (nI x2) (nI x3) rights (nI r) leans heardOn R_L R_kind R_number R_side R_n R_cell R_day R_ruling R_share (fun r a b c d q L e1 e2 e3 e4 e5 e6 e7 e8 => wp_X12_right (nI x1) (nI x2) (-1) (-1) (nI x3) (upd s (72 + x2) y) (fun r' v => r = r' ∧ R a b c d q L e1 e2 e3 e4 e5 e6 e7 e8 v)) quo' := by
      intro y quo' hc
      simp (disch := omega) only [wk_X11_quota_66, wp_X9_init, memq, upup, not_true_eq_false, not_false_eq_true, forall_const, true_implies, false_implies, implies_true, and_true, true_and, and_false, false_and, or_true, true_or, or_false, false_or, forall_eq, ↓reduceIte, ne_eq, nI1ne, nI0eq, Classical.not_not, eq_self, reduceCtorEq]
      intro a ha
      have out1 : outS (fun j => j = 72 + x2) s (upd s (72 + x2) y) := fun j hj => updne hj
      have hm2 : ICm today rights (nI r) leans heardOn overruled R_L R_kind R_number R_side R_n R_cell R_day R_ruling R_share (upd s (72 + x2) y) := ICm_congr h.2.2 (fun j hj => updne (by unfold idxR at hj; omega))
      have h2 : ICourt today rights (nI r) leans heardOn overruled termDays step R_L R_kind R_number R_side R_n R_cell R_day R_ruling R_share (upd s (72 + x2) y) := ⟨by rw [updne (by omega)]; exact h.1, by rw [updne (by omega)]; exact h.2.1, hm2⟩
      refine grantC hr2 memq (rightM hr2 (by rw [updne (by omega)]; exact m2) (fun v w2 w3 w4 w5 w6 w7 w8 w9 w10 w11 w12 hv => ⟨rfl, ?_⟩))
      rw [updne (by omega)] at w8
      have vo : ∀ j, ¬ idxC j → v j = upd s (72 + x2) y j := newR_out hr2 hv
      refine hR _ _ _ _ _ _ _ _ _ _ _ _ _ _ _ (ICourt_of h2 hr2 hv (ICm_grant (kd := x1) hm2 hr2 (poolR_up ha) memq hv w2 w12 (by omega) (by omega) w3 upee upee (by rw [upee, w4]) (by rw [w4]; exact ⟨x2, hx2, rfl⟩) (by rw [upee, w7]) (by rw [w8, ht.1]) (by rw [ht.1]; exact ht.2) w11 (fun e => by omega) (fun e => by omega))) ?_ (fun j hj => ?_) (poolR_up ha)
      · obtain ⟨P1, P2, P3, P4⟩ := hP
        have e : ∀ j, idxP j → j ≠ 72 + x2 → v j = s j := fun j hj hne => by rw [vo j (by unfold idxC; unfold idxP at hj; omega), updne hne]
        refine ⟨IP1_congr P1 (fun j hj => e j (by unfold idx1 at hj; unfold idxP; omega) (by unfold idx1 at hj; omega)), IP2_congr P2 (fun j hj => e j (by unfold idx2 at hj; unfold idxP; omega) (by unfold idx2 at hj; omega)), fun j hj => ?_, IP4_congr P4 (fun j hj => e j (by unfold idx4 at hj; unfold idxP; omega) (by unfold idx4 at hj; omega))⟩
        obtain ⟨q1, q2, q3, q4, q5⟩ := P3 j hj
        have ev : v (72 + x2) = y := by rw [vo _ (by unfold idxC; omega), upde]
        rw [e (66 + j) (by unfold idxP; omega) (by omega), e (69 + j) (by unfold idxP; omega) (by omega)]
        refine ⟨q1, q2, q3, ?_⟩
        by_cases g : j = x2
        · subst g
          rw [ev]
          rcases hc with ⟨-, rfl, rfl⟩ | ⟨-, rfl, rfl⟩
          · rw [upde]; exact ⟨rfl, x3, hx3, rfl⟩
          · exact ⟨q4, q5⟩
        · rw [e (72 + j) (by unfold idxP; omega) (by omega)]
          rcases hc with ⟨-, rfl, rfl⟩ | ⟨-, rfl, rfl⟩
          · rw [updne g]; exact ⟨q4, q5⟩
          · exact ⟨q4, q5⟩
      · have h1 : ¬ idxC j ∧ j ≠ 72 + x2 := by unfold idxP at hj; exact ⟨fun z => hj (Or.inl z), fun z => hj (Or.inr (by omega))⟩
        rw [vo j h1.1, updne h1.2]
    have : x1 = 4 ∨ x1 = 5 := by omega
    rcases this with rfl | rfl
    · simp (disch := omega) only [wp_X11_quota, wp_X12_quota, f_X11_isSide, within_eq, g1, g2, g3, f_X2_isFull, nI_natlt, nI_nateq, Nat.reduceEqDiff, q, hr2, m2, nI_add, nI_clamp, vpin, not_true_eq_false, not_false_eq_true, forall_const, true_implies, false_implies, implies_true, and_true, true_and, and_false, false_and, or_true, true_or, or_false, false_or, forall_eq, ↓reduceIte, ne_eq, nI1ne, nI0eq, Classical.not_not, eq_self, reduceCtorEq]
      exact fin _ _ (Or.inr ⟨rfl, rfl, rfl⟩)
    · simp (disch := omega) only [wp_X11_quota, wp_X12_quota, f_X11_isSide, within_eq, g1, g2, g3, f_X2_isFull, nI_natlt, nI_nateq, Nat.reduceEqDiff, q, hr2, m2, nI_add, nI_clamp, vpin, not_true_eq_false, not_false_eq_true, forall_const, true_implies, false_implies, implies_true, and_true, true_and, and_false, false_and, or_true, true_or, or_false, false_or, forall_eq, ↓reduceIte, ne_eq, nI1ne, nI0eq, Classical.not_not, eq_self, reduceCtorEq]
      exact fin _ _ (Or.inl ⟨rfl, rfl, rfl⟩)
