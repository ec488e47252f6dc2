def nxS (v τ : Nat → Nat) : Nat → Nat
  | 0 => 0
  | k + 1 => if v (k + 1) * (τ (nxS v τ k) + 1) ≤ v (nxS v τ k) * (τ (k + 1) + 1) then nxS v τ k else k + 1
theorem nxS_le (v τ : Nat → Nat) (k : Nat) : nxS v τ k ≤ k := by
  induction k with
  | zero => exact Nat.le_refl 0
  | succ k ih =>
    unfold nxS
    split
    · exact Nat.le_succ_of_le ih
    · exact Nat.le_refl _
def seatS (v : Nat → Nat) : Nat → Nat → Nat
  | 0 => fun _ => 0
  | k + 1 => if 0 < v (nxS v (seatS v k) 5) then va_up (seatS v k) (nxS v (seatS v k) 5) (seatS v k (nxS v (seatS v k) 5) + 1) else seatS v k
theorem seatS_le (v : Nat → Nat) : ∀ k j, seatS v k j ≤ k := by
  intro k
  induction k with
  | zero => intro j; exact Nat.le_refl 0
  | succ k ih =>
    intro j
    unfold seatS
    split
    · unfold va_up
      split
      · have := ih (nxS v (seatS v k) 5)
        omega
      · have := ih j
        omega
    · have := ih j
      omega
theorem nextList {vo arr : Nat → Int32} {v τ : Nat → Nat} {Q : Int32 → Prop} (hv : ∀ j, j < 6 → vo j = nI (v j) ∧ v j ≤ 99999) (ha : ∀ j, j < 6 → arr j = nI (τ j) ∧ τ j ≤ 60) (hQ : Q (nI (nxS v τ 5))) : wp_X3_nextList arr vo Q := by
  unfold wp_X3_nextList
  refine run2 (F := wl_X3_nextList_4 arr vo Q) 5 (fun i => nI (nxS v τ i)) (fun i => nI (i + 1)) ?_ ?_
  · intro i hi m hm
    rw [wl_X3_nextList_4]
    have b := nxS_le v τ i
    have b1 : v (i + 1) * (τ (nxS v τ i) + 1) ≤ 99999 * 61 := Nat.mul_le_mul (hv _ (by omega)).2 (by have := (ha (nxS v τ i) (by omega)).2; omega)
    have b2 : v (nxS v τ i) * (τ (i + 1) + 1) ≤ 99999 * 61 := Nat.mul_le_mul (hv _ (by omega)).2 (by have := (ha (i + 1) (by omega)).2; omega)
    simp (disch := omega) only [wb_X3_nextList_4, nI_natle, show ¬ 6 ≤ i + 1 from by omega, nI_clamp, vpin, nI_add, (hv (i + 1) (by omega)).1, (hv (nxS v τ i) (by omega)).1, (ha (i + 1) (by omega)).1, (ha (nxS v τ i) (by omega)).1, nI_mul, not_true_eq_false, not_false_eq_true, forall_const, true_implies, false_implies, implies_true, and_true, true_and, and_false, false_and, or_true, true_or, or_false, false_or, forall_eq, ↓reduceIte, ne_eq, nI1ne, nI0eq, Classical.not_not, eq_self, reduceCtorEq]
    rw [nxS] at hm
    by_cases q : v (i + 1) * (τ (nxS v τ i) + 1) ≤ v (nxS v τ i) * (τ (i + 1) + 1)
    · simp only [q, not_true_eq_false, not_false_eq_true, forall_const, true_implies, false_implies, implies_true, and_true, true_and, and_false, false_and, or_true, true_or, or_false, false_or, forall_eq, ↓reduceIte, ne_eq, nI1ne, nI0eq, Classical.not_not, eq_self, reduceCtorEq] at hm ⊢; exact hm
    · simp only [q, not_true_eq_false, not_false_eq_true, forall_const, true_implies, false_implies, implies_true, and_true, true_and, and_false, false_and, or_true, true_or, or_false, false_or, forall_eq, ↓reduceIte, ne_eq, nI1ne, nI0eq, Classical.not_not, eq_self, reduceCtorEq] at hm ⊢; exact hm
  · intro m
    rw [wl_X3_nextList_4]
    simp (disch := omega) only [wb_X3_nextList_4, nI_natle, Nat.reduceAdd, Nat.le_refl, not_true_eq_false, not_false_eq_true, forall_const, true_implies, false_implies, implies_true, and_true, true_and, and_false, false_and, or_true, true_or, or_false, false_or, forall_eq, ↓reduceIte, ne_eq, nI1ne, nI0eq, Classical.not_not, eq_self, reduceCtorEq]
    exact hQ
theorem allotC {vo fc : Nat → Int32} {v : Nat → Nat} {n : Nat} {Q : (Nat → Int32) → Prop} (hn : n ≤ 60) (hv : ∀ j, j < 6 → vo j = nI (v j) ∧ v j ≤ 99999) (hQ : ∀ arr, (∀ j, j < 6 → arr j = nI (seatS v n j)) → Q arr) : wp_X3_allot (nI n) fc vo Q := by
  unfold wp_X3_allot
  refine meas2 (F := wl_X3_allot_7 (nI n) vo Q) (fun x arr => ∃ k, k ≤ n ∧ x = nI k ∧ ∀ j, j < 6 → arr j = nI (seatS v k j)) (fun x _ => n - x.toNatClampNeg) ?_ _ _ ⟨0, Nat.zero_le n, rfl, fun j hj => ?_⟩
  · rintro x arr ⟨k, hk, rfl, ha⟩ m ih
    rw [wl_X3_allot_7]
    by_cases q : k = n
    · subst q
      simp (disch := omega) only [wb_X3_allot_7, nI_natle, Nat.le_refl, not_true_eq_false, not_false_eq_true, forall_const, true_implies, false_implies, implies_true, and_true, true_and, and_false, false_and, or_true, true_or, or_false, false_or, forall_eq, ↓reduceIte, ne_eq, nI1ne, nI0eq, Classical.not_not, eq_self, reduceCtorEq]
      exact hQ arr ha
    · simp (disch := omega) only [wb_X3_allot_7, nI_natle, show ¬ n ≤ k from by omega, nI_add, not_true_eq_false, not_false_eq_true, forall_const, true_implies, false_implies, implies_true, and_true, true_and, and_false, false_and, or_true, true_or, or_false, false_or, forall_eq, ↓reduceIte, ne_eq, nI1ne, nI0eq, Classical.not_not, eq_self, reduceCtorEq]
      have ha2 : ∀ j, j < 6 → arr j = nI (seatS v k j) ∧ seatS v k j ≤ 60 := fun j hj => ⟨ha j hj, by have := seatS_le v k j; omega⟩
      refine nextList hv ha2 ?_
      have b := nxS_le v (seatS v k) 5
      have hv5 := hv (nxS v (seatS v k) 5) (by omega)
      simp (disch := omega) only [nI_clamp, vpin, hv5.1, ha (nxS v (seatS v k) 5) (by omega), nI_add, not_true_eq_false, not_false_eq_true, forall_const, true_implies, false_implies, implies_true, and_true, true_and, and_false, false_and, or_true, true_or, or_false, false_or, forall_eq, ↓reduceIte, ne_eq, nI1ne, nI0eq, Classical.not_not, eq_self, reduceCtorEq]
      have z0 : (nI (v (nxS v (seatS v k) 5)) ≤ (0 : Int32)) = (v (nxS v (seatS v k) 5) = 0) := by
        rw [show (0 : Int32) = nI 0 from by decide, nI_natle (by omega) (by omega)]
        exact propext Nat.le_zero
      simp only [z0]
      by_cases w : v (nxS v (seatS v k) 5) = 0
      · simp only [w, not_true_eq_false, not_false_eq_true, forall_const, true_implies, false_implies, implies_true, and_true, true_and, and_false, false_and, or_true, true_or, or_false, false_or, forall_eq, ↓reduceIte, ne_eq, nI1ne, nI0eq, Classical.not_not, eq_self, reduceCtorEq]
        refine ih _ _ ⟨k + 1, by omega, rfl, fun j hj => ?_⟩ ?_
        · rw [seatS, if_neg (show ¬ 0 < v (nxS v (seatS v k) 5) from by omega)]
          exact ha j hj
        · rw [nI_clamp (by omega), nI_clamp (by omega)]
          omega
      · simp only [w, not_true_eq_false, not_false_eq_true, forall_const, true_implies, false_implies, implies_true, and_true, true_and, and_false, false_and, or_true, true_or, or_false, false_or, forall_eq, ↓reduceIte, ne_eq, nI1ne, nI0eq, Classical.not_not, eq_self, reduceCtorEq]
        refine ih _ _ ⟨k + 1, by omega, rfl, fun j hj => ?_⟩ ?_
        · rw [seatS, if_pos (show 0 < v (nxS v (seatS v k) 5) from by omega)]
          by_cases g : j = nxS v (seatS v k) 5
          · rw [g, upde, upee]
          · rw [updne g, upene g]
            exact ha j hj
        · rw [nI_clamp (by omega), nI_clamp (by omega)]
          omega
  · show fil 6 (nI 0) fc j = nI 0
    simp [fil, hj]
theorem lN_toInt40 {n : Nat} (h : n < 2 ^ 40) : (lN n).toInt = (n : Int) := lg_ofNat_toInt (by omega)
theorem lg_le0 {A B : Nat} (hA : A < 2 ^ 40) (hB : B < 2 ^ 40) : (lg_cmp (lN A - lN B) 0 ≤ 0) ↔ A ≤ B := by
  have e : (lN A - lN B).toInt = (A : Int) - B := by
    rw [Int64.toInt_sub, lN_toInt40 hA, lN_toInt40 hB, Int.bmod_def]
    omega
  have g : (lN A - lN B > 0) ↔ B < A := by
    show (0 : Int64) < lN A - lN B ↔ _
    rw [Int64.lt_iff_toInt_lt, e]
    have : (0 : Int64).toInt = 0 := by decide
    omega
  unfold lg_cmp
  by_cases q : B < A
  · rw [if_pos (g.mpr q)]
    constructor
    · intro h; exact absurd h (by decide)
    · intro h; omega
  · rw [if_neg (fun z => q (g.mp z))]
    constructor
    · intro _; omega
    · intro _
      split <;> decide
theorem seatsM {s k : Nat → Int32} {v : Nat → Nat} {n : Nat} {Q : (Nat → Int32) → Prop} (hn : n ≤ 60) (hv : ∀ j, j < 6 → s (75 + j) = nI (v j) ∧ v j ≤ 99999) (hQ : ∀ arr, (∀ j, j < 6 → arr j = nI (seatS v n j)) → Q arr) : wp_X12_seats (nI n) s k Q := by
  unfold wp_X12_seats
  refine meas2 (F := wl_X12_seats_2 (nI n) s Q) (fun x arr => ∃ k, k ≤ 6 ∧ x = nI k ∧ ∀ j, j < k → arr j = nI 0) (fun x _ => 6 - x.toNatClampNeg) ?_ _ _ ⟨0, by omega, rfl, fun j hj => by omega⟩
  rintro x arr ⟨k, hk, rfl, ha⟩ m ih
  rw [wl_X12_seats_2]
  by_cases q : k = 6
  · subst q
    simp (disch := omega) only [wb_X12_seats_2, nI_natle, Nat.le_refl, not_true_eq_false, not_false_eq_true, forall_const, true_implies, false_implies, implies_true, and_true, true_and, and_false, false_and, or_true, true_or, or_false, false_or, forall_eq, ↓reduceIte, ne_eq, nI1ne, nI0eq, Classical.not_not, eq_self, reduceCtorEq]
    refine meas2 (F := wl_X12_seats_23 (nI n) s Q) (fun x arr => ∃ k, k ≤ n ∧ x = nI k ∧ ∀ j, j < 6 → arr j = nI (seatS v k j)) (fun x _ => n - x.toNatClampNeg) ?_ _ _ ⟨0, Nat.zero_le n, rfl, fun j hj => ha j hj⟩
    rintro x arr ⟨k, hk, rfl, ha⟩ m ih
    rw [wl_X12_seats_23]
    by_cases q : k = n
    · subst q
      simp (disch := omega) only [wb_X12_seats_23, nI_natle, Nat.le_refl, not_true_eq_false, not_false_eq_true, forall_const, true_implies, false_implies, implies_true, and_true, true_and, and_false, false_and, or_true, true_or, or_false, false_or, forall_eq, ↓reduceIte, ne_eq, nI1ne, nI0eq, Classical.not_not, eq_self, reduceCtorEq]
      exact hQ arr ha
    · simp (disch := omega) only [wb_X12_seats_23, nI_natle, show ¬ n ≤ k from by omega, not_true_eq_false, not_false_eq_true, forall_const, true_implies, false_implies, implies_true, and_true, true_and, and_false, false_and, or_true, true_or, or_false, false_or, forall_eq, ↓reduceIte, ne_eq, nI1ne, nI0eq, Classical.not_not, eq_self, reduceCtorEq]
      refine run2 (F := wl_X12_seats_33 s (nI k) arr (wl_X12_seats_23 (nI n) s Q m)) 5 (fun i => nI (nxS v (seatS v k) i)) (fun i => nI (i + 1)) ?_ ?_
      · intro i hi m2 hm
        rw [wl_X12_seats_33]
        have b := nxS_le v (seatS v k) i
        have c1 := seatS_le v k (nxS v (seatS v k) i)
        have c2 := seatS_le v k (i + 1)
        have b1 : v (i + 1) * (seatS v k (nxS v (seatS v k) i) + 1) ≤ 99999 * 61 := Nat.mul_le_mul (hv _ (by omega)).2 (by omega)
        have b2 : v (nxS v (seatS v k) i) * (seatS v k (i + 1) + 1) ≤ 99999 * 61 := Nat.mul_le_mul (hv _ (by omega)).2 (by omega)
        have v1 := (hv (i + 1) (by omega)).2
        have v2 := (hv (nxS v (seatS v k) i) (by omega)).2
        simp (disch := omega) only [wb_X12_seats_33, nI_natle, show ¬ 6 ≤ i + 1 from by omega, nI_clamp, vpin, nI_add, (hv (i + 1) (by omega)).1, (hv (nxS v (seatS v k) i) (by omega)).1, ha (i + 1) (by omega), ha (nxS v (seatS v k) i) (by omega), nI_l, lN_mul, lg_le0, not_true_eq_false, not_false_eq_true, forall_const, true_implies, false_implies, implies_true, and_true, true_and, and_false, false_and, or_true, true_or, or_false, false_or, forall_eq, ↓reduceIte, ne_eq, nI1ne, nI0eq, Classical.not_not, eq_self, reduceCtorEq]
        rw [nxS] at hm
        by_cases q : v (i + 1) * (seatS v k (nxS v (seatS v k) i) + 1) ≤ v (nxS v (seatS v k) i) * (seatS v k (i + 1) + 1)
        · simp only [q, not_true_eq_false, not_false_eq_true, forall_const, true_implies, false_implies, implies_true, and_true, true_and, and_false, false_and, or_true, true_or, or_false, false_or, forall_eq, ↓reduceIte, ne_eq, nI1ne, nI0eq, Classical.not_not, eq_self, reduceCtorEq] at hm ⊢; exact hm
        · simp only [q, not_true_eq_false, not_false_eq_true, forall_const, true_implies, false_implies, implies_true, and_true, true_and, and_false, false_and, or_true, true_or, or_false, false_or, forall_eq, ↓reduceIte, ne_eq, nI1ne, nI0eq, Classical.not_not, eq_self, reduceCtorEq] at hm ⊢; exact hm
      · intro m2
        rw [wl_X12_seats_33]
        have b := nxS_le v (seatS v k) 5
        have hv5 := hv (nxS v (seatS v k) 5) (by omega)
        simp (disch := omega) only [wb_X12_seats_33, nI_natle, Nat.reduceAdd, Nat.le_refl, nI_clamp, vpin, nI_add, hv5.1, ha (nxS v (seatS v k) 5) (by omega), not_true_eq_false, not_false_eq_true, forall_const, true_implies, false_implies, implies_true, and_true, true_and, and_false, false_and, or_true, true_or, or_false, false_or, forall_eq, ↓reduceIte, ne_eq, nI1ne, nI0eq, Classical.not_not, eq_self, reduceCtorEq]
        have z0 : (nI (v (nxS v (seatS v k) 5)) ≤ (0 : Int32)) = (v (nxS v (seatS v k) 5) = 0) := by
          rw [show (0 : Int32) = nI 0 from by decide, nI_natle (by omega) (by omega)]
          exact propext Nat.le_zero
        simp only [z0]
        refine ih _ _ ⟨k + 1, by omega, rfl, fun j hj => ?_⟩ (by rw [nI_clamp (by omega), nI_clamp (by omega)]; omega)
        by_cases w : v (nxS v (seatS v k) 5) = 0
        · simp only [w, nI_add, Nat.add_zero, not_true_eq_false, not_false_eq_true, forall_const, true_implies, false_implies, implies_true, and_true, true_and, and_false, false_and, or_true, true_or, or_false, false_or, forall_eq, ↓reduceIte, ne_eq, nI1ne, nI0eq, Classical.not_not, eq_self, reduceCtorEq]
          rw [seatS, if_neg (show ¬ 0 < v (nxS v (seatS v k) 5) from by omega)]
          by_cases g : j = nxS v (seatS v k) 5
          · rw [g, upde]
          · rw [updne g]
            exact ha j hj
        · simp only [w, nI_add, not_true_eq_false, not_false_eq_true, forall_const, true_implies, false_implies, implies_true, and_true, true_and, and_false, false_and, or_true, true_or, or_false, false_or, forall_eq, ↓reduceIte, ne_eq, nI1ne, nI0eq, Classical.not_not, eq_self, reduceCtorEq]
          rw [seatS, if_pos (show 0 < v (nxS v (seatS v k) 5) from by omega)]
          by_cases g : j = nxS v (seatS v k) 5
          · rw [g, upde, upee]
          · rw [updne g, upene g]
            exact ha j hj
  · simp (disch := omega) only [wb_X12_seats_2, nI_natle, show ¬ 6 ≤ k from by omega, nI_clamp, vpin, nI_add, not_true_eq_false, not_false_eq_true, forall_const, true_implies, false_implies, implies_true, and_true, true_and, and_false, false_and, or_true, true_or, or_false, false_or, forall_eq, ↓reduceIte, ne_eq, nI1ne, nI0eq, Classical.not_not, eq_self, reduceCtorEq]
    refine ih _ _ ⟨k + 1, by omega, rfl, fun j hj => ?_⟩ (by rw [nI_clamp (by omega), nI_clamp (by omega)]; omega)
    by_cases g : j = k
    · rw [g, upde]
    · rw [updne g]
      exact ha j (by omega)
theorem votes_of {vo : Nat → Int32} {s : Nat → Int32} (h : ∀ i, i < 6 → vo i = s (75 + i) ∧ isN (s (75 + i)) 99999) : ∃ v : Nat → Nat, (∀ j, j < 6 → vo j = nI (v j) ∧ v j ≤ 99999) ∧ ∀ j, j < 6 → s (75 + j) = nI (v j) ∧ v j ≤ 99999 := by
  refine ⟨fun j => (vo j).toNatClampNeg, fun j hj => ?_, fun j hj => ?_⟩
  · obtain ⟨h1, k, h2, h3⟩ := h j hj
    show vo j = nI (vo j).toNatClampNeg ∧ (vo j).toNatClampNeg ≤ 99999
    rw [h1, h3, nI_clamp (by omega)]
    exact ⟨rfl, h2⟩
  · obtain ⟨h1, k, h2, h3⟩ := h j hj
    show s (75 + j) = nI (vo j).toNatClampNeg ∧ (vo j).toNatClampNeg ≤ 99999
    rw [h1, h3, nI_clamp (by omega)]
    exact ⟨rfl, h2⟩
theorem core_seat {vo sd ss sn fc ks : Nat → Int32} {sc p1 p2 : Int32} {s : Nat → Int32} {R : Prop} (h : IHall vo sd ss sn sc s) (hR : R) : wp_X11_seat p1 p2 fc vo (fun r _ => wp_X12_seat p1 p2 s ks (fun r' _ => r = r' ∧ R)) := by
  obtain ⟨v, hv, hs⟩ := votes_of h.1
  rcases in_cases p1 0 5 (by decide) (by decide) with ⟨h1, -⟩ | ⟨h1, x, hx1, hx2, rfl⟩
  · simp only [wp_X11_seat, wp_X12_seat, within_eq, h1, not_true_eq_false, not_false_eq_true, forall_const, true_implies, false_implies, implies_true, and_true, true_and, and_false, false_and, or_true, true_or, or_false, false_or, forall_eq, ↓reduceIte, ne_eq, nI1ne, nI0eq, Classical.not_not, eq_self, reduceCtorEq]
    exact hR
  · rcases in_cases p2 1 60 (by decide) (by decide) with ⟨h2, -⟩ | ⟨h2, y, hy1, hy2, rfl⟩
    · simp only [wp_X11_seat, wp_X12_seat, within_eq, h1, h2, not_true_eq_false, not_false_eq_true, forall_const, true_implies, false_implies, implies_true, and_true, true_and, and_false, false_and, or_true, true_or, or_false, false_or, forall_eq, ↓reduceIte, ne_eq, nI1ne, nI0eq, Classical.not_not, eq_self, reduceCtorEq]
      exact hR
    · simp (disch := omega) only [wp_X11_seat, wp_X12_seat, within_eq, h1, h2, vpin, nI_clamp, not_true_eq_false, not_false_eq_true, forall_const, true_implies, false_implies, implies_true, and_true, true_and, and_false, false_and, or_true, true_or, or_false, false_or, forall_eq, ↓reduceIte, ne_eq, nI1ne, nI0eq, Classical.not_not, eq_self, reduceCtorEq]
      refine allotC hy2 hv (fun arr ha => ?_)
      refine seatsM hy2 hs (fun arr2 ha2 => ?_)
      rw [ha x (by omega), ha2 x (by omega)]
      exact ⟨rfl, hR⟩
def popN : Nat → Nat → Nat
  | 0, _ => 0
  | k + 1, t => popN k t + if t.testBit k then 1 else 0
theorem bc_pop : ∀ t, t < 64 → f_J6_bitCount_0f7a4 (nI t) = nI (popN 20 t) ∧ popN 20 t ≤ 6 := by decide +kernel
theorem shr_bit : ∀ t, t < 64 → ∀ k, k < 20 → ((nI t >>> (nI k &&& 31)) &&& nI 1) = nI (if t.testBit k then 1 else 0) := by decide +kernel
theorem many {t : Nat} {Q : Int32 → Prop} (ht : t < 64) (hQ : Q (nI (popN 20 t))) : wp_X12_many (nI t) Q := by
  unfold wp_X12_many
  refine run2 (F := wl_X12_many_4 (nI t) Q) 20 (fun i => nI (popN i t)) (fun i => nI i) ?_ ?_
  · intro i hi m hm
    rw [wl_X12_many_4]
    simp (disch := omega) only [wb_X12_many_4, nI_natle, show ¬ 20 ≤ i from by omega, shr_bit t ht i hi, nI_add, not_true_eq_false, not_false_eq_true, forall_const, true_implies, false_implies, implies_true, and_true, true_and, and_false, false_and, or_true, true_or, or_false, false_or, forall_eq, ↓reduceIte, ne_eq, nI1ne, nI0eq, Classical.not_not, eq_self, reduceCtorEq]
    exact hm
  · intro m
    rw [wl_X12_many_4]
    simp (disch := omega) only [wb_X12_many_4, nI_natle, Nat.le_refl, not_true_eq_false, not_false_eq_true, forall_const, true_implies, false_implies, implies_true, and_true, true_and, and_false, false_and, or_true, true_or, or_false, false_or, forall_eq, ↓reduceIte, ne_eq, nI1ne, nI0eq, Classical.not_not, eq_self, reduceCtorEq]
    exact hQ
def sumB (τ : Nat → Nat) (t : Nat) : Nat → Nat
  | 0 => 0
  | k + 1 => sumB τ t k + if t.testBit k then τ k else 0
theorem sumB_le (τ : Nat → Nat) (t k M : Nat) (h : ∀ j, τ j ≤ M) : sumB τ t k ≤ M * k := by
  induction k with
  | zero => exact Nat.zero_le _
  | succ k ih =>
    unfold sumB
    have := h k
    rw [Nat.mul_succ]
    split <;> omega
theorem seatsOf {arr : Nat → Int32} {τ : Nat → Nat} {t : Nat} {Q : Int32 → Prop} (ht : t < 64) (ha : ∀ j, j < 6 → arr j = nI (τ j)) (hQ : Q (nI (sumB τ t 6))) : wp_X11_seatsOf (nI t) arr Q := by
  unfold wp_X11_seatsOf
  refine run2 (F := wl_X11_seatsOf_4 (nI t) arr Q) 6 (fun i => nI (sumB τ t i)) (fun i => nI i) ?_ ?_
  · intro i hi m hm
    rw [wl_X11_seatsOf_4]
    rw [sumB] at hm
    simp (disch := omega) only [wb_X11_seatsOf_4, nI_natle, show ¬ 6 ≤ i from by omega, shr_bit t ht i (by omega), nI_clamp, vpin, nI_add, ha i hi, not_true_eq_false, not_false_eq_true, forall_const, true_implies, false_implies, implies_true, and_true, true_and, and_false, false_and, or_true, true_or, or_false, false_or, forall_eq, ↓reduceIte, ne_eq, nI1ne, nI0eq, Classical.not_not, eq_self, reduceCtorEq]
    by_cases q : t.testBit i = true
    · simp only [q, not_true_eq_false, not_false_eq_true, forall_const, true_implies, false_implies, implies_true, and_true, true_and, and_false, false_and, or_true, true_or, or_false, false_or, forall_eq, ↓reduceIte, ne_eq, nI1ne, nI0eq, Classical.not_not, eq_self, reduceCtorEq] at hm ⊢; exact hm
    · simp only [q, Nat.add_zero, not_true_eq_false, not_false_eq_true, forall_const, true_implies, false_implies, implies_true, and_true, true_and, and_false, false_and, or_true, true_or, or_false, false_or, forall_eq, ↓reduceIte, ne_eq, nI1ne, nI0eq, Classical.not_not, eq_self, reduceCtorEq, decide_true, decide_false, Bool.true_and, Bool.and_true, Bool.and_false, Bool.false_and, Bool.false_eq_true, Bool.true_or, Bool.or_true, Bool.or_false, Bool.false_or, Bool.not_true, Bool.not_false] at hm ⊢; exact hm
  · intro m
    rw [wl_X11_seatsOf_4]
    simp (disch := omega) only [wb_X11_seatsOf_4, nI_natle, Nat.le_refl, not_true_eq_false, not_false_eq_true, forall_const, true_implies, false_implies, implies_true, and_true, true_and, and_false, false_and, or_true, true_or, or_false, false_or, forall_eq, ↓reduceIte, ne_eq, nI1ne, nI0eq, Classical.not_not, eq_self, reduceCtorEq]
    exact hQ
/-- the least set of the fewest that reaches k, of those below t: none is told as 64 -/
def turnB (σ : Nat → Nat) (k : Nat) : Nat → Nat
  | 0 => 64
  | t + 1 => if k ≤ σ t ∧ (turnB σ k t = 64 ∨ popN 20 t < popN 20 (turnB σ k t)) then t else turnB σ k t
theorem turnB_s (σ : Nat → Nat) (k t : Nat) : turnB σ k (t + 1) = if k ≤ σ t ∧ (turnB σ k t = 64 ∨ popN 20 t < popN 20 (turnB σ k t)) then t else turnB σ k t := rfl
theorem turnB_lt (σ : Nat → Nat) (k t : Nat) (ht : t ≤ 64) : turnB σ k t = 64 ∨ turnB σ k t < t := by
  induction t with
  | zero => exact Or.inl rfl
  | succ t ih =>
    unfold turnB
    split
    · exact Or.inr (Nat.lt_succ_self t)
    · rcases ih (by omega) with h | h
      · exact Or.inl h
      · exact Or.inr (by omega)
def tI (x : Nat) : Int32 := if x = 64 then -5 else nI x
theorem tI_ne {x : Nat} (h : ¬ x = 64) : tI x = nI x := if_neg h
theorem core_turn {vo sd ss sn fc ks : Nat → Int32} {sc p1 p2 : Int32} {s : Nat → Int32} {R : Prop} (h : IHall vo sd ss sn sc s) (hR : R) : wp_X11_turn p1 p2 fc vo (fun r _ => wp_X12_turn p1 p2 s ks (fun r' _ => r = r' ∧ R)) := by
  obtain ⟨v, hv, hs⟩ := votes_of h.1
  rcases in_cases p1 1 60 (by decide) (by decide) with ⟨h1, -⟩ | ⟨h1, x, hx1, hx2, rfl⟩
  · simp only [wp_X11_turn, wp_X12_turn, within_eq, h1, not_true_eq_false, not_false_eq_true, forall_const, true_implies, false_implies, implies_true, and_true, true_and, and_false, false_and, or_true, true_or, or_false, false_or, forall_eq, ↓reduceIte, ne_eq, nI1ne, nI0eq, Classical.not_not, eq_self, reduceCtorEq]
    exact hR
  · rcases in_cases p2 1 60 (by decide) (by decide) with ⟨h2, -⟩ | ⟨h2, y, hy1, hy2, rfl⟩
    · simp only [wp_X11_turn, wp_X12_turn, within_eq, h1, h2, not_true_eq_false, not_false_eq_true, forall_const, true_implies, false_implies, implies_true, and_true, true_and, and_false, false_and, or_true, true_or, or_false, false_or, forall_eq, ↓reduceIte, ne_eq, nI1ne, nI0eq, Classical.not_not, eq_self, reduceCtorEq]
      exact hR
    · simp only [wp_X11_turn, wp_X12_turn, within_eq, h1, h2, not_true_eq_false, not_false_eq_true, forall_const, true_implies, false_implies, implies_true, and_true, true_and, and_false, false_and, or_true, true_or, or_false, false_or, forall_eq, ↓reduceIte, ne_eq, nI1ne, nI0eq, Classical.not_not, eq_self, reduceCtorEq]
      refine allotC hx2 hv (fun arr ha => ?_)
      have sb : ∀ t, sumB (seatS v x) t 6 ≤ 360 := fun t => Nat.le_trans (sumB_le _ t 6 x (seatS_le v x)) (by omega)
      have n5 : ∀ t, t < 64 → (nI t = (-5 : Int32)) = False := by
        intro t ht
        refine eq_false (fun g => ?_)
        have := congrArg Int32.toInt g
        rw [nI_toInt (by omega)] at this
        have q9 : (-5 : Int32).toInt = -5 := by decide
        omega
      have tB : ∀ t, t ≤ 64 → (tI (turnB (fun t => sumB (seatS v x) t 6) y t) = -5) = (turnB (fun t => sumB (seatS v x) t 6) y t = 64) := by
        intro t ht
        unfold tI
        rcases turnB_lt (fun t => sumB (seatS v x) t 6) y t ht with q | q
        · simp only [q, not_true_eq_false, not_false_eq_true, forall_const, true_implies, false_implies, implies_true, and_true, true_and, and_false, false_and, or_true, true_or, or_false, false_or, forall_eq, ↓reduceIte, ne_eq, nI1ne, nI0eq, Classical.not_not, eq_self, reduceCtorEq]
        · rw [if_neg (show ¬ turnB (fun t => sumB (seatS v x) t 6) y t = 64 from by omega), n5 _ (by omega)]
          exact (eq_false (by omega)).symm
      have classS : ∀ K : Int32 → (Nat → Int32) → Prop, K (tI (turnB (fun t => sumB (seatS v x) t 6) y 64)) arr → ∃ n, wl_X11_turn_44 (nI y) K arr n (-5) (nI 1) := by
        intro K hK
        generalize hσ : (fun t => sumB (seatS v x) t 6) = σ at *
        have t1 : turnB σ y 1 = 64 := by
          show (if y ≤ σ 0 ∧ _ then _ else _) = 64
          rw [if_neg]
          · rfl
          · rintro ⟨g, -⟩
            have : σ 0 = 0 := by rw [← hσ]; simp [sumB]
            omega
        have q : ∃ n, wl_X11_turn_44 (nI y) K arr n (tI (turnB σ y (0 + 1))) (nI (0 + 1)) := by
          refine run2 (F := wl_X11_turn_44 (nI y) K arr) 63 (fun i => tI (turnB σ y (i + 1))) (fun i => nI (i + 1)) ?_ ?_
          · intro i hi m hm
            rw [wl_X11_turn_44]
            have s1 : σ (i + 1) ≤ 360 := by rw [← hσ]; exact sb _
            simp (disch := omega) only [wb_X11_turn_44, nI_natle, show ¬ 64 ≤ i + 1 from by omega, tB (i + 1) (by omega), nI_add, not_true_eq_false, not_false_eq_true, forall_const, true_implies, false_implies, implies_true, and_true, true_and, and_false, false_and, or_true, true_or, or_false, false_or, forall_eq, ↓reduceIte, ne_eq, nI1ne, nI0eq, Classical.not_not, eq_self, reduceCtorEq]
            rw [turnB] at hm
            by_cases g : turnB σ y (i + 1) = 64
            · simp only [g, not_true_eq_false, not_false_eq_true, forall_const, true_implies, false_implies, implies_true, and_true, true_and, and_false, false_and, or_true, true_or, or_false, false_or, forall_eq, ↓reduceIte, ne_eq, nI1ne, nI0eq, Classical.not_not, eq_self, reduceCtorEq] at hm ⊢
              refine seatsOf (by omega) ha ?_
              rw [show sumB (seatS v x) (i + 1) 6 = σ (i + 1) from by rw [← hσ]]
              simp (disch := omega) only [nI_natlt, not_true_eq_false, not_false_eq_true, forall_const, true_implies, false_implies, implies_true, and_true, true_and, and_false, false_and, or_true, true_or, or_false, false_or, forall_eq, ↓reduceIte, ne_eq, nI1ne, nI0eq, Classical.not_not, eq_self, reduceCtorEq]
              by_cases z : y ≤ σ (i + 1)
              · simp only [z, show ¬ σ (i + 1) < y from by omega, not_true_eq_false, not_false_eq_true, forall_const, true_implies, false_implies, implies_true, and_true, true_and, and_false, false_and, or_true, true_or, or_false, false_or, forall_eq, ↓reduceIte, ne_eq, nI1ne, nI0eq, Classical.not_not, eq_self, reduceCtorEq] at hm ⊢
                rw [tI, if_neg (show ¬ i + 1 = 64 from by omega)] at hm
                exact hm
              · simp only [z, show σ (i + 1) < y from by omega, g, not_true_eq_false, not_false_eq_true, forall_const, true_implies, false_implies, implies_true, and_true, true_and, and_false, false_and, or_true, true_or, or_false, false_or, forall_eq, ↓reduceIte, ne_eq, nI1ne, nI0eq, Classical.not_not, eq_self, reduceCtorEq] at hm ⊢
                exact hm
            · have glt : turnB σ y (i + 1) < i + 1 := by
                rcases turnB_lt σ y (i + 1) (by omega) with z | z
                · exact absurd z g
                · exact z
              have e1 : tI (turnB σ y (i + 1)) = nI (turnB σ y (i + 1)) := by rw [tI, if_neg g]
              have p1 := bc_pop (i + 1) (by omega)
              have p2 := bc_pop (turnB σ y (i + 1)) (by omega)
              rw [e1]
              simp (disch := omega) only [g, p1.1, p2.1, nI_natle, not_true_eq_false, not_false_eq_true, forall_const, true_implies, false_implies, implies_true, and_true, true_and, and_false, false_and, or_true, true_or, or_false, false_or, forall_eq, ↓reduceIte, ne_eq, nI1ne, nI0eq, Classical.not_not, eq_self, reduceCtorEq]
              by_cases z : popN 20 (turnB σ y (i + 1)) ≤ popN 20 (i + 1)
              · simp only [z, show ¬ popN 20 (i + 1) < popN 20 (turnB σ y (i + 1)) from by omega, g, not_true_eq_false, not_false_eq_true, forall_const, true_implies, false_implies, implies_true, and_true, true_and, and_false, false_and, or_true, true_or, or_false, false_or, forall_eq, ↓reduceIte, ne_eq, nI1ne, nI0eq, Classical.not_not, eq_self, reduceCtorEq] at hm ⊢
                rw [e1] at hm
                exact hm
              · simp only [z, show popN 20 (i + 1) < popN 20 (turnB σ y (i + 1)) from by omega, g, not_true_eq_false, not_false_eq_true, forall_const, true_implies, false_implies, implies_true, and_true, true_and, and_false, false_and, or_true, true_or, or_false, false_or, forall_eq, ↓reduceIte, ne_eq, nI1ne, nI0eq, Classical.not_not, eq_self, reduceCtorEq] at hm ⊢
                refine seatsOf (by omega) ha ?_
                rw [show sumB (seatS v x) (i + 1) 6 = σ (i + 1) from by rw [← hσ]]
                simp (disch := omega) only [nI_natlt, not_true_eq_false, not_false_eq_true, forall_const, true_implies, false_implies, implies_true, and_true, true_and, and_false, false_and, or_true, true_or, or_false, false_or, forall_eq, ↓reduceIte, ne_eq, nI1ne, nI0eq, Classical.not_not, eq_self, reduceCtorEq]
                by_cases z2 : y ≤ σ (i + 1)
                · simp only [z2, show ¬ σ (i + 1) < y from by omega, not_true_eq_false, not_false_eq_true, forall_const, true_implies, false_implies, implies_true, and_true, true_and, and_false, false_and, or_true, true_or, or_false, false_or, forall_eq, ↓reduceIte, ne_eq, nI1ne, nI0eq, Classical.not_not, eq_self, reduceCtorEq] at hm ⊢
                  rw [tI, if_neg (show ¬ i + 1 = 64 from by omega)] at hm
                  exact hm
                · simp only [z2, show σ (i + 1) < y from by omega, not_true_eq_false, not_false_eq_true, forall_const, true_implies, false_implies, implies_true, and_true, true_and, and_false, false_and, or_true, true_or, or_false, false_or, forall_eq, ↓reduceIte, ne_eq, nI1ne, nI0eq, Classical.not_not, eq_self, reduceCtorEq] at hm ⊢
                  rw [e1] at hm
                  exact hm
          · intro m
            rw [wl_X11_turn_44]
            simp (disch := omega) only [wb_X11_turn_44, nI_natle, Nat.reduceAdd, Nat.le_refl, not_true_eq_false, not_false_eq_true, forall_const, true_implies, false_implies, implies_true, and_true, true_and, and_false, false_and, or_true, true_or, or_false, false_or, forall_eq, ↓reduceIte, ne_eq, nI1ne, nI0eq, Classical.not_not, eq_self, reduceCtorEq]
            exact hK
        rw [Nat.zero_add, t1] at q
        exact q
      refine classS _ ?_
      refine seatsM hx2 hs (fun arr2 ha2 => ?_)
      generalize hσ : (fun t => sumB (seatS v x) t 6) = σ at *
      have inner : ∀ (t : Nat) (v3 : Int32) (L : Int32 → Int32 → Prop), t < 64 → (σ t < y → L v3 (nI (t + 1))) → (y ≤ σ t → v3 = -5 → L (nI t) (nI (t + 1))) → (y ≤ σ t → ∀ u, u < 64 → v3 = nI u → L (if popN 20 u ≤ popN 20 t then nI u else nI t) (nI (t + 1))) → (v3 = -5 ∨ ∃ u, u < 64 ∧ v3 = nI u) → ∃ n, wl_X12_turn_47 (nI y) arr2 v3 (nI t) L n (nI 0) (nI 0) := by
        intro t v3 L ht k1 k2 k3 kv
        have s1 : σ t ≤ 360 := by rw [← hσ]; exact sb _
        refine run2 (F := wl_X12_turn_47 (nI y) arr2 v3 (nI t) L) 6 (fun i => nI (sumB (seatS v x) t i)) (fun i => nI i) ?_ ?_
        · intro i hi m hm
          rw [wl_X12_turn_47]
          rw [sumB] at hm
          simp (disch := omega) only [wb_X12_turn_47, nI_natle, show ¬ 6 ≤ i from by omega, shr_bit t ht i (by omega), nI_clamp, vpin, ha2 i hi, not_true_eq_false, not_false_eq_true, forall_const, true_implies, false_implies, implies_true, and_true, true_and, and_false, false_and, or_true, true_or, or_false, false_or, forall_eq, ↓reduceIte, ne_eq, nI1ne, nI0eq, Classical.not_not, eq_self, reduceCtorEq]
          by_cases q : t.testBit i = true
          · simp only [q, nI_add, not_true_eq_false, not_false_eq_true, forall_const, true_implies, false_implies, implies_true, and_true, true_and, and_false, false_and, or_true, true_or, or_false, false_or, forall_eq, ↓reduceIte, ne_eq, nI1ne, nI0eq, Classical.not_not, eq_self, reduceCtorEq] at hm ⊢; exact hm
          · simp only [q, nI_add, show (nI 0 = nI 1) = False from eq_false (by decide), Nat.add_zero, not_true_eq_false, not_false_eq_true, forall_const, true_implies, false_implies, implies_true, and_true, true_and, and_false, false_and, or_true, true_or, or_false, false_or, forall_eq, ↓reduceIte, ne_eq, nI1ne, nI0eq, Classical.not_not, eq_self, reduceCtorEq, decide_true, decide_false, Bool.true_and, Bool.and_true, Bool.and_false, Bool.false_and, Bool.false_eq_true, Bool.true_or, Bool.or_true, Bool.or_false, Bool.false_or, Bool.not_true, Bool.not_false] at hm ⊢; exact hm
        · intro m
          rw [wl_X12_turn_47]
          rw [show sumB (seatS v x) t 6 = σ t from by rw [← hσ]]
          simp (disch := omega) only [wb_X12_turn_47, wk_X12_turn_116, wk_X12_turn_117, wk_X12_turn_111, nI_natle, Nat.le_refl, nI_natlt, nI_add, not_true_eq_false, not_false_eq_true, forall_const, true_implies, false_implies, implies_true, and_true, true_and, and_false, false_and, or_true, true_or, or_false, false_or, forall_eq, ↓reduceIte, ne_eq, nI1ne, nI0eq, Classical.not_not, eq_self, reduceCtorEq]
          by_cases z : σ t < y
          · simp only [z, not_true_eq_false, not_false_eq_true, forall_const, true_implies, false_implies, implies_true, and_true, true_and, and_false, false_and, or_true, true_or, or_false, false_or, forall_eq, ↓reduceIte, ne_eq, nI1ne, nI0eq, Classical.not_not, eq_self, reduceCtorEq]
            exact k1 z
          · simp only [z, not_true_eq_false, not_false_eq_true, forall_const, true_implies, false_implies, implies_true, and_true, true_and, and_false, false_and, or_true, true_or, or_false, false_or, forall_eq, ↓reduceIte, ne_eq, nI1ne, nI0eq, Classical.not_not, eq_self, reduceCtorEq]
            rcases kv with rfl | ⟨u, hu, rfl⟩
            · simp only [not_true_eq_false, not_false_eq_true, forall_const, true_implies, false_implies, implies_true, and_true, true_and, and_false, false_and, or_true, true_or, or_false, false_or, forall_eq, ↓reduceIte, ne_eq, nI1ne, nI0eq, Classical.not_not, eq_self, reduceCtorEq]
              exact k2 (by omega) rfl
            · simp only [n5 u hu, not_true_eq_false, not_false_eq_true, forall_const, true_implies, false_implies, implies_true, and_true, true_and, and_false, false_and, or_true, true_or, or_false, false_or, forall_eq, ↓reduceIte, ne_eq, nI1ne, nI0eq, Classical.not_not, eq_self, reduceCtorEq]
              refine many ht (many hu ?_)
              have p1 := bc_pop t ht
              have p2 := bc_pop u hu
              simp (disch := omega) only [nI_natle, not_true_eq_false, not_false_eq_true, forall_const, true_implies, false_implies, implies_true, and_true, true_and, and_false, false_and, or_true, true_or, or_false, false_or, forall_eq, ↓reduceIte, ne_eq, nI1ne, nI0eq, Classical.not_not, eq_self, reduceCtorEq]
              exact k3 (by omega) u hu rfl
      have q : ∃ n, wl_X12_turn_34 (nI y) (fun r' _ => tI (turnB σ y 64) = r' ∧ R) arr2 n (tI (turnB σ y 0)) (nI 0) := by
        refine run2 (F := wl_X12_turn_34 (nI y) (fun r' _ => tI (turnB σ y 64) = r' ∧ R) arr2) 64 (fun i => tI (turnB σ y i)) (fun i => nI i) ?_ ?_
        · intro i hi m hm
          rw [wl_X12_turn_34]
          simp (disch := omega) only [wb_X12_turn_34, nI_natle, show ¬ 64 ≤ i from by omega, not_true_eq_false, not_false_eq_true, forall_const, true_implies, false_implies, implies_true, and_true, true_and, and_false, false_and, or_true, true_or, or_false, false_or, forall_eq, ↓reduceIte, ne_eq, nI1ne, nI0eq, Classical.not_not, eq_self, reduceCtorEq]
          rw [turnB_s σ y i] at hm
          refine inner i _ _ hi (fun g => ?_) (fun g1 g2 => ?_) (fun g1 u hu g2 => ?_) ?_
          · have c1 : ¬ (y ≤ σ i ∧ (turnB σ y i = 64 ∨ popN 20 i < popN 20 (turnB σ y i))) := fun z => absurd z.1 (by omega)
            rw [if_neg c1] at hm; exact hm
          · rw [tB i (by omega)] at g2
            have c1 : y ≤ σ i ∧ (turnB σ y i = 64 ∨ popN 20 i < popN 20 (turnB σ y i)) := ⟨g1, Or.inl g2⟩
            rw [if_pos c1, tI_ne (show ¬ i = 64 from by omega)] at hm
            exact hm
          · have e0 : ¬ turnB σ y i = 64 := by
              intro z
              have := (tB i (by omega)).mpr z
              rw [this] at g2
              have n := n5 u hu
              rw [← g2] at n
              exact n.mp rfl
            have e1 : turnB σ y i = u := by
              rcases turnB_lt σ y i (by omega) with z | z
              · exact absurd z e0
              · rw [tI, if_neg e0, nI_nateq (by omega) (by omega)] at g2
                exact g2
            by_cases z : popN 20 u ≤ popN 20 i
            · have c1 : ¬ (y ≤ σ i ∧ (turnB σ y i = 64 ∨ popN 20 i < popN 20 (turnB σ y i))) := by rw [e1]; omega
              rw [if_neg c1, e1, tI_ne (show ¬ u = 64 from by omega)] at hm
              rw [if_pos z]; exact hm
            · have c1 : y ≤ σ i ∧ (turnB σ y i = 64 ∨ popN 20 i < popN 20 (turnB σ y i)) := ⟨g1, Or.inr (by rw [e1]; omega)⟩
              rw [if_pos c1, tI_ne (show ¬ i = 64 from by omega)] at hm
              rw [if_neg z]; exact hm
          · rcases turnB_lt σ y i (by omega) with z | z
            · exact Or.inl ((tB i (by omega)).mpr z)
            · exact Or.inr ⟨turnB σ y i, by omega, by rw [tI_ne (show ¬ turnB σ y i = 64 from by omega)]⟩
        · intro m
          rw [wl_X12_turn_34]
          simp (disch := omega) only [wb_X12_turn_34, nI_natle, Nat.le_refl, not_true_eq_false, not_false_eq_true, forall_const, true_implies, false_implies, implies_true, and_true, true_and, and_false, false_and, or_true, true_or, or_false, false_or, forall_eq, ↓reduceIte, ne_eq, nI1ne, nI0eq, Classical.not_not, eq_self, reduceCtorEq]
          exact hR
      exact q
