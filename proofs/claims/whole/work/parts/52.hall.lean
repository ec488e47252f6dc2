theorem t_bits : ∀ t, t < 256 → ∀ f, f < 8 → ((nI t &&& (nI 1 <<< (nI f &&& 31)) = 0) ↔ ((nI t >>> (nI f &&& 31)) &&& nI 1) = nI 0) ∧ (((nI t ^^^ (-1)) &&& (nI 1 <<< (nI f &&& 31)) = 0) ↔ ((nI t >>> (nI f &&& 31)) &&& nI 1) = nI 1) ∧ (((nI t >>> (nI f &&& 31)) &&& nI 1) = nI 0 ∨ ((nI t >>> (nI f &&& 31)) &&& nI 1) = nI 1) := by decide +kernel
theorem or_0 (a b : Int32) : (a ||| b = 0) ↔ a = 0 ∧ b = 0 := by
  constructor
  · intro h
    have h2 := congrArg Int32.toBitVec h
    simp only [Int32.toBitVec_or] at h2
    constructor
    · apply Int32.toBitVec_inj.mp
      apply BitVec.eq_of_getLsbD_eq
      intro i hi
      have := congrArg (fun x => BitVec.getLsbD x i) h2
      simp at this ⊢
      exact this.1
    · apply Int32.toBitVec_inj.mp
      apply BitVec.eq_of_getLsbD_eq
      intro i hi
      have := congrArg (fun x => BitVec.getLsbD x i) h2
      simp at this ⊢
      exact this.2
  · rintro ⟨rfl, rfl⟩
    decide
theorem and_or32 (a b c : Int32) : a &&& (b ||| c) = (a &&& b) ||| (a &&& c) := by
  apply Int32.toBitVec_inj.mp
  simp only [Int32.toBitVec_and, Int32.toBitVec_or]
  apply BitVec.eq_of_getLsbD_eq
  intro i hi
  simp [Bool.and_or_distrib_left]
theorem and_0r (a : Int32) : a &&& nI 0 = 0 := by
  rw [show nI 0 = (0 : Int32) from by decide, Int32.and_zero]
theorem or_0r (a : Int32) : a ||| nI 0 = a := by
  rw [show nI 0 = (0 : Int32) from by decide, Int32.or_zero]
def cntF (f : Nat → Bool) : Nat → Nat
  | 0 => 0
  | i + 1 => cntF f i + if f i then 1 else 0
theorem cntF_le (f : Nat → Bool) (i : Nat) : cntF f i ≤ i := by
  induction i with
  | zero => exact Nat.le_refl 0
  | succ i ih =>
    unfold cntF
    split <;> omega
theorem cntF_congr {f g : Nat → Bool} {i : Nat} (h : ∀ j, j < i → f j = g j) : cntF f i = cntF g i := by
  induction i with
  | zero => rfl
  | succ i ih =>
    unfold cntF
    rw [ih (fun j hj => h j (by omega)), h i (by omega)]
def sayF (p : Int32) (sd ss sn : Nat → Int32) (t : Nat) (i : Nat) : Bool := decide (¬ p < sd i) && decide (¬ ((nI t &&& ss i) ||| ((nI t ^^^ (-1)) &&& sn i)) = 0)
theorem trueSayings {p : Int32} {sd ss sn : Nat → Int32} {t c : Nat} {Q : Int32 → Prop} (hc : c ≤ 20) (hQ : Q (nI (cntF (sayF p sd ss sn t) c))) : wp_X3_trueSayings p (nI t) sd ss sn (nI c) Q := by
  unfold wp_X3_trueSayings
  refine run2 (F := wl_X3_trueSayings_5 p (nI t) sd ss sn (nI c) Q) c (fun i => nI (cntF (sayF p sd ss sn t) i)) (fun i => nI i) ?_ ?_
  · intro i hi m hm
    rw [wl_X3_trueSayings_5]
    simp (disch := omega) only [wb_X3_trueSayings_5, nI_natle, show ¬ c ≤ i from by omega, nI_clamp, vpin, nI_add, not_true_eq_false, not_false_eq_true, forall_const, true_implies, false_implies, implies_true, and_true, true_and, and_false, false_and, or_true, true_or, or_false, false_or, forall_eq, ↓reduceIte, ne_eq, nI1ne, nI0eq, Classical.not_not, eq_self, reduceCtorEq]
    have e : (if p < sd i then nI (cntF (sayF p sd ss sn t) i) else if ((nI t &&& ss i) ||| ((nI t ^^^ (-1)) &&& sn i)) = 0 then nI (cntF (sayF p sd ss sn t) i) else nI (cntF (sayF p sd ss sn t) i + 1)) = nI (cntF (sayF p sd ss sn t) (i + 1)) := by
      show _ = nI (cntF (sayF p sd ss sn t) i + if sayF p sd ss sn t i then 1 else 0)
      by_cases h1 : p < sd i
      · simp only [sayF, h1, not_true_eq_false, not_false_eq_true, forall_const, true_implies, false_implies, implies_true, and_true, true_and, and_false, false_and, or_true, true_or, or_false, false_or, forall_eq, ↓reduceIte, ne_eq, nI1ne, nI0eq, Classical.not_not, eq_self, reduceCtorEq, decide_true, decide_false, Bool.true_and, Bool.and_true, Bool.and_false, Bool.false_and, Bool.false_eq_true, Bool.true_or, Bool.or_true, Bool.or_false, Bool.false_or, Bool.not_true, Bool.not_false, Nat.add_zero]
      · by_cases h2 : ((nI t &&& ss i) ||| ((nI t ^^^ (-1)) &&& sn i)) = 0
        · simp only [sayF, h1, h2, not_true_eq_false, not_false_eq_true, forall_const, true_implies, false_implies, implies_true, and_true, true_and, and_false, false_and, or_true, true_or, or_false, false_or, forall_eq, ↓reduceIte, ne_eq, nI1ne, nI0eq, Classical.not_not, eq_self, reduceCtorEq, decide_true, decide_false, Bool.true_and, Bool.and_true, Bool.and_false, Bool.false_and, Bool.false_eq_true, Bool.true_or, Bool.or_true, Bool.or_false, Bool.false_or, Bool.not_true, Bool.not_false, Nat.add_zero]
        · simp only [sayF, h1, h2, not_true_eq_false, not_false_eq_true, forall_const, true_implies, false_implies, implies_true, and_true, true_and, and_false, false_and, or_true, true_or, or_false, false_or, forall_eq, ↓reduceIte, ne_eq, nI1ne, nI0eq, Classical.not_not, eq_self, reduceCtorEq, decide_true, decide_false, Bool.true_and, Bool.and_true, Bool.and_false, Bool.false_and, Bool.false_eq_true, Bool.true_or, Bool.or_true, Bool.or_false, Bool.false_or, Bool.not_true, Bool.not_false, Nat.add_zero]
    rw [e]
    exact hm
  · intro m
    rw [wl_X3_trueSayings_5]
    simp (disch := omega) only [wb_X3_trueSayings_5, nI_natle, Nat.le_refl, not_true_eq_false, not_false_eq_true, forall_const, true_implies, false_implies, implies_true, and_true, true_and, and_false, false_and, or_true, true_or, or_false, false_or, forall_eq, ↓reduceIte, ne_eq, nI1ne, nI0eq, Classical.not_not, eq_self, reduceCtorEq]
    exact hQ
def bm (f : Nat → Nat) : Nat → Nat × Nat
  | 0 => (0, f 0)
  | k + 1 => if f (k + 1) ≤ (bm f k).2 then bm f k else (k + 1, f (k + 1))
theorem bm_2 (f : Nat → Nat) (k : Nat) : (bm f k).2 = f (bm f k).1 := by
  induction k with
  | zero => rfl
  | succ k ih =>
    unfold bm
    split
    · exact ih
    · rfl
theorem bm_1 (f : Nat → Nat) (k : Nat) : (bm f k).1 ≤ k := by
  induction k with
  | zero => exact Nat.le_refl 0
  | succ k ih =>
    unfold bm
    split
    · exact Nat.le_succ_of_le ih
    · exact Nat.le_refl _
theorem bestThings {p : Int32} {sd ss sn : Nat → Int32} {c : Nat} {Q : Int32 → Prop} (hc : c ≤ 20) (hQ : Q (nI (bm (fun t => cntF (sayF p sd ss sn t) c) 255).1)) : wp_X3_bestThings p sd ss sn (nI c) Q := by
  unfold wp_X3_bestThings
  refine trueSayings hc ?_
  refine run3 (F := wl_X3_bestThings_12 p sd ss sn (nI c) Q) 255 (fun i => nI (bm (fun t => cntF (sayF p sd ss sn t) c) i).1) (fun i => nI (bm (fun t => cntF (sayF p sd ss sn t) c) i).2) (fun i => nI (i + 1)) ?_ ?_
  · intro i hi m hm
    rw [wl_X3_bestThings_12]
    simp (disch := omega) only [wb_X3_bestThings_12, nI_natle, show ¬ 256 ≤ i + 1 from by omega, nI_add, not_true_eq_false, not_false_eq_true, forall_const, true_implies, false_implies, implies_true, and_true, true_and, and_false, false_and, or_true, true_or, or_false, false_or, forall_eq, ↓reduceIte, ne_eq, nI1ne, nI0eq, Classical.not_not, eq_self, reduceCtorEq]
    refine trueSayings hc ?_
    have b1 := cntF_le (sayF p sd ss sn (i + 1)) c
    have b2 : (bm (fun t => cntF (sayF p sd ss sn t) c) i).2 ≤ 20 := by
      rw [bm_2]
      exact Nat.le_trans (cntF_le _ c) hc
    rw [bm] at hm
    simp (disch := omega) only [nI_natle, not_true_eq_false, not_false_eq_true, forall_const, true_implies, false_implies, implies_true, and_true, true_and, and_false, false_and, or_true, true_or, or_false, false_or, forall_eq, ↓reduceIte, ne_eq, nI1ne, nI0eq, Classical.not_not, eq_self, reduceCtorEq]
    by_cases q : cntF (sayF p sd ss sn (i + 1)) c ≤ (bm (fun t => cntF (sayF p sd ss sn t) c) i).2
    · simp only [q, not_true_eq_false, not_false_eq_true, forall_const, true_implies, false_implies, implies_true, and_true, true_and, and_false, false_and, or_true, true_or, or_false, false_or, forall_eq, ↓reduceIte, ne_eq, nI1ne, nI0eq, Classical.not_not, eq_self, reduceCtorEq] at hm ⊢
      exact hm
    · simp only [q, not_true_eq_false, not_false_eq_true, forall_const, true_implies, false_implies, implies_true, and_true, true_and, and_false, false_and, or_true, true_or, or_false, false_or, forall_eq, ↓reduceIte, ne_eq, nI1ne, nI0eq, Classical.not_not, eq_self, reduceCtorEq] at hm ⊢
      exact hm
  · intro m
    rw [wl_X3_bestThings_12]
    simp (disch := omega) only [wb_X3_bestThings_12, nI_natle, Nat.reduceAdd, Nat.le_refl, not_true_eq_false, not_false_eq_true, forall_const, true_implies, false_implies, implies_true, and_true, true_and, and_false, false_and, or_true, true_or, or_false, false_or, forall_eq, ↓reduceIte, ne_eq, nI1ne, nI0eq, Classical.not_not, eq_self, reduceCtorEq]
    exact hQ
theorem okTrue {s : Nat → Int32} {i : Nat} {x : Int32} (hi : i < 20) : ok_X12_isTrue s (nI i) x := by
  unfold ok_X12_isTrue
  simp (disch := omega) only [nI_add, nI_clamp, vpin, not_true_eq_false, not_false_eq_true, forall_const, true_implies, false_implies, implies_true, and_true, true_and, and_false, false_and, or_true, true_or, or_false, false_or, forall_eq, ↓reduceIte, ne_eq, nI1ne, nI0eq, Classical.not_not, eq_self, reduceCtorEq]
theorem core_hold {vo sd ss sn : Nat → Int32} {sc p1 p2 : Int32} {s : Nat → Int32} {R : Prop} (h : IHall vo sd ss sn sc s) (hR : R) : wp_X11_hold p1 p2 sd ss sn sc (fun r => wp_X12_hold p1 p2 s (fun r' => r = r' ∧ R)) := by
  obtain ⟨h3, c, hc, h4, h5, h6⟩ := h
  subst h4
  rcases in_cases p2 0 1 (by decide) (by decide) with ⟨h1, -⟩ | ⟨h1, y, hy1, hy2, rfl⟩
  · simp only [wp_X11_hold, wp_X12_hold, within_eq, h1, not_true_eq_false, not_false_eq_true, forall_const, true_implies, false_implies, implies_true, and_true, true_and, and_false, false_and, or_true, true_or, or_false, false_or, forall_eq, ↓reduceIte, ne_eq, nI1ne, nI0eq, Classical.not_not, eq_self, reduceCtorEq]
    exact hR
  · rcases in_cases p1 0 999 (by decide) (by decide) with ⟨h2, -⟩ | ⟨h2, x, hx1, hx2, rfl⟩
    · simp only [wp_X11_hold, wp_X12_hold, f_X11_isDay, f_X12_isDay, within_eq, h1, h2, not_true_eq_false, not_false_eq_true, forall_const, true_implies, false_implies, implies_true, and_true, true_and, and_false, false_and, or_true, true_or, or_false, false_or, forall_eq, ↓reduceIte, ne_eq, nI1ne, nI0eq, Classical.not_not, eq_self, reduceCtorEq]
      exact hR
    · have model : ∀ K : Int32 → Prop, K (if nI y = 0 then nI (bm (fun t => cntF (sayF (nI x) sd ss sn t) c) 255).2 else nI (bm (fun t => cntF (sayF (nI x) sd ss sn t) c) 255).1) → ∃ n, wl_X12_hold_29 (nI x) (nI y) s K n (-1) (nI 0) (nI 0) := by
        intro K hK
        generalize hf : (fun t => cntF (sayF (nI x) sd ss sn t) c) = f at hK ⊢
        have inner : ∀ (t : Nat) (v3 v4 : Int32) (L : Int32 → Int32 → Int32 → Prop), t < 256 → L (if nI (f t) ≤ v3 then v3 else nI (f t)) (if nI (f t) ≤ v3 then v4 else nI t) (nI (t + 1)) → ∃ n, wl_X12_hold_43 (nI x) s v3 v4 (nI t) L n (nI 0) (nI 0) := by
          intro t v3 v4 L ht hL
          refine run2 (F := wl_X12_hold_43 (nI x) s v3 v4 (nI t) L) c (fun i => nI (cntF (sayF (nI x) sd ss sn t) i)) (fun i => nI i) ?_ ?_
          · intro i hi m hm
            rw [wl_X12_hold_43]
            have e : (if nI x < s (460 + i) then nI 0 else if f_X12_isTrue s (nI i) (nI t) = 0 then nI 0 else nI 1) = nI (if sayF (nI x) sd ss sn t i then 1 else 0) := by
              unfold sayF
              rw [(h6 i hi).1]
              have q := (h6 i hi).2.2 t ht
              by_cases g1 : nI x < s (460 + i)
              · simp only [g1, not_true_eq_false, not_false_eq_true, forall_const, true_implies, false_implies, implies_true, and_true, true_and, and_false, false_and, or_true, true_or, or_false, false_or, forall_eq, ↓reduceIte, ne_eq, nI1ne, nI0eq, Classical.not_not, eq_self, reduceCtorEq, decide_true, decide_false, Bool.true_and, Bool.and_true, Bool.and_false, Bool.false_and, Bool.false_eq_true, Bool.true_or, Bool.or_true, Bool.or_false, Bool.false_or, Bool.not_true, Bool.not_false]
              · by_cases g2 : f_X12_isTrue s (nI i) (nI t) = 0
                · have := q.mpr g2
                  simp only [g1, g2, this, not_true_eq_false, not_false_eq_true, forall_const, true_implies, false_implies, implies_true, and_true, true_and, and_false, false_and, or_true, true_or, or_false, false_or, forall_eq, ↓reduceIte, ne_eq, nI1ne, nI0eq, Classical.not_not, eq_self, reduceCtorEq, decide_true, decide_false, Bool.true_and, Bool.and_true, Bool.and_false, Bool.false_and, Bool.false_eq_true, Bool.true_or, Bool.or_true, Bool.or_false, Bool.false_or, Bool.not_true, Bool.not_false]
                · have := eq_false (fun z => g2 (q.mp z))
                  simp only [g1, g2, this, not_true_eq_false, not_false_eq_true, forall_const, true_implies, false_implies, implies_true, and_true, true_and, and_false, false_and, or_true, true_or, or_false, false_or, forall_eq, ↓reduceIte, ne_eq, nI1ne, nI0eq, Classical.not_not, eq_self, reduceCtorEq, decide_true, decide_false, Bool.true_and, Bool.and_true, Bool.and_false, Bool.false_and, Bool.false_eq_true, Bool.true_or, Bool.or_true, Bool.or_false, Bool.false_or, Bool.not_true, Bool.not_false]
            simp (disch := omega) only [wb_X12_hold_43, h5, nI_natle, show ¬ c ≤ i from by omega, nI_add, nI_clamp, vpin, eq_true (okTrue (s := s) (x := nI t) (show i < 20 by omega)), e, not_true_eq_false, not_false_eq_true, forall_const, true_implies, false_implies, implies_true, and_true, true_and, and_false, false_and, or_true, true_or, or_false, false_or, forall_eq, ↓reduceIte, ne_eq, nI1ne, nI0eq, Classical.not_not, eq_self, reduceCtorEq]
            exact hm
          · intro m
            rw [wl_X12_hold_43]
            simp (disch := omega) only [wb_X12_hold_43, h5, nI_natle, Nat.le_refl, nI_add, not_true_eq_false, not_false_eq_true, forall_const, true_implies, false_implies, implies_true, and_true, true_and, and_false, false_and, or_true, true_or, or_false, false_or, forall_eq, ↓reduceIte, ne_eq, nI1ne, nI0eq, Classical.not_not, eq_self, reduceCtorEq]
            rw [← hf] at hL
            exact hL
        have q : ∃ n, wl_X12_hold_29 (nI x) (nI y) s K n ((fun i => if i = 0 then (-1 : Int32) else nI (bm f (i - 1)).2) 0) ((fun i => nI (bm f (i - 1)).1) 0) ((fun i => nI i) 0) := by
          refine run3 (F := wl_X12_hold_29 (nI x) (nI y) s K) 256 (fun i => if i = 0 then (-1 : Int32) else nI (bm f (i - 1)).2) (fun i => nI (bm f (i - 1)).1) (fun i => nI i) ?_ ?_
          · intro i hi m hm
            rw [wl_X12_hold_29]
            simp (disch := omega) only [wb_X12_hold_29, nI_natle, show ¬ 256 ≤ i from by omega, not_true_eq_false, not_false_eq_true, forall_const, true_implies, false_implies, implies_true, and_true, true_and, and_false, false_and, or_true, true_or, or_false, false_or, forall_eq, ↓reduceIte, ne_eq, nI1ne, nI0eq, Classical.not_not, eq_self, reduceCtorEq]
            refine inner i _ _ _ hi ?_
            have b1 : ∀ k, f k ≤ 20 := fun k => by rw [← hf]; exact Nat.le_trans (cntF_le _ c) hc
            by_cases g : i = 0
            · subst g
              have b := b1 0
              have n1 : ¬ nI (f 0) ≤ -1 := by
                rw [Int32.le_iff_toInt_le, nI_toInt (by omega)]
                have q9 : (-1 : Int32).toInt = -1 := by decide
                omega
              simp only [n1, Nat.zero_add, Nat.one_ne_zero, Nat.sub_self, not_true_eq_false, not_false_eq_true, forall_const, true_implies, false_implies, implies_true, and_true, true_and, and_false, false_and, or_true, true_or, or_false, false_or, forall_eq, ↓reduceIte, ne_eq, nI1ne, nI0eq, Classical.not_not, eq_self, reduceCtorEq] at hm ⊢
              exact hm
            · obtain ⟨j, rfl⟩ : ∃ j, i = j + 1 := ⟨i - 1, by omega⟩
              have b2 : (bm f j).2 ≤ 20 := by rw [bm_2]; exact b1 _
              have b3 := b1 (j + 1)
              simp (disch := omega) only [Nat.add_sub_cancel, Nat.add_eq_zero_iff, Nat.one_ne_zero, nI_natle, bm, not_true_eq_false, not_false_eq_true, forall_const, true_implies, false_implies, implies_true, and_true, true_and, and_false, false_and, or_true, true_or, or_false, false_or, forall_eq, ↓reduceIte, ne_eq, nI1ne, nI0eq, Classical.not_not, eq_self, reduceCtorEq] at hm ⊢
              by_cases w : f (j + 1) ≤ (bm f j).2
              · simp only [w, not_true_eq_false, not_false_eq_true, forall_const, true_implies, false_implies, implies_true, and_true, true_and, and_false, false_and, or_true, true_or, or_false, false_or, forall_eq, ↓reduceIte, ne_eq, nI1ne, nI0eq, Classical.not_not, eq_self, reduceCtorEq] at hm ⊢
                exact hm
              · simp only [w, not_true_eq_false, not_false_eq_true, forall_const, true_implies, false_implies, implies_true, and_true, true_and, and_false, false_and, or_true, true_or, or_false, false_or, forall_eq, ↓reduceIte, ne_eq, nI1ne, nI0eq, Classical.not_not, eq_self, reduceCtorEq] at hm ⊢
                exact hm
          · intro m
            rw [wl_X12_hold_29]
            simp (disch := omega) only [wb_X12_hold_29, nI_natle, Nat.le_refl, Nat.reduceSub, Nat.reduceEqDiff, not_true_eq_false, not_false_eq_true, forall_const, true_implies, false_implies, implies_true, and_true, true_and, and_false, false_and, or_true, true_or, or_false, false_or, forall_eq, ↓reduceIte, ne_eq, nI1ne, nI0eq, Classical.not_not, eq_self, reduceCtorEq]
            exact hK
        exact q
      simp only [wp_X11_hold, wp_X12_hold, f_X11_isDay, f_X12_isDay, within_eq, h1, h2, not_true_eq_false, not_false_eq_true, forall_const, true_implies, false_implies, implies_true, and_true, true_and, and_false, false_and, or_true, true_or, or_false, false_or, forall_eq, ↓reduceIte, ne_eq, nI1ne, nI0eq, Classical.not_not, eq_self, reduceCtorEq]
      refine bestThings hc ?_
      have hy : y = 0 ∨ y = 1 := by omega
      rcases hy with rfl | rfl
      · simp only [not_true_eq_false, not_false_eq_true, forall_const, true_implies, false_implies, implies_true, and_true, true_and, and_false, false_and, or_true, true_or, or_false, false_or, forall_eq, ↓reduceIte, ne_eq, nI1ne, nI0eq, Classical.not_not, eq_self, reduceCtorEq]
        refine trueSayings hc ?_
        refine model _ ?_
        simp only [bm_2, not_true_eq_false, not_false_eq_true, forall_const, true_implies, false_implies, implies_true, and_true, true_and, and_false, false_and, or_true, true_or, or_false, false_or, forall_eq, ↓reduceIte, ne_eq, nI1ne, nI0eq, Classical.not_not, eq_self, reduceCtorEq]
        exact hR
      · simp only [not_true_eq_false, not_false_eq_true, forall_const, true_implies, false_implies, implies_true, and_true, true_and, and_false, false_and, or_true, true_or, or_false, false_or, forall_eq, ↓reduceIte, ne_eq, nI1ne, nI0eq, Classical.not_not, eq_self, reduceCtorEq]
        refine model _ ?_
        simp only [not_true_eq_false, not_false_eq_true, forall_const, true_implies, false_implies, implies_true, and_true, true_and, and_false, false_and, or_true, true_or, or_false, false_or, forall_eq, ↓reduceIte, ne_eq, nI1ne, nI0eq, Classical.not_not, eq_self, reduceCtorEq]
        exact hR

theorem core_say {vo sd ss sn : Nat → Int32} {sc p1 p2 p3 p4 p5 p6 : Int32} {s : Nat → Int32} {R : (Nat → Int32) → (Nat → Int32) → (Nat → Int32) → Int32 → (Nat → Int32) → Prop} (hz4 : p4 = nI 0 ∨ p4 = nI 1) (hz6 : p6 = nI 0 ∨ p6 = nI 1) (h : IHall vo sd ss sn sc s) (hR : ∀ d' s' n' c' v, IHall vo d' s' n' c' v → outS idxH s v → R d' s' n' c' v) : wp_X11_say p1 p2 p3 p4 p5 p6 sd ss sn sc (fun r d' s' n' c' => wp_X12_say p1 p2 p3 p4 p5 p6 s (fun r' v => r = r' ∧ R d' s' n' c' v)) := by
  have h0 := hR sd ss sn sc s h (fun _ _ => rfl)
  obtain ⟨h3, c, hc, h4, h5, h6⟩ := h
  subst h4
  by_cases w : f_X12_in p1 (nI 0) (nI 7) = 0 ∨ (f_X12_in p3 (nI 0) (nI 7) = 0 ∨ f_X12_in p5 (-1) (nI 7) = 0)
  · simp only [wp_X11_say, wp_X12_say, f_X11_isPerson, f_X12_isPerson, within_eq, eq_true w, not_true_eq_false, not_false_eq_true, forall_const, true_implies, false_implies, implies_true, and_true, true_and, and_false, false_and, or_true, true_or, or_false, false_or, forall_eq, ↓reduceIte, ne_eq, nI1ne, nI0eq, Classical.not_not, eq_self, reduceCtorEq]
    exact h0
  · rcases in_cases p2 0 999 (by decide) (by decide) with ⟨h2, -⟩ | ⟨h2, x, hx1, hx2, rfl⟩
    · simp only [wp_X11_say, wp_X12_say, f_X11_isPerson, f_X12_isPerson, f_X11_isDay, f_X12_isDay, within_eq, eq_false w, h2, not_true_eq_false, not_false_eq_true, forall_const, true_implies, false_implies, implies_true, and_true, true_and, and_false, false_and, or_true, true_or, or_false, false_or, forall_eq, ↓reduceIte, ne_eq, nI1ne, nI0eq, Classical.not_not, eq_self, reduceCtorEq]
      exact h0
    · by_cases g : c = 20
      · subst g
        simp (disch := omega) only [wp_X11_say, wp_X12_say, f_X11_isPerson, f_X12_isPerson, f_X11_isDay, f_X12_isDay, within_eq, eq_false w, h2, h5, nI_natlt, Nat.lt_irrefl, not_true_eq_false, not_false_eq_true, forall_const, true_implies, false_implies, implies_true, and_true, true_and, and_false, false_and, or_true, true_or, or_false, false_or, forall_eq, ↓reduceIte, ne_eq, nI1ne, nI0eq, Classical.not_not, eq_self, reduceCtorEq]
        exact h0
      · have w3 : ∃ f, f < 8 ∧ p3 = nI f := by
          rcases in_cases p3 0 7 (by decide) (by decide) with ⟨k1, -⟩ | ⟨-, f, k1, k2, k3⟩
          · exact absurd (Or.inr (Or.inl (k1.trans (by decide)))) w
          · exact ⟨f, by omega, k3⟩
        have w5 : p5 = -1 ∨ ∃ f, f < 8 ∧ p5 = nI f := by
          by_cases q : p5 = -1
          · exact Or.inl q
          · right
            have w' : ¬ f_X12_in p5 (-1) (nI 7) = 0 := fun z => w (Or.inr (Or.inr z))
            unfold f_X12_in at w'
            by_cases q1 : p5 < -1
            · rw [if_pos q1] at w'; exact absurd nI0eq.mpr (fun z => w' (z trivial))
            · rw [if_neg q1] at w'
              by_cases q2 : nI 7 < p5
              · rw [if_pos q2] at w'; exact absurd nI0eq.mpr (fun z => w' (z trivial))
              · have q3 : ¬ p5 < 0 := by
                  intro z
                  rw [Int32.lt_iff_toInt_lt] at q1 z
                  have e1 : (-1 : Int32).toInt = -1 := by decide
                  have e0 : (0 : Int32).toInt = 0 := by decide
                  apply q
                  apply Int32.toInt_inj.mp
                  omega
                obtain ⟨f, hf, rfl⟩ := nI_of q3
                rw [nI_natlt (by omega) hf] at q2
                exact ⟨f, by omega, rfl⟩
        obtain ⟨f, hf, rfl⟩ := w3
        simp (disch := omega) only [wp_X11_say, wp_X12_say, wp_X3_addSaying, f_X11_isPerson, f_X12_isPerson, f_X11_isDay, f_X12_isDay, within_eq, eq_false w, h2, h5, nI_natlt, nI_nateq, g, show c < 20 from by omega, nI_add, nI_clamp, vpin, updne, upde, not_true_eq_false, not_false_eq_true, forall_const, true_implies, false_implies, implies_true, and_true, true_and, and_false, false_and, or_true, true_or, or_false, false_or, forall_eq, ↓reduceIte, ne_eq, nI1ne, nI0eq, Classical.not_not, eq_self, reduceCtorEq]
        have fin : ∀ S N y4 y6 : Int32, (∀ t, t < 256 → ((((nI t &&& S) ||| ((nI t ^^^ (-1)) &&& N)) = 0) ↔ ¬ (((nI t >>> (nI f &&& 31)) &&& nI 1) = y4) ∧ (p5 = -1 ∨ ¬ (((nI t >>> (p5 &&& 31)) &&& nI 1) = y6)))) → R (upd sd c (nI x)) (upd ss c S) (upd sn c N) (nI (c + 1)) (upd (upd (upd (upd (upd (upd s (460 + c) (nI x)) (480 + c) (nI f)) (500 + c) y4) (520 + c) p5) (540 + c) y6) 7 (nI (c + 1))) := by
          intro S N y4 y6 hS
          refine hR _ _ _ _ _ ⟨fun i hi => ?_, c + 1, by omega, rfl, upde, fun i hi => ?_⟩ (fun j hj => ?_)
          · simp (disch := omega) only [updne]; exact h3 i hi
          · by_cases q : i = c
            · subst q
              simp (disch := omega) only [upde, updne, not_true_eq_false, not_false_eq_true, forall_const, true_implies, false_implies, implies_true, and_true, true_and, and_false, false_and, or_true, true_or, or_false, false_or, forall_eq, ↓reduceIte, ne_eq, nI1ne, nI0eq, Classical.not_not, eq_self, reduceCtorEq]
              refine ⟨⟨x, by omega, rfl⟩, fun t ht => ?_⟩
              rw [hS t ht]
              unfold f_X12_isTrue
              simp (disch := omega) only [nI_add, nI_clamp, upde, updne, not_true_eq_false, not_false_eq_true, forall_const, true_implies, false_implies, implies_true, and_true, true_and, and_false, false_and, or_true, true_or, or_false, false_or, forall_eq, ↓reduceIte, ne_eq, nI1ne, nI0eq, Classical.not_not, eq_self, reduceCtorEq]
              by_cases z1 : ((nI t >>> (nI f &&& 31)) &&& nI 1) = y4
              · simp only [z1, not_true_eq_false, not_false_eq_true, forall_const, true_implies, false_implies, implies_true, and_true, true_and, and_false, false_and, or_true, true_or, or_false, false_or, forall_eq, ↓reduceIte, ne_eq, nI1ne, nI0eq, Classical.not_not, eq_self, reduceCtorEq]
              · by_cases z2 : p5 = -1
                · simp only [z1, z2, not_true_eq_false, not_false_eq_true, forall_const, true_implies, false_implies, implies_true, and_true, true_and, and_false, false_and, or_true, true_or, or_false, false_or, forall_eq, ↓reduceIte, ne_eq, nI1ne, nI0eq, Classical.not_not, eq_self, reduceCtorEq]
                · by_cases z3 : ((nI t >>> (p5 &&& 31)) &&& nI 1) = y6
                  · simp only [z1, z2, z3, not_true_eq_false, not_false_eq_true, forall_const, true_implies, false_implies, implies_true, and_true, true_and, and_false, false_and, or_true, true_or, or_false, false_or, forall_eq, ↓reduceIte, ne_eq, nI1ne, nI0eq, Classical.not_not, eq_self, reduceCtorEq]
                  · simp only [z1, z2, z3, not_true_eq_false, not_false_eq_true, forall_const, true_implies, false_implies, implies_true, and_true, true_and, and_false, false_and, or_true, true_or, or_false, false_or, forall_eq, ↓reduceIte, ne_eq, nI1ne, nI0eq, Classical.not_not, eq_self, reduceCtorEq]
            · have e : ∀ y, f_X12_isTrue (upd (upd (upd (upd (upd (upd s (460 + c) (nI x)) (480 + c) (nI f)) (500 + c) y4) (520 + c) p5) (540 + c) y6) 7 (nI (c + 1))) (nI i) y = f_X12_isTrue s (nI i) y := by
                intro y
                unfold f_X12_isTrue
                simp (disch := omega) only [nI_add, nI_clamp, updne]
              simp (disch := omega) only [updne, e]
              exact h6 i (by omega)
          · have k : j ≠ 7 ∧ j ≠ 460 + c ∧ j ≠ 480 + c ∧ j ≠ 500 + c ∧ j ≠ 520 + c ∧ j ≠ 540 + c := by
              unfold idxH at hj
              omega
            obtain ⟨k1, k2, k3, k4, k5, k6⟩ := k
            simp only [updne k1, updne k2, updne k3, updne k4, updne k5, updne k6]
        refine fin _ _ _ _ (fun t ht => ?_)
        obtain ⟨a1, a2, a3⟩ := t_bits t ht f hf
        rw [Int32.or_eq_zero_iff, and_or32, and_or32, Int32.or_eq_zero_iff, Int32.or_eq_zero_iff]
        rcases w5 with rfl | ⟨e, he, rfl⟩
        · have n1 : ¬ (0 : Int32) ≤ -1 := by decide
          rcases hz4 with rfl | rfl <;> rcases hz6 with rfl | rfl <;> simp only [n1, and_0r, a1, a2, not_true_eq_false, not_false_eq_true, forall_const, true_implies, false_implies, implies_true, and_true, true_and, and_false, false_and, or_true, true_or, or_false, false_or, forall_eq, ↓reduceIte, ne_eq, nI1ne, nI0eq, Classical.not_not, eq_self, reduceCtorEq] <;> rcases a3 with a3 | a3 <;> simp only [a3, nI1e0, show (nI 0 = nI 1) = False from eq_false (by decide), not_true_eq_false, not_false_eq_true, forall_const, true_implies, false_implies, implies_true, and_true, true_and, and_false, false_and, or_true, true_or, or_false, false_or, forall_eq, ↓reduceIte, ne_eq, nI1ne, nI0eq, Classical.not_not, eq_self, reduceCtorEq]
        · obtain ⟨b1, b2, b3⟩ := t_bits t ht e he
          have n1 : (0 : Int32) ≤ nI e := nI_pos' (by omega)
          have n2 : ¬ nI e = -1 := by
            intro g
            have := congrArg Int32.toInt g
            rw [nI_toInt (by omega)] at this
            have q9 : (-1 : Int32).toInt = -1 := by decide
            omega
          rcases hz4 with rfl | rfl <;> rcases hz6 with rfl | rfl <;> simp only [n1, n2, and_0r, a1, a2, b1, b2, not_true_eq_false, not_false_eq_true, forall_const, true_implies, false_implies, implies_true, and_true, true_and, and_false, false_and, or_true, true_or, or_false, false_or, forall_eq, ↓reduceIte, ne_eq, nI1ne, nI0eq, Classical.not_not, eq_self, reduceCtorEq] <;> rcases a3 with a3 | a3 <;> rcases b3 with b3 | b3 <;> simp only [a3, b3, nI1e0, show (nI 0 = nI 1) = False from eq_false (by decide), not_true_eq_false, not_false_eq_true, forall_const, true_implies, false_implies, implies_true, and_true, true_and, and_false, false_and, or_true, true_or, or_false, false_or, forall_eq, ↓reduceIte, ne_eq, nI1ne, nI0eq, Classical.not_not, eq_self, reduceCtorEq]
