theorem sub_pos32 {a b : Nat} (ha : a < 2 ^ 30) (hb : b < 2 ^ 30) : (0 < nI a - nI b) = (b < a) := by
  apply propext
  rw [Int32.lt_iff_toInt_lt, pk_sub_toInt ha hb]
  have : (0 : Int32).toInt = 0 := by decide
  omega
theorem sub_eq32 {a b : Nat} (ha : a < 2 ^ 30) (hb : b < 2 ^ 30) : (nI a - nI b = 0) = (a = b) := by
  apply propext
  rw [← Int32.toInt_inj, pk_sub_toInt ha hb]
  have : (0 : Int32).toInt = 0 := by decide
  omega
theorem le00 : (nI 0 ≤ 0) = True := eq_true (by decide)
theorem lN_div {a d : Nat} (ha : a < 2 ^ 40) (h0 : 0 < d) (hd : d < 2 ^ 31) : lN a / lN d = lN (a / d) := by
  apply Int64.toInt_inj.mp
  have e : (lN d).toInt = (d : Int) := lN_toInt40 (by omega)
  have hl : a / d ≤ a := Nat.div_le_self a d
  rw [Int64.toInt_div_of_ne_right _ _ (fun z => by rw [z] at e; have : (-1 : Int64).toInt = -1 := by decide
                                                   omega), lN_toInt40 ha, e, lN_toInt40 (by omega)]
  exact (Int.ofNat_tdiv a d).symm
theorem lN_rem {a d : Nat} (ha : a < 2 ^ 40) (h0 : 0 < d) (hd : d < 2 ^ 31) : lN a - lN a / lN d * lN d = lN (a % d) := by
  rw [lN_div ha h0 hd, lN_mul, lN_sub (Nat.div_mul_le_self a d)]
  congr 1
  have := Nat.div_add_mod a d
  rw [Nat.mul_comm] at this
  omega
def shC (a : Nat → Nat) (ch k : Nat) : Nat := if popS a 3 = 0 then ch / 3 else ch * a k / popS a 3
def shR (a : Nat → Nat) (ch k : Nat) : Nat := if popS a 3 = 0 then ch % 3 else ch * a k % popS a 3
theorem pop3 (a : Nat → Nat) : popS a 3 = a 0 + a 1 + a 2 := by
  show 0 + a 0 + a 1 + a 2 = _
  omega
theorem sh_over (a : Nat → Nat) (ch : Nat) : shC a ch 0 + shC a ch 1 + shC a ch 2 ≤ ch ∧ ch ≤ shC a ch 0 + shC a ch 1 + shC a ch 2 + 2 := by
  unfold shC
  by_cases h : popS a 3 = 0
  · simp only [h, ↓reduceIte]; omega
  · simp only [h, ↓reduceIte]
    have e0 := Nat.div_add_mod (ch * a 0) (popS a 3)
    have e1 := Nat.div_add_mod (ch * a 1) (popS a 3)
    have e2 := Nat.div_add_mod (ch * a 2) (popS a 3)
    have l0 := Nat.mod_lt (ch * a 0) (show popS a 3 > 0 by omega)
    have l1 := Nat.mod_lt (ch * a 1) (show popS a 3 > 0 by omega)
    have l2 := Nat.mod_lt (ch * a 2) (show popS a 3 > 0 by omega)
    have sm : ch * a 0 + ch * a 1 + ch * a 2 = popS a 3 * ch := by
      rw [pop3, Nat.mul_comm (a 0 + a 1 + a 2) ch, Nat.mul_add, Nat.mul_add]
    revert e0 e1 e2 l0 l1 l2
    generalize ch * a 0 / popS a 3 = x0
    generalize ch * a 1 / popS a 3 = x1
    generalize ch * a 2 / popS a 3 = x2
    generalize ch * a 0 % popS a 3 = r0
    generalize ch * a 1 % popS a 3 = r1
    generalize ch * a 2 % popS a 3 = r2
    intro e0 e1 e2 l0 l1 l2
    have t : popS a 3 * (x0 + x1 + x2) = popS a 3 * x0 + popS a 3 * x1 + popS a 3 * x2 := by rw [Nat.mul_add, Nat.mul_add]
    constructor
    · apply Classical.byContradiction
      intro g
      have q1 := Nat.mul_le_mul_left (popS a 3) (show ch + 1 ≤ x0 + x1 + x2 by omega)
      have q2 : popS a 3 * (ch + 1) = popS a 3 * ch + popS a 3 := Nat.mul_succ _ _
      omega
    · apply Classical.byContradiction
      intro g
      have q1 := Nat.mul_le_mul_left (popS a 3) (show x0 + x1 + x2 + 3 ≤ ch by omega)
      have q2 : popS a 3 * (x0 + x1 + x2 + 3) = popS a 3 * (x0 + x1 + x2) + popS a 3 * 3 := Nat.mul_add _ _ _
      omega
theorem shR_lt {a : Nat → Nat} {ch : Nat} (h : popS a 3 ≤ 297) (k : Nat) : shR a ch k < 298 := by
  unfold shR
  split
  · omega
  · have := Nat.mod_lt (ch * a k) (show popS a 3 > 0 by omega)
    omega
theorem cls_all {parts : Nat → Int32} {a : Nat → Nat} {Q : Int32 → Prop} (ha : ∀ j, j < 3 → parts j = nI (a j)) (hQ : Q (nI (popS a 3))) : wp_X7_allParts parts Q := by
  unfold wp_X7_allParts
  refine run2 (F := wl_X7_allParts_4 parts Q) 3 (fun k => nI (popS a k)) (fun k => nI k) ?_ ?_
  · intro k hk n ih
    rw [wl_X7_allParts_4]
    simp (disch := omega) only [wb_X7_allParts_4, nI_natle, show ¬ 3 ≤ k from by omega, vpin, nI_clamp, ha k hk, nI_add, not_true_eq_false, not_false_eq_true, forall_const, true_implies, false_implies, implies_true, and_true, true_and, and_false, false_and, or_true, true_or, or_false, false_or, forall_eq, ↓reduceIte, ne_eq, nI1ne, nI0eq, Classical.not_not, eq_self, reduceCtorEq]
    exact ih
  · intro n
    rw [wl_X7_allParts_4]
    simp (disch := omega) only [wb_X7_allParts_4, nI_natle, Nat.le_refl, not_true_eq_false, not_false_eq_true, forall_const, true_implies, false_implies, implies_true, and_true, true_and, and_false, false_and, or_true, true_or, or_false, false_or, forall_eq, ↓reduceIte, ne_eq, nI1ne, nI0eq, Classical.not_not, eq_self, reduceCtorEq]
    exact hQ
theorem pop3_le {parts : Nat → Int32} {a : Nat → Nat} (ha : ∀ j, j < 3 → parts j = nI (a j) ∧ a j ≤ 99) : popS a 3 ≤ 297 := by
  have := (ha 0 (by omega)).2
  have := (ha 1 (by omega)).2
  have := (ha 2 (by omega)).2
  rw [pop3]
  omega
theorem cls_cut {parts : Nat → Int32} {a : Nat → Nat} {ch k : Nat} {Q : Int32 → Prop} (ha : ∀ j, j < 3 → parts j = nI (a j) ∧ a j ≤ 99) (hch : ch ≤ 1186812) (hk : k < 3) (hQ : Q (nI (shC a ch k))) : wp_X7_cut (nI k) parts (nI ch) Q := by
  unfold wp_X7_cut
  refine cls_all (fun j hj => (ha j hj).1) ?_
  have hA := pop3_le ha
  have hm : ch * a k ≤ 1186812 * 99 := Nat.mul_le_mul hch (ha k hk).2
  unfold shC at hQ
  by_cases z : popS a 3 = 0
  · simp only [z, le00, not_true_eq_false, not_false_eq_true, forall_const, true_implies, false_implies, implies_true, and_true, true_and, and_false, false_and, or_true, true_or, or_false, false_or, forall_eq, ↓reduceIte, ne_eq, nI1ne, nI0eq, Classical.not_not, eq_self, reduceCtorEq] at hQ ⊢
    rw [pk_div (by omega) (by omega) (by omega)]
    exact hQ
  · simp (disch := omega) only [nI_nle, nI_ne0, vpin, nI_clamp, (ha k hk).1, nI_mul, pk_div, z, not_true_eq_false, not_false_eq_true, forall_const, true_implies, false_implies, implies_true, and_true, true_and, and_false, false_and, or_true, true_or, or_false, false_or, forall_eq, ↓reduceIte, ne_eq, nI1ne, nI0eq, Classical.not_not, eq_self, reduceCtorEq] at hQ ⊢
    exact hQ
theorem cls_rem {parts : Nat → Int32} {a : Nat → Nat} {ch k : Nat} {Q : Int32 → Prop} (ha : ∀ j, j < 3 → parts j = nI (a j) ∧ a j ≤ 99) (hch : ch ≤ 1186812) (hk : k < 3) (hQ : Q (nI (shR a ch k))) : wp_X7_remainder (nI k) parts (nI ch) Q := by
  unfold wp_X7_remainder
  refine cls_all (fun j hj => (ha j hj).1) ?_
  have hA := pop3_le ha
  have hm : ch * a k ≤ 1186812 * 99 := Nat.mul_le_mul hch (ha k hk).2
  unfold shR at hQ
  by_cases z : popS a 3 = 0
  · simp only [z, le00, not_true_eq_false, not_false_eq_true, forall_const, true_implies, false_implies, implies_true, and_true, true_and, and_false, false_and, or_true, true_or, or_false, false_or, forall_eq, ↓reduceIte, ne_eq, nI1ne, nI0eq, Classical.not_not, eq_self, reduceCtorEq] at hQ ⊢
    rw [pk_rem (by omega) (by omega) (by omega)]
    exact hQ
  · simp only [z, not_true_eq_false, not_false_eq_true, forall_const, true_implies, false_implies, implies_true, and_true, true_and, and_false, false_and, or_true, true_or, or_false, false_or, forall_eq, ↓reduceIte, ne_eq, nI1ne, nI0eq, Classical.not_not, eq_self, reduceCtorEq] at hQ
    simp (disch := omega) only [nI_nle, nI_ne0, vpin, nI_clamp, (ha k hk).1, nI_mul, pk_rem, not_true_eq_false, not_false_eq_true, forall_const, true_implies, false_implies, implies_true, and_true, true_and, and_false, false_and, or_true, true_or, or_false, false_or, forall_eq, ↓reduceIte, ne_eq, nI1ne, nI0eq, Classical.not_not, eq_self, reduceCtorEq]
    exact hQ
/-- side o comes ahead of side p -/
def shB (R : Nat → Nat) (p o : Nat) : Nat := if R p < R o then 1 else if R p = R o then (if o < p then 1 else 0) else 0
theorem shB_spec (R : Nat → Nat) (p o : Nat) : shB R p o = 1 ∧ (R p < R o ∨ R p = R o ∧ o < p) ∨ shB R p o = 0 ∧ ¬ (R p < R o ∨ R p = R o ∧ o < p) := by
  unfold shB
  split
  · omega
  · split
    · split <;> omega
    · omega
theorem cls_ahead {parts : Nat → Int32} {a : Nat → Nat} {ch p : Nat} {Q : Int32 → Prop} (ha : ∀ j, j < 3 → parts j = nI (a j) ∧ a j ≤ 99) (hch : ch ≤ 1186812) (hp : p < 3) (hQ : Q (nI (popS (shB (shR a ch) p) 3))) : wp_X7_aheadOf (nI p) parts (nI ch) Q := by
  unfold wp_X7_aheadOf
  have hA := pop3_le ha
  refine run2 (F := wl_X7_aheadOf_4 (nI p) parts (nI ch) Q) 3 (fun k => nI (popS (shB (shR a ch) p) k)) (fun k => nI k) ?_ ?_
  · intro k hk n ih
    rw [wl_X7_aheadOf_4]
    simp (disch := omega) only [wb_X7_aheadOf_4, nI_natle, show ¬ 3 ≤ k from by omega, not_true_eq_false, not_false_eq_true, forall_const, true_implies, false_implies, implies_true, and_true, true_and, and_false, false_and, or_true, true_or, or_false, false_or, forall_eq, ↓reduceIte, ne_eq, nI1ne, nI0eq, Classical.not_not, eq_self, reduceCtorEq]
    refine cls_rem ha hch hk (cls_rem ha hch hp ?_)
    have b1 := shR_lt (ch := ch) hA k
    have b2 := shR_lt (ch := ch) hA p
    simp (disch := omega) only [sub_pos32, sub_eq32, nI_natle, nI_add, not_true_eq_false, not_false_eq_true, forall_const, true_implies, false_implies, implies_true, and_true, true_and, and_false, false_and, or_true, true_or, or_false, false_or, forall_eq, ↓reduceIte, ne_eq, nI1ne, nI0eq, Classical.not_not, eq_self, reduceCtorEq]
    have e : popS (shB (shR a ch) p) (k + 1) = popS (shB (shR a ch) p) k + shB (shR a ch) p k := rfl
    rw [e] at ih
    unfold shB at ih
    by_cases w1 : shR a ch p < shR a ch k
    · simp only [w1, not_true_eq_false, not_false_eq_true, forall_const, true_implies, false_implies, implies_true, and_true, true_and, and_false, false_and, or_true, true_or, or_false, false_or, forall_eq, ↓reduceIte, ne_eq, nI1ne, nI0eq, Classical.not_not, eq_self, reduceCtorEq] at ih ⊢
      exact ih
    · by_cases w2 : shR a ch k = shR a ch p
      · simp only [w1, w2, Nat.lt_irrefl, not_true_eq_false, not_false_eq_true, forall_const, true_implies, false_implies, implies_true, and_true, true_and, and_false, false_and, or_true, true_or, or_false, false_or, forall_eq, ↓reduceIte, ne_eq, nI1ne, nI0eq, Classical.not_not, eq_self, reduceCtorEq] at ih ⊢
        by_cases w3 : p ≤ k
        · simp only [w3, show ¬ k < p from by omega, Nat.add_zero, not_true_eq_false, not_false_eq_true, forall_const, true_implies, false_implies, implies_true, and_true, true_and, and_false, false_and, or_true, true_or, or_false, false_or, forall_eq, ↓reduceIte, ne_eq, nI1ne, nI0eq, Classical.not_not, eq_self, reduceCtorEq] at ih ⊢
          exact ih
        · simp only [w3, show k < p from by omega, not_true_eq_false, not_false_eq_true, forall_const, true_implies, false_implies, implies_true, and_true, true_and, and_false, false_and, or_true, true_or, or_false, false_or, forall_eq, ↓reduceIte, ne_eq, nI1ne, nI0eq, Classical.not_not, eq_self, reduceCtorEq] at ih ⊢
          exact ih
      · simp only [w1, w2, show ¬ shR a ch p = shR a ch k from fun z => w2 z.symm, Nat.add_zero, not_true_eq_false, not_false_eq_true, forall_const, true_implies, false_implies, implies_true, and_true, true_and, and_false, false_and, or_true, true_or, or_false, false_or, forall_eq, ↓reduceIte, ne_eq, nI1ne, nI0eq, Classical.not_not, eq_self, reduceCtorEq] at ih ⊢
        exact ih
  · intro n
    rw [wl_X7_aheadOf_4]
    simp (disch := omega) only [wb_X7_aheadOf_4, nI_natle, Nat.le_refl, not_true_eq_false, not_false_eq_true, forall_const, true_implies, false_implies, implies_true, and_true, true_and, and_false, false_and, or_true, true_or, or_false, false_or, forall_eq, ↓reduceIte, ne_eq, nI1ne, nI0eq, Classical.not_not, eq_self, reduceCtorEq]
    exact hQ
def shO (a : Nat → Nat) (ch : Nat) : Nat := ch - (shC a ch 0 + shC a ch 1 + shC a ch 2)
def shN (a : Nat → Nat) (ch j : Nat) : Int32 := nI (shC a ch j) + nI (if popS (shB (shR a ch) j) 3 < shO a ch then 1 else 0)
theorem shC_k {a : Nat → Nat} {ch k : Nat} (hk : k < 3) : popS (shC a ch) k + shC a ch k ≤ ch := by
  have := (sh_over a ch).1
  have : k = 0 ∨ k = 1 ∨ k = 2 := by omega
  rcases this with rfl | rfl | rfl <;> simp only [popS] <;> omega
theorem popB_le (R : Nat → Nat) (p : Nat) : popS (shB R p) 3 ≤ 3 := popS_le (fun i => by have := shB_spec R p i; omega) 3
theorem cls_share {parts pur : Nat → Int32} {a : Nat → Nat} {ch : Nat} {Q : Int32 → (Nat → Int32) → Int32 → Prop} (ha : ∀ j, j < 3 → parts j = nI (a j) ∧ a j ≤ 99) (hch : ch ≤ 1186812) (hQ : ∀ p', (∀ j, j < 3 → p' j = pur j + shN a ch j) → Q (nI ch) p' (nI 0)) : wp_X7_shareOut parts pur (nI ch) Q := by
  unfold wp_X7_shareOut
  have ho := sh_over a ch
  refine run2 (F := wl_X7_shareOut_9 parts pur (nI ch) Q) 3 (fun k => nI (ch - popS (shC a ch) k)) (fun k => nI k) ?_ ?_
  · intro k hk n ih
    rw [wl_X7_shareOut_9]
    simp (disch := omega) only [wb_X7_shareOut_9, nI_natle, show ¬ 3 ≤ k from by omega, not_true_eq_false, not_false_eq_true, forall_const, true_implies, false_implies, implies_true, and_true, true_and, and_false, false_and, or_true, true_or, or_false, false_or, forall_eq, ↓reduceIte, ne_eq, nI1ne, nI0eq, Classical.not_not, eq_self, reduceCtorEq]
    refine cls_cut ha hch hk ?_
    have := shC_k (a := a) (ch := ch) hk
    rw [nI_add, nI_subL (by omega), Nat.sub_sub]
    exact ih
  · intro n
    rw [wl_X7_shareOut_9]
    simp (disch := omega) only [wb_X7_shareOut_9, nI_natle, Nat.le_refl, not_true_eq_false, not_false_eq_true, forall_const, true_implies, false_implies, implies_true, and_true, true_and, and_false, false_and, or_true, true_or, or_false, false_or, forall_eq, ↓reduceIte, ne_eq, nI1ne, nI0eq, Classical.not_not, eq_self, reduceCtorEq]
    have eo : ch - popS (shC a ch) 3 = shO a ch := by rw [pop3]; rfl
    rw [eo]
    refine meas2 (F := wl_X7_shareOut_30 parts (nI ch) Q (nI (shO a ch))) (fun v p' => ∃ k, k ≤ 3 ∧ v = nI k ∧ (∀ j, j < k → p' j = pur j + shN a ch j) ∧ ∀ j, k ≤ j → p' j = pur j) (fun v _ => 3 - v.toNatClampNeg) ?_ _ _ ⟨0, by omega, rfl, fun j hj => by omega, fun _ _ => rfl⟩
    rintro v p' ⟨k, hk, rfl, i1, i2⟩ m ih
    rw [wl_X7_shareOut_30]
    by_cases w : k = 3
    · subst w
      simp (disch := omega) only [wb_X7_shareOut_30, nI_natle, Nat.le_refl, not_true_eq_false, not_false_eq_true, forall_const, true_implies, false_implies, implies_true, and_true, true_and, and_false, false_and, or_true, true_or, or_false, false_or, forall_eq, ↓reduceIte, ne_eq, nI1ne, nI0eq, Classical.not_not, eq_self, reduceCtorEq]
      exact hQ p' i1
    · simp (disch := omega) only [wb_X7_shareOut_30, nI_natle, show ¬ 3 ≤ k from by omega, vpin, nI_clamp, not_true_eq_false, not_false_eq_true, forall_const, true_implies, false_implies, implies_true, and_true, true_and, and_false, false_and, or_true, true_or, or_false, false_or, forall_eq, ↓reduceIte, ne_eq, nI1ne, nI0eq, Classical.not_not, eq_self, reduceCtorEq]
      refine cls_cut ha hch (by omega) (cls_ahead ha hch (by omega) ?_)
      have b1 := popB_le (shR a ch) k
      have b2 : shO a ch ≤ 2 := by unfold shO; omega
      have key : nI (shC a ch k) + f_X11_asInt (if nI (shO a ch) ≤ nI (popS (shB (shR a ch) k) 3) then nI 0 else nI 1) = shN a ch k := by
        unfold shN
        by_cases z : nI (shO a ch) ≤ nI (popS (shB (shR a ch) k) 3)
        · rw [if_pos z, asInt0]
          rw [nI_natle (by omega) (by omega)] at z
          rw [if_neg (by omega)]
        · rw [if_neg z, asInt1]
          rw [nI_natle (by omega) (by omega)] at z
          rw [if_pos (by omega)]
      rw [key, i2 k (Nat.le_refl k), nI_add]
      refine ih _ _ ⟨k + 1, by omega, rfl, fun j hj => ?_, fun j hj => ?_⟩ (by rw [nI_clamp (by omega), nI_clamp (by omega)]; omega)
      · by_cases e : j = k
        · subst e; rw [upde]
        · rw [updne e]; exact i1 j (by omega)
      · rw [updne (by omega)]; exact i2 j (by omega)
/-- the side that is dealt to -/
def bst (R : Nat → Nat) : Nat := if R 2 ≤ R (if R 1 ≤ R 0 then 0 else 1) then (if R 1 ≤ R 0 then 0 else 1) else 2
theorem bst_spec (R : Nat → Nat) : bst R = 0 ∧ R 1 ≤ R 0 ∧ R 2 ≤ R 0 ∨ bst R = 1 ∧ R 0 < R 1 ∧ R 2 ≤ R 1 ∨ bst R = 2 ∧ R 0 < R 2 ∧ R 1 < R 2 := by
  unfold bst
  by_cases h : R 1 ≤ R 0
  · rw [if_pos h]
    by_cases g : R 2 ≤ R 0
    · rw [if_pos g]; omega
    · rw [if_neg g]; omega
  · rw [if_neg h]
    by_cases g : R 2 ≤ R 1
    · rw [if_pos g]; omega
    · rw [if_neg g]; omega
theorem deal1 (R : Nat → Nat) (j : Nat) (hj : j < 3) : (popS (shB R j) 3 < 1) ↔ j = bst R := by
  rw [pop3]
  have f := bst_spec R
  have : j = 0 ∨ j = 1 ∨ j = 2 := by omega
  rcases this with rfl | rfl | rfl
  · have := shB_spec R 0 0
    have := shB_spec R 0 1
    have := shB_spec R 0 2
    omega
  · have := shB_spec R 1 0
    have := shB_spec R 1 1
    have := shB_spec R 1 2
    omega
  · have := shB_spec R 2 0
    have := shB_spec R 2 1
    have := shB_spec R 2 2
    omega
theorem deal2 (R : Nat → Nat) (h : ∀ j, 1 ≤ R j) (j : Nat) (hj : j < 3) : (popS (shB R j) 3 < 2) ↔ (j = bst R ∨ j = bst (va_up R (bst R) 0)) := by
  rw [pop3]
  have h0 := h 0
  have h1 := h 1
  have h2 := h 2
  have key : ∀ b, bst R = b → (b = 0 ∧ R 1 ≤ R 0 ∧ R 2 ≤ R 0 ∨ b = 1 ∧ R 0 < R 1 ∧ R 2 ≤ R 1 ∨ b = 2 ∧ R 0 < R 2 ∧ R 1 < R 2) → (shB R j 0 + shB R j 1 + shB R j 2 < 2 ↔ (j = b ∨ j = bst (va_up R b 0))) := by
    intro b _ hb
    have f := bst_spec (va_up R b 0)
    have u0 : va_up R b 0 0 = if 0 = b then 0 else R 0 := rfl
    have u1 : va_up R b 0 1 = if 1 = b then 0 else R 1 := rfl
    have u2 : va_up R b 0 2 = if 2 = b then 0 else R 2 := rfl
    have : j = 0 ∨ j = 1 ∨ j = 2 := by omega
    rcases hb with ⟨rfl, g1, g2⟩ | ⟨rfl, g1, g2⟩ | ⟨rfl, g1, g2⟩
    · rw [if_pos rfl] at u0
      rw [if_neg (by omega)] at u1 u2
      rcases this with rfl | rfl | rfl
      · have := shB_spec R 0 0
        have := shB_spec R 0 1
        have := shB_spec R 0 2
        omega
      · have := shB_spec R 1 0
        have := shB_spec R 1 1
        have := shB_spec R 1 2
        omega
      · have := shB_spec R 2 0
        have := shB_spec R 2 1
        have := shB_spec R 2 2
        omega
    · rw [if_pos rfl] at u1
      rw [if_neg (by omega)] at u0 u2
      rcases this with rfl | rfl | rfl
      · have := shB_spec R 0 0
        have := shB_spec R 0 1
        have := shB_spec R 0 2
        omega
      · have := shB_spec R 1 0
        have := shB_spec R 1 1
        have := shB_spec R 1 2
        omega
      · have := shB_spec R 2 0
        have := shB_spec R 2 1
        have := shB_spec R 2 2
        omega
    · rw [if_pos rfl] at u2
      rw [if_neg (by omega)] at u0 u1
      rcases this with rfl | rfl | rfl
      · have := shB_spec R 0 0
        have := shB_spec R 0 1
        have := shB_spec R 0 2
        omega
      · have := shB_spec R 1 0
        have := shB_spec R 1 1
        have := shB_spec R 1 2
        omega
      · have := shB_spec R 2 0
        have := shB_spec R 2 1
        have := shB_spec R 2 2
        omega
  exact key _ rfl (bst_spec R)
theorem lgle_int (x y : Int64) : (lg_cmp x y ≤ 0) ↔ x.toInt ≤ y.toInt := by
  have g : (x > y) ↔ y.toInt < x.toInt := Int64.lt_iff_toInt_lt
  unfold lg_cmp
  by_cases q : y.toInt < x.toInt
  · rw [if_pos (g.mpr q)]
    constructor
    · intro h; exact absurd h (by decide)
    · intro h; omega
  · rw [if_neg (fun z => q (g.mp z))]
    constructor
    · intro _; omega
    · intro _
      split <;> decide
theorem bst_lt (R : Nat → Nat) : bst R < 3 := by
  have := bst_spec R
  omega
theorem deal_step {s t : Nat → Int32} {rests : Nat → Int64} {R : Nat → Nat} {Q : Int32 → (Nat → Int32) → (Nat → Int64) → Prop} {v n : Nat} (hv : v < 2 ^ 31 - 1) (h : ∀ j, j < 3 → (rests j).toInt = (R j : Int) - 1) (ih : wl_X12_share_129 s Q n (nI v) (upd t (69 + bst R) (t (69 + bst R) + nI 1)) (vp_updL rests (bst R) (-1))) : wl_X12_share_129 s Q (n + 1) (nI (v + 1)) t rests := by
  have c1 : (lg_cmp (rests 1) (rests 0) ≤ 0) = (R 1 ≤ R 0) := by
    apply propext
    rw [lgle_int, h 1 (by omega), h 0 (by omega)]
    omega
  rw [wl_X12_share_129]
  unfold wb_X12_share_129
  refine ⟨fun z => absurd z (nI_nle (by omega) (by omega)), fun _ y hy => ?_⟩
  have ey : ∃ b, b < 2 ∧ y = nI b ∧ b = if R 1 ≤ R 0 then 0 else 1 := by
    rw [hy]
    simp only [c1]
    by_cases w : R 1 ≤ R 0
    · exact ⟨0, by omega, by rw [if_pos w], by rw [if_pos w]⟩
    · exact ⟨1, by omega, by rw [if_neg w], by rw [if_neg w]⟩
  obtain ⟨b, hb, rfl, eb⟩ := ey
  rw [nI_clamp (by omega)]
  have c2 : (lg_cmp (rests 2) (rests b) ≤ 0) = (R 2 ≤ R b) := by
    apply propext
    rw [lgle_int, h 2 (by omega), h b (by omega)]
    omega
  refine ⟨vp_in_nI (by omega) (by omega), fun y2 hy2 => ?_⟩
  have e2 : y2 = nI (bst R) := by
    rw [hy2]
    simp only [c2]
    unfold bst
    rw [← eb]
    by_cases w : R 2 ≤ R b
    · rw [if_pos w, if_pos w]
    · rw [if_neg w, if_neg w]
  have hb3 := bst_lt R
  rw [e2, nI_add, nI_m1 (by omega), nI_clamp (by omega), nI_clamp (by omega)]
  exact ⟨vp_in_nI (by omega) (by omega), vp_in_nI (by omega) (by omega), vp_in_nI (by omega) (by omega), ih⟩
theorem deal_end {s t : Nat → Int32} {rests : Nat → Int64} {Q : Int32 → (Nat → Int32) → (Nat → Int64) → Prop} {n : Nat} (hQ : Q (s 4) (upd t 4 (nI 0)) rests) : wl_X12_share_129 s Q (n + 1) (nI 0) t rests := by
  rw [wl_X12_share_129]
  unfold wb_X12_share_129
  exact ⟨fun _ => hQ, fun z => absurd (of_eq_true le00) z⟩
theorem mod_deal {s t : Nat → Int32} {rests : Nat → Int64} {r : Nat → Nat} {Q : Int32 → (Nat → Int32) → (Nat → Int64) → Prop} {o : Nat} (ho : o ≤ 2) (h : ∀ j, j < 3 → rests j = lN (r j)) (hr : ∀ j, r j < 2 ^ 31) (hQ : ∀ u rests', (∀ j, j < 3 → u (69 + j) = t (69 + j) + nI (if popS (shB r j) 3 < o then 1 else 0)) → (∀ j, ¬ (69 ≤ j ∧ j < 72) → u j = t j) → Q (s 4) (upd u 4 (nI 0)) rests') : ∃ n, wl_X12_share_129 s Q n (nI o) t rests := by
  have hB : ∀ j k, shB (fun i => r i + 1) j k = shB r j k := by
    intro j k
    have s1 : shB (fun i => r i + 1) j k = 1 ∧ (r j + 1 < r k + 1 ∨ r j + 1 = r k + 1 ∧ k < j) ∨ shB (fun i => r i + 1) j k = 0 ∧ ¬ (r j + 1 < r k + 1 ∨ r j + 1 = r k + 1 ∧ k < j) := shB_spec (fun i => r i + 1) j k
    have s2 := shB_spec r j k
    omega
  have hBp : ∀ j, popS (shB (fun i => r i + 1) j) 3 = popS (shB r j) 3 := fun j => by rw [pop3, pop3, hB, hB, hB]
  have h1 : ∀ j, j < 3 → (rests j).toInt = (((fun i => r i + 1) j : Nat) : Int) - 1 := by
    intro j hj
    have := hr j
    rw [h j hj, lN_toInt40 (by omega)]
    show (r j : Int) = ((r j + 1 : Nat) : Int) - 1
    omega
  have z32 : ∀ x : Int32, x + nI 0 = x := fun x => by rw [nI_0]; exact Int32.add_zero x
  have : o = 0 ∨ o = 1 ∨ o = 2 := by omega
  rcases this with rfl | rfl | rfl
  · refine ⟨1, deal_end (hQ _ _ (fun j hj => ?_) (fun _ _ => rfl))⟩
    rw [if_neg (by omega), z32]
  · refine ⟨2, deal_step (by omega) h1 (deal_end (hQ _ _ (fun j hj => ?_) (fun j hj => ?_)))⟩
    · have d := deal1 (fun i => r i + 1) j hj
      rw [hBp] at d
      by_cases e : j = bst (fun i => r i + 1)
      · rw [if_pos (d.mpr e), e, upde]
      · rw [if_neg (fun z => e (d.mp z)), z32, updne (by omega)]
    · have := bst_lt (fun i => r i + 1)
      rw [updne (by omega)]
  · have hb := bst_spec (fun i => r i + 1)
    have hb3 := bst_lt (fun i => r i + 1)
    have hb4 := bst_lt (va_up (fun i => r i + 1) (bst (fun i => r i + 1)) 0)
    have hne : bst (va_up (fun i => r i + 1) (bst (fun i => r i + 1)) 0) ≠ bst (fun i => r i + 1) := by
      revert hb hb3 hb4
      generalize bst (fun i => r i + 1) = b
      intro hb hb3 hb4 z
      have f := bst_spec (va_up (fun i => r i + 1) b 0)
      rw [z] at f
      have u0 : va_up (fun i => r i + 1) b 0 0 = if 0 = b then 0 else r 0 + 1 := rfl
      have u1 : va_up (fun i => r i + 1) b 0 1 = if 1 = b then 0 else r 1 + 1 := rfl
      have u2 : va_up (fun i => r i + 1) b 0 2 = if 2 = b then 0 else r 2 + 1 := rfl
      rw [u0, u1, u2] at f
      have : b = 0 ∨ b = 1 ∨ b = 2 := by omega
      rcases this with rfl | rfl | rfl
      · rw [if_pos rfl, if_neg (by omega), if_neg (by omega)] at f; omega
      · rw [if_pos rfl, if_neg (by omega), if_neg (by omega)] at f; omega
      · rw [if_pos rfl, if_neg (by omega), if_neg (by omega)] at f; omega
    have h2 : ∀ j, j < 3 → (vp_updL rests (bst (fun i => r i + 1)) (-1) j).toInt = ((va_up (fun i => r i + 1) (bst (fun i => r i + 1)) 0 j : Nat) : Int) - 1 := by
      intro j hj
      by_cases e : j = bst (fun i => r i + 1)
      · rw [e, upLe, upee]; decide
      · rw [upLne e, upene e]; exact h1 j hj
    refine ⟨3, deal_step (by omega) h1 (deal_step (by omega) h2 (deal_end (hQ _ _ (fun j hj => ?_) (fun j hj => ?_))))⟩
    · have d := deal2 (fun i => r i + 1) (fun i => by show 1 ≤ r i + 1; omega) j hj
      rw [hBp] at d
      by_cases e : j = bst (va_up (fun i => r i + 1) (bst (fun i => r i + 1)) 0)
      · rw [if_pos (d.mpr (Or.inr e)), e, upde, updne (by omega)]
      · rw [updne (by omega)]
        by_cases e2 : j = bst (fun i => r i + 1)
        · rw [if_pos (d.mpr (Or.inl e2)), e2, upde]
        · rw [if_neg (fun z => (d.mp z).elim e2 e), z32, updne (by omega)]
    · rw [updne (by omega), updne (by omega)]
theorem core_share {goods ab pl : Nat → Int32} {sc : Int32} {bond sold passed tar parts pur : Nat → Int32} {chest : Int32} {fs ow : Nat → Int32} {fc : Int32} {uf ut : Nat → Int32} {uc : Int32} {quo s : Nat → Int32} {rests : Nat → Int64} {R : (Nat → Int32) → Int32 → (Nat → Int32) → Prop} (h : IPort goods ab pl sc bond sold passed tar parts pur chest fs ow fc uf ut uc quo s) (hR : ∀ p' c' v, IPort goods ab pl sc bond sold passed tar parts p' c' fs ow fc uf ut uc quo v → outS idxP s v → R p' c' v) : wp_X11_share parts pur chest (fun r p' c' => wp_X12_share s rests (fun r' v _ => r = r' ∧ R p' c' v)) := by
  obtain ⟨⟨c, x, b, ch, hc, e1, e2, e3, e4, e5, e6, rfl, e8, e9, e10⟩, hP2, h3, hP4⟩ := h
  have hch : ch ≤ 1186812 := by omega
  have hA : ∃ a : Nat → Nat, (∀ j, j < 3 → parts j = nI (a j) ∧ a j ≤ 99) ∧ ∀ j, j < 3 → s (66 + j) = nI (a j) := by
    obtain ⟨q0, ⟨a0, l0, w0⟩, -⟩ := h3 0 (by omega)
    obtain ⟨q1, ⟨a1, l1, w1⟩, -⟩ := h3 1 (by omega)
    obtain ⟨q2, ⟨a2, l2, w2⟩, -⟩ := h3 2 (by omega)
    refine ⟨fun j => if j = 0 then a0 else if j = 1 then a1 else a2, fun j hj => ?_, fun j hj => ?_⟩
    · have : j = 0 ∨ j = 1 ∨ j = 2 := by omega
      rcases this with rfl | rfl | rfl
      · exact ⟨by rw [q0, w0]; rfl, l0⟩
      · exact ⟨by rw [q1, w1]; rfl, l1⟩
      · exact ⟨by rw [q2, w2]; rfl, l2⟩
    · have : j = 0 ∨ j = 1 ∨ j = 2 := by omega
      rcases this with rfl | rfl | rfl
      · exact w0
      · exact w1
      · exact w2
  obtain ⟨a, ha, hs⟩ := hA
  have hA3 := pop3_le ha
  have ho := sh_over a ch
  unfold wp_X11_share
  refine cls_share ha hch (fun p' hp' => ?_)
  unfold wp_X12_share
  have all : s 66 + s 67 + s 68 = nI (popS a 3) := by
    have w0 := hs 0 (by omega)
    have w1 := hs 1 (by omega)
    have w2 := hs 2 (by omega)
    rw [show s 66 = nI (a 0) from w0, show s 67 = nI (a 1) from w1, show s 68 = nI (a 2) from w2, nI_add, nI_add, pop3]
  rw [e8]
  refine meas4 (F := wl_X12_share_36 s _) (fun v3 v4 t rs => ∃ k, k ≤ 3 ∧ v4 = nI k ∧ v3 = nI (ch - popS (shC a ch) k) ∧ (∀ j, j < k → t (69 + j) = s (69 + j) + nI (shC a ch j)) ∧ (∀ j, ¬ (69 ≤ j ∧ j < 69 + k) → t j = s j) ∧ ∀ j, j < k → rs j = lN (shR a ch j)) (fun _ v4 _ _ => 3 - v4.toNatClampNeg) ?_ _ _ _ _ ⟨0, by omega, rfl, rfl, fun j hj => by omega, fun _ _ => rfl, fun j hj => by omega⟩
  rintro v3 v4 t rs ⟨k, hk, rfl, rfl, i1, i2, i3⟩ m ih
  rw [wl_X12_share_36]
  unfold wb_X12_share_36
  by_cases w : k = 3
  · subst w
    refine ⟨fun _ => ?_, fun z => absurd (by rw [nI_natle (by omega) (by omega)]; exact Nat.le_refl 3) z⟩
    rw [pop3, show ch - (shC a ch 0 + shC a ch 1 + shC a ch 2) = shO a ch from rfl]
    refine mod_deal (r := shR a ch) (by unfold shO; omega) i3 (fun j => by have := shR_lt (ch := ch) hA3 j; omega) (fun u rests' g1 g2 => ?_)
    have c4 : s 4 = nI ch := e8
    refine ⟨c4.symm, hR _ _ _ ?_ (fun j hj => ?_)⟩
    · refine ⟨⟨c, x, b, 0, hc, e1, ?_, fun i hi => ?_, fun i hi => ?_, fun i hi => ?_, fun i hi => ?_, rfl, upde, e9, by omega⟩, IP2_congr hP2 (fun j hj => ?_), fun j hj => ?_, IP4_congr hP4 (fun j hj => ?_)⟩
      · rw [updne (by omega), g2 _ (by omega), i2 _ (by omega)]; exact e2
      · rw [updne (by omega), g2 _ (by omega), i2 _ (by omega), updne (by omega), g2 _ (by omega), i2 _ (by omega), updne (by omega), g2 _ (by omega), i2 _ (by omega)]; exact e3 i hi
      · rw [updne (by omega), g2 _ (by omega), i2 _ (by omega), updne (by omega), g2 _ (by omega), i2 _ (by omega)]; exact e4 i hi
      · rw [updne (by omega), g2 _ (by omega), i2 _ (by omega)]; exact e5 i hi
      · rw [updne (by omega), g2 _ (by omega), i2 _ (by omega)]; exact e6 i hi
      · unfold idx2 at hj
        rw [updne (by omega), g2 _ (by omega), i2 _ (by omega)]
      · obtain ⟨z1, z2, z3, z4, z5⟩ := h3 j hj
        rw [updne (by omega), g2 (66 + j) (by omega), i2 (66 + j) (by omega), updne (by omega), g1 j hj, i1 j hj, updne (by omega), g2 (72 + j) (by omega), i2 (72 + j) (by omega)]
        refine ⟨z1, z2, ?_, z4, z5⟩
        rw [hp' j hj, z3, Int32.add_assoc]
        rfl
      · unfold idx4 at hj
        rw [updne (by omega), g2 _ (by omega), i2 _ (by omega)]
    · unfold idxP at hj
      rw [updne (by omega), g2 _ (by omega), i2 _ (by omega)]
  · refine ⟨fun z => absurd z (by rw [nI_natle (by omega) (by omega)]; omega), fun _ => ⟨fun _ => by rw [nI_add]; exact vp_in_nI (by omega) (by omega), fun y0 hy0 y1 hy1 => ?_⟩⟩
    have hm : ch * a k ≤ 1186812 * 99 := Nat.mul_le_mul hch (ha k (by omega)).2
    have hy : ∃ p d, (nI ch).toInt64 * y0 = lN p ∧ y1 = lN d ∧ p < 2 ^ 40 ∧ 0 < d ∧ d < 2 ^ 31 ∧ p / d = shC a ch k ∧ p % d = shR a ch k := by
      rw [all] at hy0 hy1
      unfold shC shR
      by_cases z : popS a 3 = 0
      · rw [z, if_pos (of_eq_true nI0eq)] at hy0 hy1
        refine ⟨ch, 3, ?_, hy1, by omega, by omega, by omega, by rw [if_pos z], by rw [if_pos z]⟩
        rw [hy0, nI_l (by omega)]
        exact Int64.mul_one _
      · rw [if_neg (nI_ne0 (by omega) (by omega))] at hy0 hy1
        refine ⟨ch * a k, popS a 3, ?_, by rw [hy1, nI_l (by omega)], by omega, by omega, by omega, by rw [if_neg z], by rw [if_neg z]⟩
        have l := (ha k (by omega)).2
        rw [hy0, nI_add, nI_clamp (by omega), i2 _ (by omega), hs k (by omega), nI_l (by omega), nI_l (by omega), lN_mul]
    obtain ⟨p, d, f1, f2, f3, f4, f5, f6, f7⟩ := hy
    have hd0 : ¬ y1 = 0 := by
      rw [f2]
      intro z
      have := lN_toInt40 (n := d) (by omega)
      rw [z] at this
      have q : (0 : Int64).toInt = 0 := by decide
      omega
    rw [e8, f1]
    refine ⟨hd0, fun x85 hx85 => ⟨hd0, vp_in_nI (by omega) (by omega), by rw [nI_add]; exact vp_in_nI (by omega) (by omega), by rw [nI_add]; exact vp_in_nI (by omega) (by omega), ?_⟩⟩
    have ex : x85 = nI (shC a ch k) := by rw [hx85, f2, lN_div f3 f4 f5, lN_i, f6]
    have hck := shC_k (a := a) (ch := ch) (show k < 3 by omega)
    rw [ex, f2, lN_rem f3 f4 f5, f7, nI_subL (by omega), Nat.sub_sub, nI_add, nI_add, nI_clamp (by omega), nI_clamp (by omega)]
    refine ih _ _ _ _ ⟨k + 1, by omega, rfl, rfl, fun j hj => ?_, fun j hj => ?_, fun j hj => ?_⟩ (by rw [nI_clamp (by omega), nI_clamp (by omega)]; omega)
    · by_cases e : j = k
      · subst e; rw [upde, i2 _ (by omega)]
      · rw [updne (by omega)]; exact i1 j (by omega)
    · rw [updne (by omega)]; exact i2 j (by omega)
    · by_cases e : j = k
      · subst e; rw [upLe]
      · rw [upLne e]; exact i3 j (by omega)
