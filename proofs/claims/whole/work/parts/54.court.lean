theorem sh63 : ∀ i, i < 64 → ((((nI i).toInt64 &&& 63).toBitVec).smod 64).toNat = i := by decide +kernel
theorem bit_shr (x : Int64) (i : Nat) (hi : i < 64) : ((x >>> ((nI i).toInt64 &&& 63)) &&& 1) = (if bitL x i then 1 else 0) := by
  apply Int64.toBitVec_inj.mp
  apply BitVec.eq_of_getLsbD_eq
  intro j hj
  have e : (x >>> ((nI i).toInt64 &&& 63)).toBitVec = x.toBitVec.sshiftRight i := by
    rw [Int64.toBitVec_shiftRight, BitVec.sshiftRight_eq', sh63 i hi]
  rw [Int64.toBitVec_and, BitVec.getLsbD_and, e, BitVec.getLsbD_sshiftRight]
  by_cases h0 : j = 0
  · subst h0
    unfold bitL
    by_cases hb : x.toBitVec.getLsbD i = true
    · simp [hb, hi]
    · have hb2 : x.toBitVec.getLsbD i = false := by revert hb; cases x.toBitVec.getLsbD i <;> simp
      have hb3 : x.toBitVec[i] = false := by rw [← BitVec.getLsbD_eq_getElem]; exact hb2
      simp [hb3, hi]
  · have e1 : (1 : Int64).toBitVec.getLsbD j = false := by
      show (1#64).getLsbD j = false
      simp [h0]
    rw [e1, Bool.and_false]
    split
    · exact e1.symm
    · simp
theorem cmp01 (b : Bool) : lg_cmp (if b then 1 else 0) 0 = (if b then 1 else 0) := by cases b <;> decide
theorem hasBit (x : Int64) (i : Nat) (hi : i < 64) : f_X11_hasBit x (nI i) = nB (bitL x i) := by
  unfold f_X11_hasBit
  rw [bit_shr x i hi, cmp01]
  cases bitL x i <;> decide
theorem bit_or (x y : Int64) (i : Nat) : bitL (x ||| y) i = (bitL x i || bitL y i) := by
  unfold bitL
  rw [Int64.toBitVec_or, BitVec.getLsbD_or]
theorem bit_and (x y : Int64) (i : Nat) : bitL (x &&& y) i = (bitL x i && bitL y i) := by
  unfold bitL
  rw [Int64.toBitVec_and, BitVec.getLsbD_and]
theorem bit_not (x : Int64) (i : Nat) (hi : i < 64) : bitL (x ^^^ (-1)) i = !(bitL x i) := by
  unfold bitL
  rw [Int64.toBitVec_xor, BitVec.getLsbD_xor]
  have : (-1 : Int64).toBitVec.getLsbD i = true := by
    show (BitVec.allOnes 64).getLsbD i = true
    rw [BitVec.getLsbD_allOnes]
    exact decide_eq_true hi
  rw [this, Bool.xor_true]
theorem bit_hi (x : Int64) (i : Nat) (hi : 64 ≤ i) : bitL x i = false := BitVec.getLsbD_of_ge _ _ hi
theorem bit_0 (i : Nat) : bitL 0 i = false := by
  show (0#64).getLsbD i = false
  simp
theorem bit_ext {x y : Int64} (h : ∀ i, i < 64 → bitL x i = bitL y i) : x = y := by
  apply Int64.toBitVec_inj.mp
  apply BitVec.eq_of_getLsbD_eq
  exact h
theorem bit_one (i j : Nat) (hi : i < 64) (hj : j < 64) : bitL ((1 : Int64) <<< ((nI i).toInt64 &&& 63)) j = decide (j = i) := by
  unfold bitL
  have e : ((1 : Int64) <<< ((nI i).toInt64 &&& 63)).toBitVec = (1#64) <<< i := by
    rw [Int64.toBitVec_shiftLeft, BitVec.shiftLeft_eq', sh63 i hi]
    rfl
  rw [e, BitVec.getLsbD_shiftLeft]
  by_cases h : j = i
  · subst h; simp [hj]
  · by_cases g : j < i
    · simp [g, h]
    · have : j - i ≠ 0 := by omega
      simp [hj, g, h, this]
theorem cmp0 (x : Int64) : (lg_cmp x 0 = 0) ↔ x = 0 := by
  unfold lg_cmp
  by_cases h : x > 0
  · rw [if_pos h]
    constructor
    · intro g; exact absurd g (by decide)
    · intro g; subst g; exact absurd h (by decide)
  · rw [if_neg h]
    by_cases g : x = 0
    · simp [g]
    · rw [if_neg g]
      constructor
      · intro z; exact absurd z (by decide)
      · intro z; exact absurd z g
theorem find_cases (rights : Nat → Option Nat) (r : Nat) (hr : r ≤ 50) (p : Int32) : (f_X2_find rights (nI r) p = none ∧ f_X12_in p (nI 0) (nI r - nI 1) = nI 0 ∧ ok_X2_find rights (nI r) p ∧ ∀ k, k < r → p ≠ nI k) ∨ ∃ k, k < r ∧ p = nI k ∧ f_X2_find rights (nI r) p = rights k ∧ f_X12_in p (nI 0) (nI r - nI 1) = nI 1 ∧ ok_X2_find rights (nI r) p := by
  rcases in_cases1 p r (by omega) with ⟨h1, h2⟩ | ⟨h1, k, hk, rfl⟩
  · left
    have g : ¬ p < 0 → nI r ≤ p := by
      intro g0
      obtain ⟨k, hk, rfl⟩ := nI_of g0
      rw [nI_natle (by omega) hk]
      rcases Nat.lt_or_ge k r with q | q
      · exact absurd rfl (h2 k q)
      · exact q
    refine ⟨?_, h1, fun g0 g1 => absurd (g g0) g1, h2⟩
    unfold f_X2_find
    by_cases g0 : p < 0
    · rw [if_pos g0]
    · rw [if_neg g0, if_pos (g g0)]
  · right
    refine ⟨k, hk, rfl, ?_, h1, ?_⟩
    · unfold f_X2_find
      rw [if_neg (nI_pos (by omega)), if_neg (by rw [nI_natle (by omega) (by omega)]; omega), nI_clamp (by omega)]
    · intro _ _
      exact vp_in_nI (by omega) (by omega)
theorem core_term {today : Int32} {rights : Nat → Option Nat} {count : Int32} {leans : Nat → Int64} {heardOn : Nat → Int32} {overruled : Int64} {termDays step : Int32} {R_L : List Nat} {R_kind R_number R_side R_n R_cell R_day R_ruling R_share : Nat → Int32} {s : Nat → Int32} {p1 p2 : Int32} {R : Int32 → Int32 → (Nat → Int32) → Prop} (h : ICourt today rights count leans heardOn overruled termDays step R_L R_kind R_number R_side R_n R_cell R_day R_ruling R_share s) (hR : ∀ a b v, ICourt today rights count leans heardOn overruled a b R_L R_kind R_number R_side R_n R_cell R_day R_ruling R_share v → outS idxC s v → R a b v) : wp_X11_term p1 p2 termDays step (fun r a b => wp_X12_term p1 p2 s (fun r' v => r = r' ∧ R a b v)) := by
  have h0 := hR termDays step s h (fun _ _ => rfl)
  obtain ⟨⟨rfl, h1⟩, ⟨rfl, h2⟩, h3⟩ := h
  rcases in_cases p1 0 1 (by decide) (by decide) with ⟨g1, -⟩ | ⟨g1, x, hx1, hx2, rfl⟩
  · simp only [wp_X11_term, wp_X12_term, within_eq, g1, not_true_eq_false, not_false_eq_true, forall_const, true_implies, false_implies, implies_true, and_true, true_and, and_false, false_and, or_true, true_or, or_false, false_or, forall_eq, ↓reduceIte, ne_eq, nI1ne, nI0eq, Classical.not_not, eq_self, reduceCtorEq]
    exact h0
  · have hx : x = 0 ∨ x = 1 := by omega
    rcases hx with rfl | rfl
    · rcases in_cases p2 0 99 (by decide) (by decide) with ⟨g2, -⟩ | ⟨g2, y, hy1, hy2, rfl⟩
      · simp only [wp_X11_term, wp_X12_term, within_eq, g1, g2, not_true_eq_false, not_false_eq_true, forall_const, true_implies, false_implies, implies_true, and_true, true_and, and_false, false_and, or_true, true_or, or_false, false_or, forall_eq, ↓reduceIte, ne_eq, nI1ne, nI0eq, Classical.not_not, eq_self, reduceCtorEq]
        exact h0
      · simp (disch := omega) only [wp_X11_term, wp_X12_term, wk_X11_term_41, wk_X12_term_41, within_eq, g1, g2, nI_clamp, vpin, not_true_eq_false, not_false_eq_true, forall_const, true_implies, false_implies, implies_true, and_true, true_and, and_false, false_and, or_true, true_or, or_false, false_or, forall_eq, ↓reduceIte, ne_eq, nI1ne, nI0eq, Classical.not_not, eq_self, reduceCtorEq]
        refine hR _ _ _ ⟨⟨upde.symm, by rw [upde]; exact ⟨y, by omega, rfl⟩⟩, ⟨(updne (by omega)).symm, by rw [updne (by omega)]; exact h2⟩, ICm_congr h3 (fun j hj => ?_)⟩ (fun j hj => ?_)
        · unfold idxR at hj; exact updne (by omega)
        · unfold idxC at hj; exact updne (by omega)
    · rcases in_cases p2 1 20 (by decide) (by decide) with ⟨g2, -⟩ | ⟨g2, y, hy1, hy2, rfl⟩
      · simp only [wp_X11_term, wp_X12_term, within_eq, g1, g2, not_true_eq_false, not_false_eq_true, forall_const, true_implies, false_implies, implies_true, and_true, true_and, and_false, false_and, or_true, true_or, or_false, false_or, forall_eq, ↓reduceIte, ne_eq, nI1ne, nI0eq, Classical.not_not, eq_self, reduceCtorEq]
        exact h0
      · simp (disch := omega) only [wp_X11_term, wp_X12_term, wk_X11_term_41, wk_X12_term_41, within_eq, g1, g2, nI_clamp, vpin, not_true_eq_false, not_false_eq_true, forall_const, true_implies, false_implies, implies_true, and_true, true_and, and_false, false_and, or_true, true_or, or_false, false_or, forall_eq, ↓reduceIte, ne_eq, nI1ne, nI0eq, Classical.not_not, eq_self, reduceCtorEq]
        refine hR _ _ _ ⟨⟨(updne (by omega)).symm, by rw [updne (by omega)]; exact h1⟩, ⟨upde.symm, y, hy1, hy2, upde⟩, ICm_congr h3 (fun j hj => ?_)⟩ (fun j hj => ?_)
        · unfold idxR at hj; exact updne (by omega)
        · unfold idxC at hj; exact updne (by omega)
theorem core_want {cells : Nat → Int32} {fl fn : Nat → Int64} {qc : Int32} {wa : Nat → Int32} {wc : Int32} {s : Nat → Int32} {p1 : Int32} {R : (Nat → Int32) → Int32 → (Nat → Int32) → Prop} (h : IBench cells fl fn qc wa wc s) (hR : ∀ a b v, IBench cells fl fn qc a b v → outS idxB s v → R a b v) : wp_X11_want p1 wa wc (fun r a b => wp_X12_want p1 s (fun r' v => r = r' ∧ R a b v)) := by
  have h0 := hR wa wc s h (fun _ _ => rfl)
  obtain ⟨hq, w, hw, rfl, h2, h3⟩ := h
  rcases in_cases p1 0 10799 (by decide) (by decide) with ⟨g1, -⟩ | ⟨g1, x, hx1, hx2, rfl⟩
  · simp only [wp_X11_want, wp_X12_want, f_X11_isAct, within_eq, g1, not_true_eq_false, not_false_eq_true, forall_const, true_implies, false_implies, implies_true, and_true, true_and, and_false, false_and, or_true, true_or, or_false, false_or, forall_eq, ↓reduceIte, ne_eq, nI1ne, nI0eq, Classical.not_not, eq_self, reduceCtorEq]
    exact h0
  · simp only [wp_X11_want, wp_X12_want, f_X11_isAct, within_eq, g1, not_true_eq_false, not_false_eq_true, forall_const, true_implies, false_implies, implies_true, and_true, true_and, and_false, false_and, or_true, true_or, or_false, false_or, forall_eq, ↓reduceIte, ne_eq, nI1ne, nI0eq, Classical.not_not, eq_self, reduceCtorEq]
    have classW : ∀ K : Int32 → Prop, ((∃ i, i < w ∧ s (1172 + i) = nI x) → K (nI 1)) → ((∀ i, i < w → ¬ s (1172 + i) = nI x) → K (nI 0)) → wp_X0_isWanted (nI x) wa (nI w) K := by
      intro K k1 k2
      unfold wp_X0_isWanted
      have key : ∀ k, k ≤ w → (∀ i, i < w - k → ¬ s (1172 + i) = nI x) → wl_X0_isWanted_2 (nI x) wa (nI w) K (k + 1) (nI (w - k)) := by
        intro k
        induction k with
        | zero =>
          intro _ h
          simp (disch := omega) only [wl_X0_isWanted_2, wb_X0_isWanted_2, nI_natle, Nat.sub_zero, Nat.le_refl, not_true_eq_false, not_false_eq_true, forall_const, true_implies, false_implies, implies_true, and_true, true_and, and_false, false_and, or_true, true_or, or_false, false_or, forall_eq, ↓reduceIte, ne_eq, nI1ne, nI0eq, Classical.not_not, eq_self, reduceCtorEq]
          exact k2 (by simpa using h)
        | succ k ih =>
          intro hk h
          rw [wl_X0_isWanted_2]
          simp (disch := omega) only [wb_X0_isWanted_2, nI_natle, nI_clamp, vpin, nI_add, (h3 (w - (k + 1)) (by omega)).1, show ¬ w ≤ w - (k + 1) from by omega, show w - (k + 1) + 1 = w - k from by omega, not_true_eq_false, not_false_eq_true, forall_const, true_implies, false_implies, implies_true, and_true, true_and, and_false, false_and, or_true, true_or, or_false, false_or, forall_eq, ↓reduceIte, ne_eq, nI1ne, nI0eq, Classical.not_not, eq_self, reduceCtorEq]
          by_cases q : s (1172 + (w - (k + 1))) = nI x
          · simp only [q, not_true_eq_false, not_false_eq_true, forall_const, true_implies, false_implies, implies_true, and_true, true_and, and_false, false_and, or_true, true_or, or_false, false_or, forall_eq, ↓reduceIte, ne_eq, nI1ne, nI0eq, Classical.not_not, eq_self, reduceCtorEq]
            exact k1 ⟨_, by omega, q⟩
          · simp only [q, not_true_eq_false, not_false_eq_true, forall_const, true_implies, false_implies, implies_true, and_true, true_and, and_false, false_and, or_true, true_or, or_false, false_or, forall_eq, ↓reduceIte, ne_eq, nI1ne, nI0eq, Classical.not_not, eq_self, reduceCtorEq]
            refine ih (by omega) (fun i hi => ?_)
            by_cases g : i = w - (k + 1)
            · rw [g]; exact q
            · exact h i (by omega)
      have := key w (Nat.le_refl w) (fun i hi => by omega)
      rw [Nat.sub_self] at this
      exact ⟨_, this⟩
    have modelW : ∀ K : Int32 → (Nat → Int32) → Prop, ((∃ i, i < w ∧ s (1172 + i) = nI x) → K (-3) s) → ((∀ i, i < w → ¬ s (1172 + i) = nI x) → (w = 10 → K (-4) s) ∧ (w < 10 → K (nI (w + 1)) (upd (upd s (1172 + w) (nI x)) 9 (nI (w + 1))))) → ∃ n, wl_X12_want_16 (nI x) s K n (nI 0) := by
      intro K k1 k2
      have key : ∀ k, k ≤ w → (∀ i, i < w - k → ¬ s (1172 + i) = nI x) → wl_X12_want_16 (nI x) s K (k + 1) (nI (w - k)) := by
        intro k
        induction k with
        | zero =>
          intro _ h
          have := k2 (by simpa using h)
          by_cases q : w = 10
          · subst q
            simp (disch := omega) only [wl_X12_want_16, wb_X12_want_16, h2, nI_natle, Nat.sub_zero, Nat.le_refl, not_true_eq_false, not_false_eq_true, forall_const, true_implies, false_implies, implies_true, and_true, true_and, and_false, false_and, or_true, true_or, or_false, false_or, forall_eq, ↓reduceIte, ne_eq, nI1ne, nI0eq, Classical.not_not, eq_self, reduceCtorEq]
            exact this.1 rfl
          · simp (disch := omega) only [wl_X12_want_16, wb_X12_want_16, h2, nI_natle, nI_nateq, q, nI_add, nI_clamp, vpin, updne, upde, Nat.sub_zero, Nat.le_refl, not_true_eq_false, not_false_eq_true, forall_const, true_implies, false_implies, implies_true, and_true, true_and, and_false, false_and, or_true, true_or, or_false, false_or, forall_eq, ↓reduceIte, ne_eq, nI1ne, nI0eq, Classical.not_not, eq_self, reduceCtorEq]
            exact this.2 (by omega)
        | succ k ih =>
          intro hk h
          rw [wl_X12_want_16]
          simp (disch := omega) only [wb_X12_want_16, h2, nI_natle, nI_clamp, vpin, nI_add, show ¬ w ≤ w - (k + 1) from by omega, show w - (k + 1) + 1 = w - k from by omega, not_true_eq_false, not_false_eq_true, forall_const, true_implies, false_implies, implies_true, and_true, true_and, and_false, false_and, or_true, true_or, or_false, false_or, forall_eq, ↓reduceIte, ne_eq, nI1ne, nI0eq, Classical.not_not, eq_self, reduceCtorEq]
          by_cases q : s (1172 + (w - (k + 1))) = nI x
          · simp only [q, not_true_eq_false, not_false_eq_true, forall_const, true_implies, false_implies, implies_true, and_true, true_and, and_false, false_and, or_true, true_or, or_false, false_or, forall_eq, ↓reduceIte, ne_eq, nI1ne, nI0eq, Classical.not_not, eq_self, reduceCtorEq]
            exact k1 ⟨_, by omega, q⟩
          · simp only [q, not_true_eq_false, not_false_eq_true, forall_const, true_implies, false_implies, implies_true, and_true, true_and, and_false, false_and, or_true, true_or, or_false, false_or, forall_eq, ↓reduceIte, ne_eq, nI1ne, nI0eq, Classical.not_not, eq_self, reduceCtorEq]
            refine ih (by omega) (fun i hi => ?_)
            by_cases g : i = w - (k + 1)
            · rw [g]; exact q
            · exact h i (by omega)
      have := key w (Nat.le_refl w) (fun i hi => by omega)
      rw [Nat.sub_self] at this
      exact ⟨_, this⟩
    refine classW _ (fun e => ?_) (fun e => ?_)
    · simp only [not_true_eq_false, not_false_eq_true, forall_const, true_implies, false_implies, implies_true, and_true, true_and, and_false, false_and, or_true, true_or, or_false, false_or, forall_eq, ↓reduceIte, ne_eq, nI1ne, nI0eq, Classical.not_not, eq_self, reduceCtorEq]
      refine modelW _ (fun _ => ⟨rfl, h0⟩) (fun g => ?_)
      obtain ⟨i, hi, q⟩ := e
      exact absurd q (g i hi)
    · by_cases q : w = 10
      · subst q
        simp (disch := omega) only [nI_natlt, Nat.lt_irrefl, not_true_eq_false, not_false_eq_true, forall_const, true_implies, false_implies, implies_true, and_true, true_and, and_false, false_and, or_true, true_or, or_false, false_or, forall_eq, ↓reduceIte, ne_eq, nI1ne, nI0eq, Classical.not_not, eq_self, reduceCtorEq]
        refine modelW _ (fun ⟨i, hi, g⟩ => absurd g (e i hi)) (fun _ => ⟨fun _ => ⟨rfl, h0⟩, fun g => by omega⟩)
      · simp (disch := omega) only [nI_natlt, show w < 10 from by omega, wp_X0_addWanted, vpin, nI_clamp, nI_add, not_true_eq_false, not_false_eq_true, forall_const, true_implies, false_implies, implies_true, and_true, true_and, and_false, false_and, or_true, true_or, or_false, false_or, forall_eq, ↓reduceIte, ne_eq, nI1ne, nI0eq, Classical.not_not, eq_self, reduceCtorEq]
        refine modelW _ (fun ⟨i, hi, g⟩ => absurd g (e i hi)) (fun _ => ⟨fun g => absurd g q, fun g => ⟨rfl, ?_⟩⟩)
        obtain ⟨z, hz, k1, k2, k3⟩ := hq
        refine hR _ _ _ ⟨⟨z, hz, k1, by simp (disch := omega) only [updne]; exact k2, fun i hi => ⟨?_, fun r hr => ?_⟩⟩, w + 1, by omega, rfl, upde, fun i hi => ?_⟩ (fun j hj => ?_)
        · simp (disch := omega) only [updne]; exact (k3 i hi).1
        · simp (disch := omega) only [updne]; exact (k3 i hi).2 r hr
        · by_cases g : i = w
          · subst g
            simp (disch := omega) only [upde, updne, not_true_eq_false, not_false_eq_true, forall_const, true_implies, false_implies, implies_true, and_true, true_and, and_false, false_and, or_true, true_or, or_false, false_or, forall_eq, ↓reduceIte, ne_eq, nI1ne, nI0eq, Classical.not_not, eq_self, reduceCtorEq]
            exact ⟨x, by omega, rfl⟩
          · simp (disch := omega) only [updne]; exact h3 i (by omega)
        · have k : j ≠ 9 ∧ j ≠ 1172 + w := by
            unfold idxB at hj
            omega
          simp only [updne k.1, updne k.2]
