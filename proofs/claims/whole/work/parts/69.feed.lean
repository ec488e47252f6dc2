theorem byte_nar (v : Int32) : vp_nar .byte v = v.toInt8.toInt32 := rfl
theorem byte_fits (v : Int32) : fits .byte (.int (vp_nar .byte v)) = true := by
  rw [byte_nar]
  show (decide ((-128 : Int32) ≤ v.toInt8.toInt32) && decide (v.toInt8.toInt32 ≤ (127 : Int32))) = true
  have h1 := Int8.le_toInt v.toInt8
  have h2 := Int8.toInt_lt v.toInt8
  rw [Bool.and_eq_true, decide_eq_true_eq, decide_eq_true_eq, Int32.le_iff_toInt_le, Int32.le_iff_toInt_le, Int8.toInt_toInt32]
  have e1 : (-128 : Int32).toInt = -128 := by decide
  have e2 : (127 : Int32).toInt = 127 := by decide
  omega
theorem byte_and (x : Int64) : vp_nar .byte (x.toInt32.toInt8.toInt32) &&& nI 255 = (x &&& 255).toInt32 := by
  rw [byte_nar]
  apply Int32.toBitVec_inj.mp
  apply BitVec.eq_of_getLsbD_eq
  intro i hi
  have l1 : (nI 255).toBitVec.getLsbD i = decide (i < 8) := by
    have : ∀ i, i < 32 → (nI 255).toBitVec.getLsbD i = decide (i < 8) := by decide +kernel
    exact this i hi
  have l2 : ∀ i, i < 64 → (255 : Int64).toBitVec.getLsbD i = decide (i < 8) := by decide +kernel
  rw [Int32.toBitVec_and, BitVec.getLsbD_and, l1, Int64.toBitVec_toInt32, BitVec.getLsbD_signExtend, Int64.toBitVec_and, BitVec.getLsbD_and, l2 i (by omega), Int8.toBitVec_toInt32, BitVec.getLsbD_signExtend]
  by_cases g : i < 8
  · have g2 : i < 64 := by omega
    simp only [g, hi, g2, decide_true, Bool.true_and, Bool.and_true, if_true]
    rw [Int32.toBitVec_toInt8, BitVec.getLsbD_signExtend, Int8.toBitVec_toInt32, BitVec.getLsbD_signExtend, Int32.toBitVec_toInt8, BitVec.getLsbD_signExtend, Int64.toBitVec_toInt32, BitVec.getLsbD_signExtend]
    simp [g, hi, g2]
  · simp [g]
    intro h1 h2
    omega
theorem sub1_lt {k : Nat} (hk : k < 2 ^ 31) : (nI k - nI 1 < 0) = (k = 0) := by
  by_cases h : k = 0
  · subst h
    exact propext ⟨fun _ => rfl, fun _ => by decide⟩
  · rw [nI_subL (by omega)]
    exact propext ⟨fun z => absurd z (nI_pos (by omega)), fun z => absurd z h⟩
theorem sub1_m1 {k : Nat} (hk : 0 < k) : nI k - nI 1 + (-1) = nI (k - 1) - nI 1 := by
  rw [nI_subL (by omega), Int32.sub_eq_add_neg]
  rfl
/-- the byte that comes k-th from the end -/
def fB (x : Int64) (k : Nat) : Int64 := x >>> ((nI 8 * (nI k - nI 1)).toInt64 &&& 63)
theorem core_feed {gr : Nat → Int32} {today : Int32} {tape : Nat → Int32} {bytes : Int32} {texts : Nat → Option Nat} {tc : Int32} {T_L : List Nat} {T_number T_tongue T_day : Nat → Int32} {T_code : Nat → Option Nat} {C_L : List Nat} {C_len : Nat → Nat} {C_row : Nat → Nat → Int32} {s : Nat → Int32} {p1 : Int64} {p2 : Int32} {R : (Nat → Int32) → Int32 → (Nat → Int32) → Prop} (h : ILand gr today tape bytes texts tc T_L T_number T_tongue T_day T_code C_L C_len C_row s) (hR : ∀ a b v, ILand gr today a b texts tc T_L T_number T_tongue T_day T_code C_L C_len C_row v → outS idxF s v → R a b v) : wp_X11_feed p1 p2 tape bytes (fun r a b => wp_X12_feed p1 p2 s (fun r' v => r = r' ∧ R a b v)) := by
  have h0 := hR tape bytes s h (fun _ _ => rfl)
  rcases in_cases p2 1 8 (by decide) (by decide) with ⟨g1, -⟩ | ⟨g1, c, hc, hc', rfl⟩
  · simp only [wp_X11_feed, wp_X12_feed, within_eq, g1, not_true_eq_false, not_false_eq_true, forall_const, true_implies, false_implies, implies_true, and_true, true_and, and_false, false_and, or_true, true_or, or_false, false_or, forall_eq, ↓reduceIte, ne_eq, nI1ne, nI0eq, Classical.not_not, eq_self, reduceCtorEq]
    exact h0
  obtain ⟨l1, l2, ⟨l3, l4⟩, l5, l6, l7, t, ht, l8, l9, l10⟩ := h
  obtain ⟨b, hb, eb⟩ := l4
  rw [eb] at l3
  subst l3
  by_cases w : b + c ≤ 120
  · simp (disch := omega) only [wp_X11_feed, wp_X12_feed, within_eq, g1, nI1ne, eb, nI_add, nI_natle, w, wp_X4_append, not_true_eq_false, not_false_eq_true, forall_const, true_implies, false_implies, implies_true, and_true, true_and, and_false, false_and, or_true, true_or, or_false, false_or, forall_eq, ↓reduceIte, ne_eq, nI1ne, nI0eq, Classical.not_not, eq_self, reduceCtorEq]
    refine meas3 (F := wl_X4_append_5 p1 _) (fun v T y => ∃ k, k ≤ c ∧ v = nI k - nI 1 ∧ y = nI (b + (c - k)) ∧ ∀ j, T j = if b ≤ j ∧ j < b + (c - k) then vp_nar .byte ((fB p1 (b + c - j)).toInt32.toInt8.toInt32) else tape j) (fun v _ _ => (v + nI 1).toNatClampNeg) ?_ _ _ _ ⟨c, Nat.le_refl _, rfl, by rw [Nat.sub_self]; rfl, fun j => by rw [if_neg]; omega⟩
    rintro v T y ⟨k, hk, rfl, rfl, hT⟩ m ih
    rw [wl_X4_append_5]
    by_cases q : k = 0
    · subst q
      simp (disch := omega) only [wb_X4_append_5, sub1_lt, not_true_eq_false, not_false_eq_true, forall_const, true_implies, false_implies, implies_true, and_true, true_and, and_false, false_and, or_true, true_or, or_false, false_or, forall_eq, ↓reduceIte, ne_eq, nI1ne, nI0eq, Classical.not_not, eq_self, reduceCtorEq]
      clear ih
      refine meas2 (F := wl_X12_feed_35 p1 _) (fun v S => ∃ k, k ≤ c ∧ v = nI k - nI 1 ∧ S 10 = nI (b + (c - k)) ∧ ∀ j, j ≠ 10 → S j = if 1190 + b ≤ j ∧ j < 1190 + b + (c - k) then (fB p1 (1190 + b + c - j) &&& 255).toInt32 else s j) (fun v _ => (v + nI 1).toNatClampNeg) ?_ _ _ ⟨c, Nat.le_refl _, rfl, by rw [Nat.sub_self]; exact eb, fun j _ => by rw [if_neg]; omega⟩
      rintro v S ⟨k, hk2, rfl, h10, hS⟩ m ih
      rw [wl_X12_feed_35]
      by_cases q : k = 0
      · subst q
        simp (disch := omega) only [wb_X12_feed_35, sub1_lt, h10, not_true_eq_false, not_false_eq_true, forall_const, true_implies, false_implies, implies_true, and_true, true_and, and_false, false_and, or_true, true_or, or_false, false_or, forall_eq, ↓reduceIte, ne_eq, nI1ne, nI0eq, Classical.not_not, eq_self, reduceCtorEq]
        have out : outS idxF s S := fun j hj => by unfold idxF at hj; rw [hS j (by omega), if_neg (by omega)]
        have e : ∀ j, idxL j → ¬ idxF j → S j = s j := fun j _ hj => out j hj
        have sm : ∀ j, ¬ idxF j → S j = s j := out
        refine hR _ _ _ ⟨fun i hi => ?_, ?_, ⟨h10.symm, by rw [h10]; exact ⟨_, by omega, rfl⟩⟩, fun i hi => ?_, fun b' hb' hb2 i hi => ?_, l7, t, ht, l8, ?_, fun i hi => ?_⟩ out
        · rw [sm (20 + i) (by unfold idxF; omega)]; exact l1 i hi
        · rw [sm 0 (by unfold idxF; omega)]; exact l2
        · rw [hT i]
          split
          · exact byte_fits _
          · exact l5 i hi
        · rw [h10] at hb'
          have e2 : b' = b + (c - 0) := ((nI_eq (by omega) (by omega)).mp hb').symm
          rw [hT i, hS (1190 + i) (by omega)]
          by_cases z : b ≤ i
          · rw [if_pos (by omega), if_pos (by omega), show 1190 + b + c - (1190 + i) = b + c - i from by omega]
            exact byte_and _
          · rw [if_neg (by omega), if_neg (by omega)]
            exact l6 b eb hb i (by omega)
        · rw [sm 1 (by unfold idxF; omega)]; exact l9
        · obtain ⟨a, c2, d1, d2, d3, d4, d5, d6, d7, d8, d9, d10⟩ := l10 i hi
          rw [sm (4410 + i) (by unfold idxF; omega), sm (4430 + i) (by unfold idxF; omega)]
          exact ⟨a, c2, d1, d2, d3, d4, d5, d6, d7, d8, d9, TextOK_congr (by omega) d10 (fun j hj => sm j (by unfold idxF; omega))⟩
      · simp (disch := omega) only [wb_X12_feed_35, sub1_lt, q, h10, sub1_m1, nI_add, nI_clamp, vpin, updne, not_true_eq_false, not_false_eq_true, forall_const, true_implies, false_implies, implies_true, and_true, true_and, and_false, false_and, or_true, true_or, or_false, false_or, forall_eq, ↓reduceIte, ne_eq, nI1ne, nI0eq, Classical.not_not, eq_self, reduceCtorEq]
        refine ih _ _ ⟨k - 1, by omega, rfl, by rw [upde]; exact congrArg nI (by omega), fun j hj => ?_⟩ ?_
        · rw [updne hj]
          by_cases z : j = 1190 + (b + (c - k))
          · subst z
            rw [upde, if_pos (by omega), show 1190 + b + c - (1190 + (b + (c - k))) = k from by omega]
            rfl
          · rw [updne z, hS j hj]
            by_cases z2 : 1190 + b ≤ j ∧ j < 1190 + b + (c - k)
            · rw [if_pos z2, if_pos (by omega)]
            · rw [if_neg z2, if_neg (by omega)]
        · rw [show nI (k - 1) - nI 1 + nI 1 = nI (k - 1) from Int32.sub_add_cancel _ _, show nI k - nI 1 + nI 1 = nI k from Int32.sub_add_cancel _ _, nI_clamp (by omega), nI_clamp (by omega)]
          omega
    · simp (disch := omega) only [wb_X4_append_5, sub1_lt, q, sub1_m1, nI_natle, show ¬ 120 ≤ b + (c - k) from by omega, vpin, nI_add, nI_clamp, not_true_eq_false, not_false_eq_true, forall_const, true_implies, false_implies, implies_true, and_true, true_and, and_false, false_and, or_true, true_or, or_false, false_or, forall_eq, ↓reduceIte, ne_eq, nI1ne, nI0eq, Classical.not_not, eq_self, reduceCtorEq]
      refine ih _ _ _ ⟨k - 1, by omega, rfl, congrArg nI (by omega), fun j => ?_⟩ ?_
      · by_cases z : j = b + (c - k)
        · subst z
          rw [upde, if_pos (by omega), show b + c - (b + (c - k)) = k from by omega]
          rfl
        · rw [updne z, hT j]
          by_cases z2 : b ≤ j ∧ j < b + (c - k)
          · rw [if_pos z2, if_pos (by omega)]
          · rw [if_neg z2, if_neg (by omega)]
      · rw [show nI (k - 1) - nI 1 + nI 1 = nI (k - 1) from Int32.sub_add_cancel _ _, show nI k - nI 1 + nI 1 = nI k from Int32.sub_add_cancel _ _, nI_clamp (by omega), nI_clamp (by omega)]
        omega
  · simp (disch := omega) only [wp_X11_feed, wp_X12_feed, within_eq, g1, nI1ne, eb, nI_add, nI_natle, w, not_true_eq_false, not_false_eq_true, forall_const, true_implies, false_implies, implies_true, and_true, true_and, and_false, false_and, or_true, true_or, or_false, false_or, forall_eq, ↓reduceIte, ne_eq, nI1ne, nI0eq, Classical.not_not, eq_self, reduceCtorEq]
    exact h0
