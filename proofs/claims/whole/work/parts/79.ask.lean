theorem isof_eq {s : Nat → Int32} {r i : Nat} (h2 : s 2 = nI r) (hr : r ≤ 50) (hi : i < 64) : isB (f_X12_isOf s (nI i) (nI 6)) (i < r ∧ s (1310 + i) = nI 6) ∧ ok_X12_isOf s (nI i) (nI 6) := by
  refine ⟨?_, fun _ => by rw [nI_add]; exact vp_in_nI (by omega) (by omega)⟩
  unfold f_X12_isOf
  rw [h2]
  rcases in_cases1 (nI i) r (by omega) with ⟨g, e⟩ | ⟨g, k, hk, ek⟩
  · rw [g, if_pos (of_eq_true nI0eq)]
    exact Or.inr ⟨fun z => e i z.1 rfl, rfl⟩
  · have : i = k := (nI_eq (by omega) (by omega)).mp ek
    subst this
    rw [g, if_neg (by rw [nI1ne]; exact id), nI_add, nI_clamp (by omega)]
    by_cases w : s (1310 + i) = nI 6
    · rw [if_pos w]; exact Or.inl ⟨⟨hk, w⟩, rfl⟩
    · rw [if_neg w]; exact Or.inr ⟨fun z => w z.2, rfl⟩
theorem mod_rul {s : Nat → Int32} {r : Nat} {x : Int64} {Q : Int32 → Prop} (h2 : s 2 = nI r) (hr : r ≤ 50) (hQ : ∀ v, isB v (∀ i, i < 64 → bitL x i = true → i < r ∧ s (1310 + i) = nI 6) → Q v) : wp_X12_areRulings x s Q := by
  unfold wp_X12_areRulings
  refine meas2 (F := wl_X12_areRulings_5 x s Q) (fun v3 v4 => ∃ k, k ≤ 64 ∧ v4 = nI k ∧ isB v3 (∀ i, i < k → bitL x i = true → i < r ∧ s (1310 + i) = nI 6)) (fun _ v4 => 64 - v4.toNatClampNeg) ?_ _ _ ⟨0, by omega, rfl, Or.inl ⟨fun i hi => by omega, rfl⟩⟩
  rintro v3 v4 ⟨k, hk, rfl, hB⟩ m ih
  rw [wl_X12_areRulings_5]
  by_cases w : k = 64
  · subst w
    simp (disch := omega) only [wb_X12_areRulings_5, nI_natle, Nat.le_refl, not_true_eq_false, not_false_eq_true, forall_const, true_implies, false_implies, implies_true, and_true, true_and, and_false, false_and, or_true, true_or, or_false, false_or, forall_eq, ↓reduceIte, ne_eq, nI1ne, nI0eq, Classical.not_not, eq_self, reduceCtorEq]
    refine ⟨?_, hQ _ hB⟩
    rcases hB with ⟨-, e⟩ | ⟨-, e⟩
    · rw [e]; exact zb1
    · rw [e]; exact zb0
  · obtain ⟨b1, b2⟩ := isof_eq (i := k) h2 hr (by omega)
    have mu : 64 - (nI (k + 1)).toNatClampNeg < 64 - (nI k).toNatClampNeg := by rw [nI_clamp (by omega), nI_clamp (by omega)]; omega
    simp (disch := omega) only [wb_X12_areRulings_5, nI_natle, show ¬ 64 ≤ k from by omega, bit_shr, nI_add, b2, not_true_eq_false, not_false_eq_true, forall_const, true_implies, false_implies, implies_true, and_true, true_and, and_false, false_and, or_true, true_or, or_false, false_or, forall_eq, ↓reduceIte, ne_eq, nI1ne, nI0eq, Classical.not_not, eq_self, reduceCtorEq]
    refine ih _ _ ⟨k + 1, by omega, rfl, ?_⟩ mu
    rcases hB with ⟨hB, rfl⟩ | ⟨hB, rfl⟩
    · rw [if_neg (by rw [nI1ne]; exact id)]
      cases hb : bitL x k
      · have : (lg_cmp (if false = true then 1 else 0) 0 = 0) = True := eq_true (by decide)
        rw [if_pos (of_eq_true this)]
        refine Or.inl ⟨fun i hi hx => ?_, rfl⟩
        by_cases e : i = k
        · rw [e, hb] at hx; cases hx
        · exact hB i (by omega) hx
      · have : (lg_cmp (if true = true then 1 else 0) 0 = 0) = False := eq_false (by decide)
        rw [if_neg (fun z => by rw [this] at z; exact z)]
        rcases b1 with ⟨b1, e1⟩ | ⟨b1, e1⟩
        · rw [e1, if_neg (by rw [nI1ne]; exact id)]
          refine Or.inl ⟨fun i hi hx => ?_, rfl⟩
          by_cases e : i = k
          · rw [e]; exact b1
          · exact hB i (by omega) hx
        · rw [e1, if_pos (of_eq_true nI0eq)]
          exact Or.inr ⟨fun z => b1 (z k (by omega) hb), rfl⟩
    · rw [if_pos (of_eq_true nI0eq)]
      exact Or.inr ⟨fun z => hB (fun i hi => z i (by omega)), rfl⟩
theorem bit32 (b : Bool) : ((if b = true then 1 else 0 : Int64)).toInt32 = nI (if b then 1 else 0) := by cases b <;> decide
theorem mod_ask {s t : Nat → Int32} {q : Nat} {p3 p4 : Int64} {K : Int32 → (Nat → Int32) → Prop} (hq : q < 6) (h8 : s 8 = nI q) (ht : t 8 = nI q) (hK : ∀ v, v 8 = nI (q + 1) → (∀ j, j < 50 → v (572 + 50 * q + j) = nI (if bitL p3 j then 1 else 0) ∧ v (872 + 50 * q + j) = nI (if bitL p4 j then 1 else 0)) → (∀ x, x ≠ 8 → ¬ (572 + 50 * q ≤ x ∧ x < 572 + 50 * q + 50) → ¬ (872 + 50 * q ≤ x ∧ x < 872 + 50 * q + 50) → v x = t x) → K (nI q) v) : ∃ n, wl_X12_ask_89 p3 p4 s K n (nI 0) t := by
  refine meas2 (F := wl_X12_ask_89 p3 p4 s K) (fun v8 u => ∃ k, k ≤ 50 ∧ v8 = nI k ∧ (∀ j, j < k → u (572 + 50 * q + j) = nI (if bitL p3 j then 1 else 0) ∧ u (872 + 50 * q + j) = nI (if bitL p4 j then 1 else 0)) ∧ (∀ x, ¬ (572 + 50 * q ≤ x ∧ x < 572 + 50 * q + 50) → ¬ (872 + 50 * q ≤ x ∧ x < 872 + 50 * q + 50) → u x = t x)) (fun v8 _ => 50 - v8.toNatClampNeg) ?_ _ _ ⟨0, by omega, rfl, fun j hj => by omega, fun _ _ _ => rfl⟩
  rintro v8 u ⟨k, hk, rfl, i1, i2⟩ m ih
  rw [wl_X12_ask_89]
  by_cases w : k = 50
  · subst w
    simp (disch := omega) only [wb_X12_ask_89, nI_natle, Nat.le_refl, h8, not_true_eq_false, not_false_eq_true, forall_const, true_implies, false_implies, implies_true, and_true, true_and, and_false, false_and, or_true, true_or, or_false, false_or, forall_eq, ↓reduceIte, ne_eq, nI1ne, nI0eq, Classical.not_not, eq_self, reduceCtorEq]
    refine hK _ ?_ (fun j hj => ?_) (fun x h1 h2 h3 => ?_)
    · rw [upde, i2 8 (by omega) (by omega), ht, nI_add]
    · rw [updne (by omega), updne (by omega)]; exact i1 j hj
    · rw [updne h1]; exact i2 x h2 h3
  · simp (disch := omega) only [wb_X12_ask_89, nI_natle, show ¬ 50 ≤ k from by omega, h8, nI_mul, nI_add, nI_clamp, vpin, bit_shr, bit32, not_true_eq_false, not_false_eq_true, forall_const, true_implies, false_implies, implies_true, and_true, true_and, and_false, false_and, or_true, true_or, or_false, false_or, forall_eq, ↓reduceIte, ne_eq, nI1ne, nI0eq, Classical.not_not, eq_self, reduceCtorEq]
    refine ih _ _ ⟨k + 1, by omega, rfl, fun j hj => ?_, fun x h1 h2 => ?_⟩ (by rw [nI_clamp (by omega), nI_clamp (by omega)]; omega)
    · by_cases e : j = k
      · subst e
        rw [updne (by omega), upde, upde]
        exact ⟨rfl, rfl⟩
      · rw [updne (by omega), updne (by omega), updne (by omega), updne (by omega)]
        exact i1 j (by omega)
    · rw [updne (by omega), updne (by omega)]
      exact i2 x h1 h2
theorem core_ask {today : Int32} {rights : Nat → Option Nat} {count : Int32} {leans : Nat → Int64} {heardOn : Nat → Int32} {overruled : Int64} {termDays step : Int32} {R_L : List Nat} {R_kind R_number R_side R_n R_cell R_day R_ruling R_share : Nat → Int32} {cells : Nat → Int32} {fl fn : Nat → Int64} {qc : Int32} {wa : Nat → Int32} {wc : Int32} {s : Nat → Int32} {p1 p2 : Int32} {p3 p4 : Int64} {R : (Nat → Int32) → (Nat → Int64) → (Nat → Int64) → Int32 → (Nat → Int32) → Prop} (hC : ICourt today rights count leans heardOn overruled termDays step R_L R_kind R_number R_side R_n R_cell R_day R_ruling R_share s) (h : IBench cells fl fn qc wa wc s) (hR : ∀ a b c d v, IBench a b c d wa wc v → outS idxB s v → R a b c d v) : wp_X11_ask p1 p2 p3 p4 rights count cells fl fn qc R_L R_kind (fun r a b c d => wp_X12_ask p1 p2 p3 p4 s (fun r' v => r = r' ∧ R a b c d v)) := by
  have h0 := hR cells fl fn qc s h (fun _ _ => rfl)
  obtain ⟨⟨q, hq, rfl, h8, h1⟩, w, hw, hw1, hw2, hw3⟩ := h
  have hm := hC.2.2
  have hr : ∃ r, r ≤ 50 ∧ count = nI r ∧ s 2 = nI r := by
    obtain ⟨-, r, ki, hr, h4, h5, -⟩ := hm
    exact ⟨r, hr, h4, h5⟩
  obtain ⟨r, hr, rfl, h2⟩ := hr
  rcases in_cases p1 0 29 (by decide) (by decide) with ⟨g1, -⟩ | ⟨g1, x1, -, hx1, rfl⟩
  · simp only [wp_X11_ask, wp_X12_ask, f_X11_isSpot, f_X12_isSpot, within_eq, g1, not_true_eq_false, not_false_eq_true, forall_const, true_implies, false_implies, implies_true, and_true, true_and, and_false, false_and, or_true, true_or, or_false, false_or, forall_eq, ↓reduceIte, ne_eq, nI1ne, nI0eq, Classical.not_not, eq_self, reduceCtorEq]
    exact h0
  rcases in_cases p2 0 4 (by decide) (by decide) with ⟨g2, -⟩ | ⟨g2, x2, -, hx2, rfl⟩
  · simp only [wp_X11_ask, wp_X12_ask, f_X11_isSpot, f_X12_isSpot, f_X11_isMatter, within_eq, g1, g2, nI1ne, not_true_eq_false, not_false_eq_true, forall_const, true_implies, false_implies, implies_true, and_true, true_and, and_false, false_and, or_true, true_or, or_false, false_or, forall_eq, ↓reduceIte, ne_eq, nI1ne, nI0eq, Classical.not_not, eq_self, reduceCtorEq]
    exact h0
  simp only [wp_X11_ask, f_X11_isSpot, f_X11_isMatter, within_eq, g1, g2, nI1ne, not_true_eq_false, not_false_eq_true, forall_const, true_implies, false_implies, implies_true, and_true, true_and, and_false, false_and, or_true, true_or, or_false, false_or, forall_eq, ↓reduceIte, ne_eq, nI1ne, nI0eq, Classical.not_not, eq_self, reduceCtorEq]
  refine cls_rulings hm hr (fun y hy => ?_)
  have bad : ∀ a b c d, ¬ ((∀ i, i < 64 → bitL p3 i = true → i < r ∧ s (1310 + i) = nI 6) ∧ (∀ i, i < 64 → bitL p4 i = true → i < r ∧ s (1310 + i) = nI 6)) → R a b c d s → wp_X12_ask (nI x1) (nI x2) p3 p4 s (fun r' v => (-2) = r' ∧ R a b c d v) := by
    intro a b c d hn hR0
    simp only [wp_X12_ask, f_X12_isSpot, g1, g2, nI1ne, not_true_eq_false, not_false_eq_true, forall_const, true_implies, false_implies, implies_true, and_true, true_and, and_false, false_and, or_true, true_or, or_false, false_or, forall_eq, ↓reduceIte, ne_eq, nI1ne, nI0eq, Classical.not_not, eq_self, reduceCtorEq]
    refine mod_rul h2 hr (fun v hv => ⟨fun _ => hR0, fun z => mod_rul h2 hr (fun v' hv' => ⟨fun z' => ?_, fun _ => hR0⟩)⟩)
    have e1 := isB_0 hv
    have e2 := isB_0 hv'
    rw [e1] at z
    rw [e2] at z'
    exact absurd ⟨Classical.byContradiction z, Classical.byContradiction z'⟩ hn
  have good : ∀ K : Int32 → (Nat → Int32) → Prop, ((∀ i, i < 64 → bitL p3 i = true → i < r ∧ s (1310 + i) = nI 6) ∧ (∀ i, i < 64 → bitL p4 i = true → i < r ∧ s (1310 + i) = nI 6)) → (q = 6 → K (-4) s) → (q < 6 → ∃ n, wl_X12_ask_89 p3 p4 s K n (nI 0) (upd (upd s (560 + q) (nI x1)) (566 + q) (nI x2))) → wp_X12_ask (nI x1) (nI x2) p3 p4 s K := by
    intro K hg k1 k2
    simp only [wp_X12_ask, f_X12_isSpot, g1, g2, nI1ne, not_true_eq_false, not_false_eq_true, forall_const, true_implies, false_implies, implies_true, and_true, true_and, and_false, false_and, or_true, true_or, or_false, false_or, forall_eq, ↓reduceIte, ne_eq, nI1ne, nI0eq, Classical.not_not, eq_self, reduceCtorEq]
    refine mod_rul h2 hr (fun v hv => ⟨fun z => ?_, fun _ => mod_rul h2 hr (fun v' hv' => ⟨fun _ => ?_, fun z => ?_⟩)⟩)
    · rw [isB_0 hv] at z
      exact absurd hg.1 z
    · simp (disch := omega) only [h8, nI_nateq, nI_add, nI_clamp, vpin, not_true_eq_false, not_false_eq_true, forall_const, true_implies, false_implies, implies_true, and_true, true_and, and_false, false_and, or_true, true_or, or_false, false_or, forall_eq, ↓reduceIte, ne_eq, nI1ne, nI0eq, Classical.not_not, eq_self, reduceCtorEq]
      exact ⟨fun z => k2 (by omega), fun z => k1 z⟩
    · rw [isB_0 hv'] at z
      exact absurd hg.2 z
  have key : ((lg_cmp ((p3 ||| p4) &&& (y ^^^ (-1))) 0) = 0) = ((∀ i, i < 64 → bitL p3 i = true → i < r ∧ s (1310 + i) = nI 6) ∧ (∀ i, i < 64 → bitL p4 i = true → i < r ∧ s (1310 + i) = nI 6)) := by
    apply propext
    rw [cmp0]
    constructor
    · intro z
      have f : ∀ i, bitL (p3 ||| p4) i = true → bitL y i = true := by
        intro i hi
        apply Classical.byContradiction
        intro ny
        have := (bit_and_not (x := p3 ||| p4) (y := y) i).mpr ⟨hi, ny⟩
        rw [z, bit_0] at this
        cases this
      refine ⟨fun i _ hb => (hy i).mp (f i ?_), fun i _ hb => (hy i).mp (f i ?_)⟩
      · rw [bit_or, hb]; rfl
      · rw [bit_or, hb, Bool.or_true]
    · rintro ⟨z1, z2⟩
      refine bit_ext (fun i hi => ?_)
      rw [bit_0]
      apply Bool.eq_false_iff.mpr
      intro z
      obtain ⟨a, b⟩ := (bit_and_not i).mp z
      rw [bit_or] at a
      apply b
      rw [hy]
      cases h3 : bitL p3 i
      · rw [h3, Bool.false_or] at a
        exact z2 i hi a
      · exact z1 i hi h3
  rw [key]
  refine ⟨fun hg => ?_, fun hn => bad _ _ _ _ hn h0⟩
  by_cases q6 : q = 6
  · subst q6
    simp (disch := omega) only [nI_natlt, Nat.lt_irrefl, not_true_eq_false, not_false_eq_true, forall_const, true_implies, false_implies, implies_true, and_true, true_and, and_false, false_and, or_true, true_or, or_false, false_or, forall_eq, ↓reduceIte, ne_eq, nI1ne, nI0eq, Classical.not_not, eq_self, reduceCtorEq]
    exact good _ hg (fun _ => ⟨rfl, h0⟩) (fun z => absurd z (by omega))
  · have q6' : q < 6 := by omega
    simp (disch := omega) only [nI_natlt, q6', wp_X0_addQuestion, f_X11_cellOf, vpin, nI_clamp, nI_mul, nI_add, nI_subL, Nat.add_sub_cancel, not_true_eq_false, not_false_eq_true, forall_const, true_implies, false_implies, implies_true, and_true, true_and, and_false, false_and, or_true, true_or, or_false, false_or, forall_eq, ↓reduceIte, ne_eq, nI1ne, nI0eq, Classical.not_not, eq_self, reduceCtorEq]
    refine good _ hg (fun z => absurd z q6) (fun _ => mod_ask q6' h8 (by rw [updne (by omega), updne (by omega)]; exact h8) (fun v v8 vb vo => ⟨rfl, hR _ _ _ _ _ ?_ (fun j hj => ?_)⟩))
    · refine ⟨⟨q + 1, by omega, rfl, v8, fun i hi => ?_⟩, w, hw, hw1, ?_, fun i hi => ?_⟩
      · by_cases e : i = q
        · subst e
          refine ⟨⟨x1, x2, by omega, by omega, ?_, ?_, upde⟩, fun k hk => ?_⟩
          · rw [vo _ (by omega) (by omega) (by omega), updne (by omega), upde]
          · rw [vo _ (by omega) (by omega) (by omega), upde]
          · rw [upLe, upLe]; exact vb k hk
        · obtain ⟨⟨p, m, hp, hmm, e1, e2, e3⟩, e4⟩ := h1 i (by omega)
          refine ⟨⟨p, m, hp, hmm, ?_, ?_, by rw [updne e]; exact e3⟩, fun k hk => ?_⟩
          · rw [vo _ (by omega) (by omega) (by omega), updne (by omega), updne (by omega)]; exact e1
          · rw [vo _ (by omega) (by omega) (by omega), updne (by omega), updne (by omega)]; exact e2
          · rw [upLne e, upLne e, vo _ (by omega) (by omega) (by omega), vo _ (by omega) (by omega) (by omega), updne (by omega), updne (by omega), updne (by omega), updne (by omega)]
            exact e4 k hk
      · rw [vo _ (by omega) (by omega) (by omega), updne (by omega), updne (by omega)]; exact hw2
      · rw [vo _ (by omega) (by omega) (by omega), updne (by omega), updne (by omega)]; exact hw3 i hi
    · unfold idxB at hj
      rw [vo _ (by omega) (by omega) (by omega), updne (by omega), updne (by omega)]
