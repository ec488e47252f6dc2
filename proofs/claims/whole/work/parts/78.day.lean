/-- a late right that is not heard yet -/
def UNH (s : Nat → Int32) (v : Nat) : Prop := s (1310 + v) = nI 7 ∧ s (1760 + v) = nI 0
def FUH (s : Nat → Int32) (k : Nat) : Prop := ∀ v, v < k → ¬ UNH s v
theorem nIz {a : Nat} (h : a < 2 ^ 31) : (nI a = 0) = (a = 0) := by
  rw [← nI_0, nI_nateq h (by omega)]
theorem nm1 {k : Nat} (h : k < 2 ^ 31) : (nI k = -1) = False := eq_false (fun z => m1_ne h z.symm)
theorem sit_one {today : Int32} {rights : Nat → Option Nat} {leans : Nat → Int64} {heardOn : Nat → Int32} {overruled : Int64} {R_L : List Nat} {R_kind R_number R_side R_n R_cell R_day R_ruling R_share : Nat → Int32} {s : Nat → Int32} {r i : Nat} (hm : ICm today rights (nI r) leans heardOn overruled R_L R_kind R_number R_side R_n R_cell R_day R_ruling R_share s) (hr : r ≤ 50) (hi : i < r) : ∃ a, rights i = some a ∧ a ∈ R_L ∧ ((R_kind a = nI 7 ∧ heardOn i = -5) ↔ UNH s i) ∧ (UNH s i → ∃ q, q < i ∧ s (1310 + q) = nI 6 ∧ R_ruling a = nI q ∧ s (1610 + i) = nI q ∧ R_share a = s (1710 + i)) := by
  obtain ⟨-, r', ki, hr', h4, h5, h6, h7, h8, h9⟩ := hm
  have er : r' = r := ((nI_eq (by omega) (by omega)).mp h4).symm
  subst er
  obtain ⟨a, g1, g2, g3, g4, g5, g6, g7, g8, -, g9, -, -, -, -, g10⟩ := h6 i hi
  refine ⟨a, g1, g2, ?_, ?_⟩
  · by_cases k7 : ki i = 7
    · obtain ⟨⟨q, hq, -, z1, z2⟩, -, -, z3, z4⟩ := g10 k7
      rw [k7] at g5 g6
      rcases z4 with ⟨y1, y2, -⟩ | ⟨y1, y2, -⟩
      · exact ⟨fun _ => ⟨g5, y1⟩, fun _ => ⟨g6, by rw [z3]; exact y2⟩⟩
      · refine ⟨fun e => ?_, fun e => ?_⟩
        · rw [z3] at e
          exact absurd e.2 (isN_m5 (by omega) y2)
        · have e2 := e.2
          rw [y1] at e2
          exact absurd e2 (by decide)
    · refine ⟨fun e => ?_, fun e => ?_⟩
      · rw [g6] at e
        exact absurd ((nI_eq (by omega) (by omega)).mp e.1) k7
      · have e1 := e.1
        rw [g5] at e1
        exact absurd ((nI_eq (by omega) (by omega)).mp e1) k7
  · intro u
    have e1 := u.1
    rw [g5] at e1
    obtain ⟨⟨q, hq, k6, z1, z2⟩, zs, -⟩ := g10 ((nI_eq (by omega) (by omega)).mp e1)
    obtain ⟨b, -, -, -, -, f5, -⟩ := h6 q (by omega)
    exact ⟨q, hq, by rw [f5, k6], z2, z1, zs⟩
theorem day_mono {today : Int32} {rights : Nat → Option Nat} {leans : Nat → Int64} {heardOn : Nat → Int32} {overruled : Int64} {R_L : List Nat} {R_kind R_number R_side R_n R_cell R_day R_ruling R_share : Nat → Int32} {s : Nat → Int32} {r j k : Nat} (hm : ICm today rights (nI r) leans heardOn overruled R_L R_kind R_number R_side R_n R_cell R_day R_ruling R_share s) (hr : r ≤ 50) (hk : k < r) (hj : j < k) : s (1660 + j) ≤ s (1660 + k) := by
  obtain ⟨-, r', ki, hr', h4, h5, h6, h7, h8, h9⟩ := hm
  have er : r' = r := ((nI_eq (by omega) (by omega)).mp h4).symm
  subst er
  obtain ⟨a, -, -, -, -, -, -, -, -, -, -, -, g1, -⟩ := h6 k hk
  obtain ⟨d, e, w1, w2, w3⟩ := g1 j hj
  rw [w1, w2, nI_natle (by omega) (by omega)]
  exact w3.1
theorem FUH_s {s : Nat → Int32} {k : Nat} : FUH s (k + 1) ↔ FUH s k ∧ ¬ UNH s k := by
  constructor
  · intro h
    exact ⟨fun v hv => h v (by omega), h k (by omega)⟩
  · rintro ⟨h1, h2⟩ v hv
    by_cases e : v = k
    · rw [e]; exact h2
    · exact h1 v (by omega)
theorem FUH_uniq {s : Nat → Int32} {j k : Nat} (h1 : FUH s j) (h2 : UNH s j) (h3 : FUH s k) (h4 : UNH s k) : j = k := by
  rcases Nat.lt_trichotomy j k with w | w | w
  · exact absurd h2 (h3 j w)
  · exact w
  · exact absurd h4 (h1 k w)
theorem cls_sit {rights : Nat → Option Nat} {leans : Nat → Int64} {heardOn : Nat → Int32} {overruled : Int64} {R_L : List Nat} {R_kind R_number R_side R_n R_cell R_day R_ruling R_share : Nat → Int32} {s : Nat → Int32} {r t st : Nat} {Q : (Nat → Int32) → Int64 → Prop} (hm : ICm (nI t) rights (nI r) leans heardOn overruled R_L R_kind R_number R_side R_n R_cell R_day R_ruling R_share s) (hr : r ≤ 50) (ht : t ≤ 999) (hs1 : 1 ≤ st) (hs2 : st ≤ 20)
    (q0 : (¬ t % st = 0 ∨ FUH s r) → Q heardOn overruled)
    (q1 : t % st = 0 → ∀ j q, j < r → q < j → FUH s j → UNH s j → s (1610 + j) = nI q → Q (upd heardOn j (nI t)) (if s (1710 + j) ≤ nI 50 then overruled else overruled ||| ((1 : Int64) <<< ((nI q).toInt64 &&& 63)))) : wp_X2_sit (nI t) rights (nI r) heardOn overruled (nI st) R_L R_kind R_ruling R_share Q := by
  unfold wp_X2_sit
  have hle := Nat.mod_le t st
  simp (disch := omega) only [nI_nle, nI_ne0, pk_rem, nIz, not_true_eq_false, not_false_eq_true, forall_const, true_implies, false_implies, implies_true, and_true, true_and, and_false, false_and, or_true, true_or, or_false, false_or, forall_eq, ↓reduceIte, ne_eq, nI1ne, nI0eq, Classical.not_not, eq_self, reduceCtorEq]
  refine ⟨fun z => q0 (Or.inl z), fun z => ?_⟩
  refine meas1 (F := wl_X2_sit_19 (nI t) rights (nI r) heardOn overruled R_L R_kind R_ruling R_share Q) (fun v => ∃ i, i ≤ r ∧ v = nI i ∧ FUH s i) (fun v => r - v.toNatClampNeg) ?_ _ ⟨0, by omega, rfl, fun v hv => by omega⟩
  rintro v ⟨i, hi, rfl, hF⟩ m ih
  rw [wl_X2_sit_19]
  by_cases w : i = r
  · subst w
    simp (disch := omega) only [wb_X2_sit_19, nI_natle, Nat.le_refl, not_true_eq_false, not_false_eq_true, forall_const, true_implies, false_implies, implies_true, and_true, true_and, and_false, false_and, or_true, true_or, or_false, false_or, forall_eq, ↓reduceIte, ne_eq, nI1ne, nI0eq, Classical.not_not, eq_self, reduceCtorEq]
    exact q0 (Or.inr hF)
  · obtain ⟨a, g1, g2, g3, g4⟩ := sit_one hm hr (show i < r by omega)
    have ne : ¬ rights i = none := by rw [g1]; exact fun z => by cases z
    have og : oget (rights i) = a := by rw [g1]; rfl
    have g3' : (R_kind a = nI 7 ∧ heardOn i = -5) = UNH s i := propext g3
    simp (disch := omega) only [wb_X2_sit_19, nI_natle, show ¬ r ≤ i from by omega, vpin, nI_clamp, nI_add, ne, og, g2, g3', ok_X9_overrules, f_X9_overrules, not_true_eq_false, not_false_eq_true, forall_const, true_implies, false_implies, implies_true, and_true, true_and, and_false, false_and, or_true, true_or, or_false, false_or, forall_eq, ↓reduceIte, ne_eq, nI1ne, nI0eq, Classical.not_not, eq_self, reduceCtorEq]
    refine ⟨fun u => ?_, fun u => ih _ ⟨i + 1, by omega, rfl, FUH_s.mpr ⟨hF, u⟩⟩ (by rw [nI_clamp (by omega), nI_clamp (by omega)]; omega)⟩
    obtain ⟨q, hq, -, e1, e2, e3⟩ := g4 u
    have := q1 z i q (by omega) hq hF u e2
    rw [e1, e3]
    by_cases w2 : s (1710 + i) ≤ nI 50
    · rw [if_pos w2] at this
      simp only [w2, nI0eq, not_true_eq_false, not_false_eq_true, forall_const, true_implies, false_implies, implies_true, and_true, true_and, and_false, false_and, or_true, true_or, or_false, false_or, forall_eq, ↓reduceIte, ne_eq, nI1ne, nI0eq, Classical.not_not, eq_self, reduceCtorEq]
      exact this
    · rw [if_neg w2] at this
      simp only [w2, nI1ne, not_true_eq_false, not_false_eq_true, forall_const, true_implies, false_implies, implies_true, and_true, true_and, and_false, false_and, or_true, true_or, or_false, false_or, forall_eq, ↓reduceIte, ne_eq, nI1ne, nI0eq, Classical.not_not, eq_self, reduceCtorEq]
      exact this
/-- the row behind a hearing -/
def hrd (s : Nat → Int32) (t j q : Nat) : Nat → Int32 := upd (upd (upd (upd s (1760 + j) (nI 1)) (1810 + j) (nI t)) (1860 + j) (if s (1710 + j) ≤ nI 50 then nI 0 else nI 1)) (1860 + q) (if s (1710 + j) ≤ nI 50 then s (1860 + q) else nI 1)
theorem mod_hears {rights : Nat → Option Nat} {leans : Nat → Int64} {heardOn : Nat → Int32} {overruled : Int64} {R_L : List Nat} {R_kind R_number R_side R_n R_cell R_day R_ruling R_share : Nat → Int32} {s : Nat → Int32} {r t st : Nat} {K : (Nat → Int32) → Prop} (hm : ICm (nI t) rights (nI r) leans heardOn overruled R_L R_kind R_number R_side R_n R_cell R_day R_ruling R_share s) (hr : r ≤ 50) (ht : t ≤ 999) (hs1 : 1 ≤ st) (hs2 : st ≤ 20) (h0 : s 0 = nI t) (h13 : s 13 = nI st)
    (q0 : (¬ t % st = 0 ∨ FUH s r) → K s)
    (q1 : t % st = 0 → ∀ j q, j < r → q < j → FUH s j → UNH s j → s (1610 + j) = nI q → K (hrd s t j q)) : wp_X12_hears s K := by
  have h2 : s 2 = nI r := by
    obtain ⟨-, r', ki, hr', h4, h5, -⟩ := hm
    rw [h5, h4]
  unfold wp_X12_hears
  have hle := Nat.mod_le t st
  simp (disch := omega) only [h0, h13, nI_nle, nI_ne0, pk_rem, nIz, not_true_eq_false, not_false_eq_true, forall_const, true_implies, false_implies, implies_true, and_true, true_and, and_false, false_and, or_true, true_or, or_false, false_or, forall_eq, ↓reduceIte, ne_eq, nI1ne, nI0eq, Classical.not_not, eq_self, reduceCtorEq]
  refine ⟨fun z => ?_, fun z => q0 (Or.inl z)⟩
  refine meas2 (F := wl_X12_hears_22 s K) (fun v1 v2 => ∃ k, k ≤ r ∧ v2 = nI k ∧ (v1 = -1 ∧ FUH s k ∨ ∃ j, j < k ∧ v1 = nI j ∧ FUH s j ∧ UNH s j)) (fun _ v2 => r - v2.toNatClampNeg) ?_ _ _ ⟨0, by omega, rfl, Or.inl ⟨rfl, fun v hv => by omega⟩⟩
  rintro v1 v2 ⟨k, hk, rfl, hB⟩ m ih
  rw [wl_X12_hears_22]
  by_cases w : k = r
  · subst w
    rcases hB with ⟨rfl, hF⟩ | ⟨j, hj, rfl, hF, hU⟩
    · simp (disch := omega) only [wb_X12_hears_22, h2, nI_natle, Nat.le_refl, not_true_eq_false, not_false_eq_true, forall_const, true_implies, false_implies, implies_true, and_true, true_and, and_false, false_and, or_true, true_or, or_false, false_or, forall_eq, ↓reduceIte, ne_eq, nI1ne, nI0eq, Classical.not_not, eq_self, reduceCtorEq]
      exact q0 (Or.inr hF)
    · obtain ⟨a, g1, g2, g3, g4⟩ := sit_one hm hr hj
      obtain ⟨q, hq, -, e1, e2, e3⟩ := g4 hU
      have key := q1 z j q hj hq hF hU e2
      unfold hrd at key
      simp (disch := omega) only [wb_X12_hears_22, h2, nI_natle, Nat.le_refl, nm1, nI_add, nI_clamp, vpin, updne, upde, h0, e2, not_true_eq_false, not_false_eq_true, forall_const, true_implies, false_implies, implies_true, and_true, true_and, and_false, false_and, or_true, true_or, or_false, false_or, forall_eq, ↓reduceIte, ne_eq, nI1ne, nI0eq, Classical.not_not, eq_self, reduceCtorEq]
      exact key
  · have hk2 : k < r := by omega
    have mu : r - (nI (k + 1)).toNatClampNeg < r - (nI k).toNatClampNeg := by rw [nI_clamp (by omega), nI_clamp (by omega)]; omega
    by_cases u : UNH s k
    · simp (disch := omega) only [wb_X12_hears_22, h2, nI_natle, show ¬ r ≤ k from by omega, nI_add, nI_clamp, vpin, u.1, u.2, not_true_eq_false, not_false_eq_true, forall_const, true_implies, false_implies, implies_true, and_true, true_and, and_false, false_and, or_true, true_or, or_false, false_or, forall_eq, ↓reduceIte, ne_eq, nI1ne, nI0eq, Classical.not_not, eq_self, reduceCtorEq]
      rcases hB with ⟨rfl, hF⟩ | ⟨j, hj, rfl, hF, hU⟩
      · simp only [not_true_eq_false, not_false_eq_true, forall_const, true_implies, false_implies, implies_true, and_true, true_and, and_false, false_and, or_true, true_or, or_false, false_or, forall_eq, ↓reduceIte, ne_eq, nI1ne, nI0eq, Classical.not_not, eq_self, reduceCtorEq]
        exact ih _ _ ⟨k + 1, by omega, rfl, Or.inr ⟨k, by omega, rfl, hF, u⟩⟩ mu
      · have hd := day_mono hm hr hk2 hj
        simp (disch := omega) only [nm1, nI_add, nI_clamp, vpin, hd, not_true_eq_false, not_false_eq_true, forall_const, true_implies, false_implies, implies_true, and_true, true_and, and_false, false_and, or_true, true_or, or_false, false_or, forall_eq, ↓reduceIte, ne_eq, nI1ne, nI0eq, Classical.not_not, eq_self, reduceCtorEq]
        exact ih _ _ ⟨k + 1, by omega, rfl, Or.inr ⟨j, by omega, rfl, hF, hU⟩⟩ mu
    · have e0 : (if s (1310 + k) = nI 7 then if s (1760 + k) = 0 then nI 1 else nI 0 else nI 0) = nI 0 := by
        by_cases a : s (1310 + k) = nI 7
        · rw [if_pos a, if_neg (fun b => u ⟨a, by rw [nI_0]; exact b⟩)]
        · rw [if_neg a]
      simp (disch := omega) only [wb_X12_hears_22, h2, nI_natle, show ¬ r ≤ k from by omega, nI_add, nI_clamp, vpin, e0, not_true_eq_false, not_false_eq_true, forall_const, true_implies, false_implies, implies_true, and_true, true_and, and_false, false_and, or_true, true_or, or_false, false_or, forall_eq, ↓reduceIte, ne_eq, nI1ne, nI0eq, Classical.not_not, eq_self, reduceCtorEq]
      refine ih _ _ ⟨k + 1, by omega, rfl, ?_⟩ mu
      rcases hB with ⟨rfl, hF⟩ | ⟨j, hj, rfl, hF, hU⟩
      · exact Or.inl ⟨rfl, FUH_s.mpr ⟨hF, u⟩⟩
      · exact Or.inr ⟨j, by omega, rfl, hF, hU⟩
theorem hrd_ne {s : Nat → Int32} {t j q : Nat} {x : Nat} (h1 : x ≠ 1760 + j) (h2 : x ≠ 1810 + j) (h3 : x ≠ 1860 + j) (h4 : x ≠ 1860 + q) : hrd s t j q x = s x := by
  unfold hrd
  rw [updne h4, updne h3, updne h2, updne h1]
theorem ICm_hear {rights : Nat → Option Nat} {leans : Nat → Int64} {heardOn : Nat → Int32} {overruled : Int64} {R_L : List Nat} {R_kind R_number R_side R_n R_cell R_day R_ruling R_share : Nat → Int32} {s : Nat → Int32} {r t j q : Nat} (hm : ICm (nI t) rights (nI r) leans heardOn overruled R_L R_kind R_number R_side R_n R_cell R_day R_ruling R_share s) (hr : r ≤ 50) (ht : t ≤ 999) (hj : j < r) (hq : q < j) (hu : UNH s j) (h16 : s (1610 + j) = nI q) : ICm (nI t) rights (nI r) leans (upd heardOn j (nI t)) (if s (1710 + j) ≤ nI 50 then overruled else overruled ||| ((1 : Int64) <<< ((nI q).toInt64 &&& 63))) R_L R_kind R_number R_side R_n R_cell R_day R_ruling R_share (hrd s t j q) := by
  obtain ⟨h3, r', ki, hr', h4, h5, h6, h7, h8, h9⟩ := hm
  have er : r' = r := ((nI_eq (by omega) (by omega)).mp h4).symm
  subst er
  have kj : ki j = 7 := by
    obtain ⟨a, -, -, -, -, g5, -⟩ := h6 j hj
    have := hu.1
    rw [g5] at this
    exact (nI_eq (by obtain ⟨a, -, -, -, g4, -⟩ := h6 j hj; omega) (by omega)).mp this
  have kq : ki q = 6 := by
    obtain ⟨a, -, -, -, -, -, -, -, -, -, -, -, -, -, -, g10⟩ := h6 j hj
    obtain ⟨⟨q', hq', k6, z1, -⟩, -⟩ := g10 kj
    rw [h16] at z1
    have : q = q' := (nI_eq (by omega) (by omega)).mp z1
    rw [this]; exact k6
  have wf : ∀ x, x < 1760 ∨ 1910 ≤ x → hrd s t j q x = s x := fun x hx => hrd_ne (by omega) (by omega) (by omega) (by omega)
  have ob : ∀ i, bitL (if s (1710 + j) ≤ nI 50 then overruled else overruled ||| ((1 : Int64) <<< ((nI q).toInt64 &&& 63))) i = true ↔ (bitL overruled i = true ∨ (¬ s (1710 + j) ≤ nI 50 ∧ i = q)) := by
    intro i
    by_cases w : s (1710 + j) ≤ nI 50
    · rw [if_pos w]
      exact ⟨Or.inl, fun z => z.elim id (fun z => absurd w z.1)⟩
    · rw [if_neg w, or_bit (by omega)]
      exact ⟨fun z => z.elim Or.inl (fun e => Or.inr ⟨w, e⟩), fun z => z.elim Or.inl (fun e => Or.inr e.2)⟩
  refine ⟨h3, r', ki, hr', rfl, ?_, fun i hi => ?_, fun i hi k hk => ?_, h8, fun i hi => ?_⟩
  · rw [wf _ (by omega)]; exact h5
  · obtain ⟨a, g1, g2, g3, g4, g5, g6, g7, g8, g9, g10, g11, g12, g13, g14, g15⟩ := h6 i hi
    rw [wf (1310 + i) (by omega), wf (1360 + i) (by omega), wf (1510 + i) (by omega), wf (1410 + i) (by omega), wf (1460 + i) (by omega), wf (1560 + i) (by omega), wf (1610 + i) (by omega), wf (1710 + i) (by omega), wf (1660 + i) (by omega)]
    refine ⟨a, g1, g2, g3, g4, g5, g6, g7, g8, g9, g10, g11, fun x hx => ?_, g13, fun z => ?_, fun z => ?_⟩
    · rw [wf (1660 + x) (by omega)]
      exact g12 x hx
    · obtain ⟨y1, y2, y3, y4⟩ := g14 z
      refine ⟨y1, y2, y3, ?_⟩
      by_cases e : i = q
      · subst e
        unfold hrd
        rw [upde]
        by_cases w : s (1710 + j) ≤ nI 50
        · rw [if_pos w, if_pos w]; exact y4
        · rw [if_neg w, if_pos ((ob i).mpr (Or.inr ⟨w, rfl⟩))]
      · rw [hrd_ne (by omega) (by omega) (by intro x; have : i = j := by omega
                                             rw [this] at z; omega) (by omega), y4]
        have : bitL overruled i = bitL (if s (1710 + j) ≤ nI 50 then overruled else overruled ||| ((1 : Int64) <<< ((nI q).toInt64 &&& 63))) i := by
          rw [Bool.eq_iff_iff, ob]
          exact ⟨Or.inl, fun z => z.elim id (fun z => absurd z.2 e)⟩
        rw [this]
    · obtain ⟨y1, y2, y3, y4, y5⟩ := g15 z
      have iq : i ≠ q := fun e => by rw [e, kq] at z; omega
      refine ⟨y1, y2, y3, ?_, ?_⟩
      · by_cases e : i = j
        · subst e
          rw [upde]
          unfold hrd
          rw [updne (by omega), updne (by omega), upde]
        · rw [updne e, hrd_ne (by omega) (by omega) (by omega) (by omega)]; exact y4
      · by_cases e : i = j
        · subst e
          refine Or.inr ⟨?_, ?_, ?_⟩
          · unfold hrd; rw [updne (by omega), updne (by omega), updne (by omega), upde]
          · unfold hrd; rw [updne (by omega), updne (by omega), upde]; exact ⟨t, ht, rfl⟩
          · unfold hrd; rw [updne (by omega), upde]
        · rw [hrd_ne (x := 1760 + i) (by omega) (by omega) (by omega) (by omega), hrd_ne (x := 1810 + i) (by omega) (by omega) (by omega) (by omega), hrd_ne (x := 1860 + i) (by omega) (by omega) (by omega) (by omega)]
          exact y5
  · rw [wf _ (by omega)]; exact h7 i hi k hk
  · rcases (ob i).mp hi with z | ⟨-, rfl⟩
    · exact h9 i z
    · exact ⟨by omega, kq⟩
theorem sit_both {rights : Nat → Option Nat} {count : Int32} {leans : Nat → Int64} {heardOn : Nat → Int32} {overruled : Int64} {termDays step : Int32} {R_L : List Nat} {R_kind R_number R_side R_n R_cell R_day R_ruling R_share : Nat → Int32} {s : Nat → Int32} {t : Nat} (h : ICourt (nI t) rights count leans heardOn overruled termDays step R_L R_kind R_number R_side R_n R_cell R_day R_ruling R_share s) (h0 : s 0 = nI t) (ht : t ≤ 999) : ∃ hd ov v, ICourt (nI t) rights count leans hd ov termDays step R_L R_kind R_number R_side R_n R_cell R_day R_ruling R_share v ∧ outS (fun j => 1760 ≤ j ∧ j < 1910) s v ∧ (∀ Q : (Nat → Int32) → Int64 → Prop, Q hd ov → wp_X2_sit (nI t) rights count heardOn overruled step R_L R_kind R_ruling R_share Q) ∧ (∀ K : (Nat → Int32) → Prop, K v → wp_X12_hears s K) := by
  obtain ⟨⟨td1, td2⟩, ⟨st1, st, hs1, hs2, h13⟩, hm⟩ := id h
  have hc : ∃ r, r ≤ 50 ∧ count = nI r := by
    obtain ⟨-, r, ki, hr, h4, -⟩ := hm
    exact ⟨r, hr, h4⟩
  obtain ⟨r, hr, rfl⟩ := hc
  rw [st1, h13]
  by_cases A : t % st = 0 ∧ ∃ j, j < r ∧ FUH s j ∧ UNH s j
  · obtain ⟨z, j, hj, hF, hU⟩ := A
    obtain ⟨a, -, -, -, g4⟩ := sit_one hm hr hj
    obtain ⟨q, hq, -, -, e2, -⟩ := g4 hU
    have no : ¬ (¬ t % st = 0 ∨ FUH s r) := fun w => w.elim (fun w => w z) (fun w => w j hj hU)
    refine ⟨_, _, hrd s t j q, ⟨⟨?_, ?_⟩, ⟨?_, st, hs1, hs2, ?_⟩, ICm_hear hm hr ht hj hq hU e2⟩, fun x hx => hrd_ne (by omega) (by omega) (by omega) (by omega), fun Q hQ => cls_sit hm hr ht hs1 hs2 (fun w => absurd w no) (fun _ j' q' hj' hq' f1 f2 f3 => ?_), fun K hK => mod_hears hm hr ht hs1 hs2 h0 h13 (fun w => absurd w no) (fun _ j' q' hj' hq' f1 f2 f3 => ?_)⟩
    · rw [hrd_ne (by omega) (by omega) (by omega) (by omega)]; exact td1
    · rw [hrd_ne (by omega) (by omega) (by omega) (by omega)]; exact td2
    · rw [hrd_ne (by omega) (by omega) (by omega) (by omega)]; exact h13.symm
    · rw [hrd_ne (by omega) (by omega) (by omega) (by omega)]; exact h13
    · have := FUH_uniq f1 f2 hF hU
      subst this
      rw [e2] at f3
      have : q = q' := (nI_eq (by omega) (by omega)).mp f3
      rw [← this]; exact hQ
    · have := FUH_uniq f1 f2 hF hU
      subst this
      rw [e2] at f3
      have : q = q' := (nI_eq (by omega) (by omega)).mp f3
      rw [← this]; exact hK
  · refine ⟨heardOn, overruled, s, ?_, fun _ _ => rfl, fun Q hQ => cls_sit hm hr ht hs1 hs2 (fun _ => hQ) (fun z j q hj hq f1 f2 f3 => absurd ⟨z, j, hj, f1, f2⟩ A), fun K hK => mod_hears hm hr ht hs1 hs2 h0 h13 (fun _ => hK) (fun z j q hj hq f1 f2 f3 => absurd ⟨z, j, hj, f1, f2⟩ A)⟩
    rw [← h13, ← st1]
    exact h
theorem ICm_today {rights : Nat → Option Nat} {count : Int32} {leans : Nat → Int64} {heardOn : Nat → Int32} {overruled : Int64} {R_L : List Nat} {R_kind R_number R_side R_n R_cell R_day R_ruling R_share : Nat → Int32} {s : Nat → Int32} {t : Nat} (hm : ICm (nI t) rights count leans heardOn overruled R_L R_kind R_number R_side R_n R_cell R_day R_ruling R_share s) (ht : t + 1 ≤ 999) : ICm (nI (t + 1)) rights count leans heardOn overruled R_L R_kind R_number R_side R_n R_cell R_day R_ruling R_share s := by
  obtain ⟨h3, r', ki, hr', h4, h5, h6, h7, h8, h9⟩ := hm
  refine ⟨h3, r', ki, hr', h4, h5, fun i hi => ?_, h7, h8, h9⟩
  obtain ⟨a, g1, g2, g3, g4, g5, g6, g7, g8, g9, g10, ⟨d, t', w1, w2, w3, w4⟩, g12, g13, g14, g15⟩ := h6 i hi
  have e : t = t' := (nI_eq (by omega) (by omega)).mp w2
  exact ⟨a, g1, g2, g3, g4, g5, g6, g7, g8, g9, g10, ⟨d, t + 1, w1, rfl, by omega, ht⟩, g12, g13, g14, g15⟩
theorem ILand_today {gr tape : Nat → Int32} {bytes tc : Int32} {texts : Nat → Option Nat} {T_L : List Nat} {T_number T_tongue T_day : Nat → Int32} {T_code : Nat → Option Nat} {C_L : List Nat} {C_len : Nat → Nat} {C_row : Nat → Nat → Int32} {today : Int32} {s v : Nat → Int32} {t : Nat} (h : ILand gr today tape bytes texts tc T_L T_number T_tongue T_day T_code C_L C_len C_row s) (ho : outS (fun j => 1760 ≤ j ∧ j < 1910) s v) (ht : t ≤ 999) : ILand gr (nI t) tape bytes texts tc T_L T_number T_tongue T_day T_code C_L C_len C_row (upd v 0 (nI t)) := by
  have e : ∀ j, j ≠ 0 → idxL j → upd v 0 (nI t) j = s j := fun j h0 hj => by
    rw [updne h0, ho j (by unfold idxL at hj; omega)]
  obtain ⟨h1, h2, h3, h4, h5, h6, t', ht', h7, h8, h9⟩ := h
  refine ⟨fun i hi => ?_, ⟨upde.symm, by rw [upde]; exact ⟨t, ht, rfl⟩⟩, ?_, h4, ?_, h6, t', ht', h7, ?_, fun i hi => ?_⟩
  · rw [e _ (by omega) (by unfold idxL; omega)]; exact h1 i hi
  · rw [e _ (by omega) (by unfold idxL; omega)]; exact h3
  · rw [e _ (by omega) (by unfold idxL; omega)]
    intro b hb hb2 i hi
    rw [e _ (by omega) (by unfold idxL; omega)]; exact h5 b hb hb2 i hi
  · rw [e _ (by omega) (by unfold idxL; omega)]; exact h8
  · obtain ⟨a, c, g1, g2, g3, g4, g5, g6, g7, g8, g9, g10⟩ := h9 i hi
    refine ⟨a, c, g1, g2, g3, ?_, ?_, ?_, ?_, g8, g9, TextOK_congr (by omega) g10 (fun j hj => e j (by omega) (by unfold idxL; omega))⟩
    · rw [e _ (by omega) (by unfold idxL; omega)]; exact g4
    · rw [e _ (by omega) (by unfold idxL; omega)]; exact g5
    · rw [e _ (by omega) (by unfold idxL; omega)]; exact g6
    · rw [e _ (by omega) (by unfold idxL; omega)]; exact g7
theorem day_both {gr tape : Nat → Int32} {bytes tc : Int32} {texts : Nat → Option Nat} {T_L : List Nat} {T_number T_tongue T_day : Nat → Int32} {T_code : Nat → Option Nat} {C_L : List Nat} {C_len : Nat → Nat} {C_row : Nat → Nat → Int32} {rights : Nat → Option Nat} {count : Int32} {leans : Nat → Int64} {termDays step : Int32} {R_L : List Nat} {R_kind R_number R_side R_n R_cell R_day R_ruling R_share : Nat → Int32} {n : Nat} (hn : n ≤ 50) : ∀ (m k t : Nat) (heardOn : Nat → Int32) (overruled : Int64) (s : Nat → Int32), k + m = n → t + m ≤ 999 → s 0 = nI t → ILand gr (nI t) tape bytes texts tc T_L T_number T_tongue T_day T_code C_L C_len C_row s → ICourt (nI t) rights count leans heardOn overruled termDays step R_L R_kind R_number R_side R_n R_cell R_day R_ruling R_share s → ∃ hd ov v, v 0 = nI (t + m) ∧ ILand gr (nI (t + m)) tape bytes texts tc T_L T_number T_tongue T_day T_code C_L C_len C_row v ∧ ICourt (nI (t + m)) rights count leans hd ov termDays step R_L R_kind R_number R_side R_n R_cell R_day R_ruling R_share v ∧ outS idxD s v ∧ (∀ Q : Int32 → Int32 → (Nat → Int32) → Int64 → Prop, Q (nI (t + m)) (nI (t + m)) hd ov → ∃ N, wl_X11_day_33 (nI n) rights count step R_L R_kind R_ruling R_share Q N (nI k) (nI t) heardOn overruled) ∧ (∀ K : Int32 → (Nat → Int32) → Prop, K (nI (t + m)) v → ∃ N, wl_X12_day_29 (nI n) K N (nI k) s) := by
  intro m
  induction m with
  | zero =>
    intro k t heardOn overruled s hk ht h0 hL hC
    have e : k = n := by omega
    subst e
    refine ⟨heardOn, overruled, s, h0, hL, hC, fun _ _ => rfl, fun Q hQ => ⟨1, ?_⟩, fun K hK => ⟨1, ?_⟩⟩
    · rw [wl_X11_day_33]
      simp (disch := omega) only [wb_X11_day_33, nI_natle, Nat.le_refl, not_true_eq_false, not_false_eq_true, forall_const, true_implies, false_implies, implies_true, and_true, true_and, and_false, false_and, or_true, true_or, or_false, false_or, forall_eq, ↓reduceIte, ne_eq, nI1ne, nI0eq, Classical.not_not, eq_self, reduceCtorEq]
      exact hQ
    · rw [wl_X12_day_29]
      simp (disch := omega) only [wb_X12_day_29, nI_natle, Nat.le_refl, h0, not_true_eq_false, not_false_eq_true, forall_const, true_implies, false_implies, implies_true, and_true, true_and, and_false, false_and, or_true, true_or, or_false, false_or, forall_eq, ↓reduceIte, ne_eq, nI1ne, nI0eq, Classical.not_not, eq_self, reduceCtorEq]
      exact hK
  | succ m ih =>
    intro k t heardOn overruled s hk ht h0 hL hC
    obtain ⟨hd, ov, v, hC1, ho, hq, hkk⟩ := sit_both hC h0 (by omega)
    have v0 : v 0 = nI t := by rw [ho 0 (by omega)]; exact h0
    have hC2 : ICourt (nI (t + 1)) rights count leans hd ov termDays step R_L R_kind R_number R_side R_n R_cell R_day R_ruling R_share (upd v 0 (nI (t + 1))) := by
      obtain ⟨a1, a2, a3⟩ := hC1
      refine ⟨by rw [updne (by omega)]; exact a1, by rw [updne (by omega)]; exact a2, ICm_congr (ICm_today a3 (by omega)) (fun j hj => updne (by unfold idxR at hj; omega))⟩
    obtain ⟨hd2, ov2, v2, f1, f2, f3, f4, f5, f6⟩ := ih (k + 1) (t + 1) hd ov (upd v 0 (nI (t + 1))) (by omega) (by omega) upde (ILand_today hL ho (by omega)) hC2
    rw [show t + 1 + m = t + (m + 1) from by omega] at f1 f2 f3 f5 f6
    refine ⟨hd2, ov2, v2, f1, f2, f3, fun j hj => ?_, fun Q hQ => ?_, fun K hK => ?_⟩
    · unfold idxD at hj
      rw [f4 j hj, updne (by omega), ho j (by omega)]
    · obtain ⟨N, hN⟩ := f5 Q hQ
      refine ⟨N + 1, ?_⟩
      rw [wl_X11_day_33]
      simp (disch := omega) only [wb_X11_day_33, nI_natle, show ¬ n ≤ k from by omega, nI_add, not_true_eq_false, not_false_eq_true, forall_const, true_implies, false_implies, implies_true, and_true, true_and, and_false, false_and, or_true, true_or, or_false, false_or, forall_eq, ↓reduceIte, ne_eq, nI1ne, nI0eq, Classical.not_not, eq_self, reduceCtorEq]
      exact hq _ hN
    · obtain ⟨N, hN⟩ := f6 K hK
      refine ⟨N + 1, ?_⟩
      rw [wl_X12_day_29]
      simp (disch := omega) only [wb_X12_day_29, nI_natle, show ¬ n ≤ k from by omega, nI_add, not_true_eq_false, not_false_eq_true, forall_const, true_implies, false_implies, implies_true, and_true, true_and, and_false, false_and, or_true, true_or, or_false, false_or, forall_eq, ↓reduceIte, ne_eq, nI1ne, nI0eq, Classical.not_not, eq_self, reduceCtorEq]
      refine hkk _ ?_
      rw [v0, nI_add]
      exact hN
theorem core_day {gr tape : Nat → Int32} {bytes tc : Int32} {texts : Nat → Option Nat} {T_L : List Nat} {T_number T_tongue T_day : Nat → Int32} {T_code : Nat → Option Nat} {C_L : List Nat} {C_len : Nat → Nat} {C_row : Nat → Nat → Int32} {today : Int32} {rights : Nat → Option Nat} {count : Int32} {leans : Nat → Int64} {heardOn : Nat → Int32} {overruled : Int64} {termDays step : Int32} {R_L : List Nat} {R_kind R_number R_side R_n R_cell R_day R_ruling R_share : Nat → Int32} {s : Nat → Int32} {p1 : Int32} {R : Int32 → (Nat → Int32) → Int64 → (Nat → Int32) → Prop} (hL : ILand gr today tape bytes texts tc T_L T_number T_tongue T_day T_code C_L C_len C_row s) (hC : ICourt today rights count leans heardOn overruled termDays step R_L R_kind R_number R_side R_n R_cell R_day R_ruling R_share s) (h0 : R today heardOn overruled s) (hR : ∀ t' hd ov v, ILand gr t' tape bytes texts tc T_L T_number T_tongue T_day T_code C_L C_len C_row v → ICourt t' rights count leans hd ov termDays step R_L R_kind R_number R_side R_n R_cell R_day R_ruling R_share v → outS idxD s v → R t' hd ov v) : wp_X11_day p1 today rights count heardOn overruled step R_L R_kind R_ruling R_share (fun r t' hd ov => wp_X12_day p1 s (fun r' v => r = r' ∧ R t' hd ov v)) := by
  obtain ⟨rfl, t, ht, et⟩ := hL.2.1
  rcases in_cases p1 1 50 (by decide) (by decide) with ⟨g1, -⟩ | ⟨g1, n, hn1, hn, rfl⟩
  · simp only [wp_X11_day, wp_X12_day, within_eq, g1, not_true_eq_false, not_false_eq_true, forall_const, true_implies, false_implies, implies_true, and_true, true_and, and_false, false_and, or_true, true_or, or_false, false_or, forall_eq, ↓reduceIte, ne_eq, nI1ne, nI0eq, Classical.not_not, eq_self, reduceCtorEq]
    exact h0
  · rw [et] at hL hC h0 ⊢
    by_cases w : t + n ≤ 999
    · simp (disch := omega) only [wp_X11_day, wp_X12_day, within_eq, g1, et, nI_add, nI_natle, w, nI1ne, not_true_eq_false, not_false_eq_true, forall_const, true_implies, false_implies, implies_true, and_true, true_and, and_false, false_and, or_true, true_or, or_false, false_or, forall_eq, ↓reduceIte, ne_eq, nI1ne, nI0eq, Classical.not_not, eq_self, reduceCtorEq]
      obtain ⟨hd, ov, v, f1, f2, f3, f4, f5, f6⟩ := day_both hn n 0 t heardOn overruled s (by omega) w et hL hC
      exact f5 _ (f6 _ ⟨rfl, hR _ _ _ _ f2 f3 f4⟩)
    · simp (disch := omega) only [wp_X11_day, wp_X12_day, within_eq, g1, et, nI_add, nI_natle, w, nI1ne, not_true_eq_false, not_false_eq_true, forall_const, true_implies, false_implies, implies_true, and_true, true_and, and_false, false_and, or_true, true_or, or_false, false_or, forall_eq, ↓reduceIte, ne_eq, nI1ne, nI0eq, Classical.not_not, eq_self, reduceCtorEq]
      exact h0
