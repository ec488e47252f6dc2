theorem isN_m5 {y : Int32} {b : Nat} (hb : b < 2 ^ 31) (h : isN y b) : ¬ y = -5 := by
  obtain ⟨d, hd, rfl⟩ := h
  intro z
  have z3 : (nI d < 0) := by rw [z]; decide
  exact nI_pos (by omega) z3
/-- what a late right still waiting holds up -/
def HU (r : Nat) (s : Nat → Int32) (j : Nat) : Prop := ∃ v, v < r ∧ s (1310 + v) = nI 7 ∧ s (1760 + v) = nI 0 ∧ s (1610 + v) = nI j
def Mx (leans : Nat → Int64) : Nat → Nat → Bool := fun i j => bitL (leans i) j
def Sx (x : Int64) : Nat → Prop := fun j => bitL x j = true
theorem cls_fallen {r : Nat} {leans : Nat → Int64} {p : Int64} {Q : Int64 → Prop} (hr : r ≤ 50) (hQ : ∀ y, (∀ i, bitL y i = true ↔ Cl r (Mx leans) (Sx p) i) → Q y) : wp_X2_fallen (nI r) leans p Q := by
  unfold wp_X2_fallen
  exact cls_on hr hQ
/-- what one right says of what it holds up -/
theorem held_one {today : Int32} {rights : Nat → Option Nat} {leans : Nat → Int64} {heardOn : Nat → Int32} {overruled : Int64} {R_L : List Nat} {R_kind R_number R_side R_n R_cell R_day R_ruling R_share : Nat → Int32} {s : Nat → Int32} {r i : Nat} (hm : ICm today rights (nI r) leans heardOn overruled R_L R_kind R_number R_side R_n R_cell R_day R_ruling R_share s) (hr : r ≤ 50) (hi : i < r) : ∃ a, rights i = some a ∧ a ∈ R_L ∧ ((R_kind a = nI 7 ∧ heardOn i = -5 ∧ ∃ q, q < 50 ∧ R_ruling a = nI q ∧ s (1310 + i) = nI 7 ∧ s (1760 + i) = nI 0 ∧ s (1610 + i) = nI q) ∨ (¬ (R_kind a = nI 7 ∧ heardOn i = -5) ∧ ¬ (s (1310 + i) = nI 7 ∧ s (1760 + i) = nI 0))) := by
  obtain ⟨-, r', ki, hr', h4, h5, h6, h7, h8, h9⟩ := hm
  have er : r' = r := ((nI_eq (by omega) (by omega)).mp h4).symm
  subst er
  obtain ⟨a, g1, g2, g3, g4, g5, g6, g7, g8, -, g9, -, -, -, -, g10⟩ := h6 i hi
  refine ⟨a, g1, g2, ?_⟩
  by_cases k7 : ki i = 7
  · obtain ⟨⟨q, hq, -, z1, z2⟩, -, -, z3, z4⟩ := g10 k7
    rw [k7] at g5 g6
    rcases z4 with ⟨y1, y2, -⟩ | ⟨y1, y2, -⟩
    · exact Or.inl ⟨g6, by rw [z3]; exact y2, q, by omega, z2, g5, y1, z1⟩
    · refine Or.inr ⟨fun e => ?_, fun e => ?_⟩
      · rw [z3] at e
        exact isN_m5 (by omega) y2 e.2
      · rw [y1] at e
        exact absurd e.2 (by decide)
  · refine Or.inr ⟨fun e => ?_, fun e => ?_⟩
    · rw [g6] at e
      exact k7 ((nI_eq (by omega) (by omega)).mp e.1)
    · rw [g5] at e
      exact k7 ((nI_eq (by omega) (by omega)).mp e.1)
theorem HU_s {r : Nat} {s : Nat → Int32} (j : Nat) : HU (r + 1) s j ↔ HU r s j ∨ (s (1310 + r) = nI 7 ∧ s (1760 + r) = nI 0 ∧ s (1610 + r) = nI j) := by
  constructor
  · rintro ⟨v, hv, h⟩
    by_cases e : v = r
    · subst e; exact Or.inr h
    · exact Or.inl ⟨v, by omega, h⟩
  · rintro (⟨v, hv, h⟩ | h)
    · exact ⟨v, by omega, h⟩
    · exact ⟨r, by omega, h⟩
theorem HU_lt {today : Int32} {rights : Nat → Option Nat} {leans : Nat → Int64} {heardOn : Nat → Int32} {overruled : Int64} {R_L : List Nat} {R_kind R_number R_side R_n R_cell R_day R_ruling R_share : Nat → Int32} {s : Nat → Int32} {r : Nat} (hm : ICm today rights (nI r) leans heardOn overruled R_L R_kind R_number R_side R_n R_cell R_day R_ruling R_share s) (hr : r ≤ 50) {v j : Nat} (hv : v < r) (h1 : s (1310 + v) = nI 7) (h2 : s (1760 + v) = nI 0) : ∃ q, q < 50 ∧ s (1610 + v) = nI q := by
  obtain ⟨a, -, -, ⟨-, -, q, hq, -, -, -, e⟩ | ⟨-, n⟩⟩ := held_one hm hr hv
  · exact ⟨q, hq, e⟩
  · exact absurd ⟨h1, h2⟩ n
theorem cls_held {today : Int32} {rights : Nat → Option Nat} {leans : Nat → Int64} {heardOn : Nat → Int32} {overruled : Int64} {R_L : List Nat} {R_kind R_number R_side R_n R_cell R_day R_ruling R_share : Nat → Int32} {s : Nat → Int32} {r : Nat} {Q : Int64 → Prop} (hm : ICm today rights (nI r) leans heardOn overruled R_L R_kind R_number R_side R_n R_cell R_day R_ruling R_share s) (hr : r ≤ 50) (hQ : ∀ y, (∀ i, bitL y i = true ↔ Cl r (Mx leans) (fun j => j < 2 ^ 31 ∧ HU r s j) i) → Q y) : wp_X2_heldUp rights (nI r) leans heardOn R_L R_kind R_ruling Q := by
  unfold wp_X2_heldUp
  refine meas2 (F := wl_X2_heldUp_4 rights (nI r) leans heardOn R_L R_kind R_ruling Q) (fun x v => ∃ i, i ≤ r ∧ v = nI i ∧ ∀ j, bitL x j = true ↔ j < 2 ^ 31 ∧ HU i s j) (fun _ v => r - v.toNatClampNeg) ?_ _ _ ⟨0, by omega, rfl, fun j => ⟨fun h => absurd h (by rw [bit_0]; decide), fun ⟨_, v, hv, _⟩ => by omega⟩⟩
  rintro x v ⟨i, hi, rfl, hx⟩ m ih
  rw [wl_X2_heldUp_4]
  by_cases q : i = r
  · subst q
    simp (disch := omega) only [wb_X2_heldUp_4, nI_natle, Nat.le_refl, not_true_eq_false, not_false_eq_true, forall_const, true_implies, false_implies, implies_true, and_true, true_and, and_false, false_and, or_true, true_or, or_false, false_or, forall_eq, ↓reduceIte, ne_eq, nI1ne, nI0eq, Classical.not_not, eq_self, reduceCtorEq]
    exact cls_on hr (fun y hy => hQ y (fun i => Iff.trans (hy i) (Cl_congr hx i)))
  · obtain ⟨a, g1, g2, g3⟩ := held_one hm hr (show i < r by omega)
    have ne : ¬ rights i = none := by rw [g1]; exact fun z => by cases z
    have og : oget (rights i) = a := by rw [g1]; rfl
    simp (disch := omega) only [wb_X2_heldUp_4, nI_natle, show ¬ r ≤ i from by omega, vpin, nI_clamp, ne, og, g2, nI_add, not_true_eq_false, not_false_eq_true, forall_const, true_implies, false_implies, implies_true, and_true, true_and, and_false, false_and, or_true, true_or, or_false, false_or, forall_eq, ↓reduceIte, ne_eq, nI1ne, nI0eq, Classical.not_not, eq_self, reduceCtorEq]
    have mu : r - (nI (i + 1)).toNatClampNeg < r - (nI i).toNatClampNeg := by rw [nI_clamp (by omega), nI_clamp (by omega)]; omega
    rcases g3 with ⟨z1, z2, q0, hq0, z3, z4⟩ | ⟨z1, z2⟩
    · simp only [z1, z2, z3, not_true_eq_false, not_false_eq_true, forall_const, true_implies, false_implies, implies_true, and_true, true_and, and_false, false_and, or_true, true_or, or_false, false_or, forall_eq, ↓reduceIte, ne_eq, nI1ne, nI0eq, Classical.not_not, eq_self, reduceCtorEq]
      refine ih _ _ ⟨i + 1, by omega, rfl, fun j => ?_⟩ mu
      rw [or_bit (by omega), hx, HU_s]
      constructor
      · rintro (⟨h1, h2⟩ | rfl)
        · exact ⟨h1, Or.inl h2⟩
        · exact ⟨by omega, Or.inr z4⟩
      · rintro ⟨h1, h2 | h2⟩
        · exact Or.inl ⟨h1, h2⟩
        · right
          have := h2.2.2
          rw [z4.2.2] at this
          exact ((nI_eq (by omega) h1).mp this).symm
    · have e : (if R_kind a = nI 7 then if heardOn i = -5 then x ||| ((1 : Int64) <<< ((R_ruling a).toInt64 &&& 63)) else x else x) = x := by
        by_cases w : R_kind a = nI 7
        · rw [if_pos w, if_neg (fun w2 => z1 ⟨w, w2⟩)]
        · rw [if_neg w]
      rw [e]
      refine ih _ _ ⟨i + 1, by omega, rfl, fun j => ?_⟩ mu
      rw [hx, HU_s]
      constructor
      · rintro ⟨h1, h2⟩
        exact ⟨h1, Or.inl h2⟩
      · rintro ⟨h1, h2 | h2⟩
        · exact ⟨h1, h2⟩
        · exact absurd ⟨h2.1, h2.2.1⟩ z2
theorem cls_rulings {today : Int32} {rights : Nat → Option Nat} {leans : Nat → Int64} {heardOn : Nat → Int32} {overruled : Int64} {R_L : List Nat} {R_kind R_number R_side R_n R_cell R_day R_ruling R_share : Nat → Int32} {s : Nat → Int32} {r : Nat} {Q : Int64 → Prop} (hm : ICm today rights (nI r) leans heardOn overruled R_L R_kind R_number R_side R_n R_cell R_day R_ruling R_share s) (hr : r ≤ 50) (hQ : ∀ y, (∀ i, bitL y i = true ↔ i < r ∧ s (1310 + i) = nI 6) → Q y) : wp_X2_rulings rights (nI r) R_L R_kind Q := by
  unfold wp_X2_rulings
  refine meas2 (F := wl_X2_rulings_4 rights (nI r) R_L R_kind Q) (fun x v => ∃ i, i ≤ r ∧ v = nI i ∧ ∀ j, bitL x j = true ↔ j < i ∧ s (1310 + j) = nI 6) (fun _ v => r - v.toNatClampNeg) ?_ _ _ ⟨0, by omega, rfl, fun j => ⟨fun h => absurd h (by rw [bit_0]; decide), fun h => by omega⟩⟩
  rintro x v ⟨i, hi, rfl, hx⟩ m ih
  rw [wl_X2_rulings_4]
  by_cases q : i = r
  · subst q
    simp (disch := omega) only [wb_X2_rulings_4, nI_natle, Nat.le_refl, not_true_eq_false, not_false_eq_true, forall_const, true_implies, false_implies, implies_true, and_true, true_and, and_false, false_and, or_true, true_or, or_false, false_or, forall_eq, ↓reduceIte, ne_eq, nI1ne, nI0eq, Classical.not_not, eq_self, reduceCtorEq]
    exact hQ x hx
  · obtain ⟨a1, a2, a3, a4⟩ := ruling_eq hm (nI i)
    simp (disch := omega) only [wb_X2_rulings_4, nI_natle, show ¬ r ≤ i from by omega, a1, a2, nI_add, not_true_eq_false, not_false_eq_true, forall_const, true_implies, false_implies, implies_true, and_true, true_and, and_false, false_and, or_true, true_or, or_false, false_or, forall_eq, ↓reduceIte, ne_eq, nI1ne, nI0eq, Classical.not_not, eq_self, reduceCtorEq]
    have mu : r - (nI (i + 1)).toNatClampNeg < r - (nI i).toNatClampNeg := by rw [nI_clamp (by omega), nI_clamp (by omega)]; omega
    have h2 : s 2 = nI r := by
      obtain ⟨-, r', ki, hr', h4, h5, -⟩ := hm
      rw [h5, h4]
    have val : f_X12_isOf s (nI i) (nI 6) = if s (1310 + i) = nI 6 then nI 1 else nI 0 := by
      have hin : f_X12_in (nI i) (nI 0) (nI r - nI 1) = nI 1 := by
        rcases in_cases1 (nI i) r (by omega) with ⟨-, e⟩ | ⟨e, -⟩
        · exact absurd rfl (e i (by omega))
        · exact e
      unfold f_X12_isOf
      rw [h2, hin]
      simp (disch := omega) only [nI_add, nI_clamp, nI1ne, not_true_eq_false, not_false_eq_true, forall_const, true_implies, false_implies, implies_true, and_true, true_and, and_false, false_and, or_true, true_or, or_false, false_or, forall_eq, ↓reduceIte, ne_eq, nI1ne, nI0eq, Classical.not_not, eq_self, reduceCtorEq]
    rw [val]
    by_cases w : s (1310 + i) = nI 6
    · simp only [w, nI1ne, not_true_eq_false, not_false_eq_true, forall_const, true_implies, false_implies, implies_true, and_true, true_and, and_false, false_and, or_true, true_or, or_false, false_or, forall_eq, ↓reduceIte, ne_eq, nI1ne, nI0eq, Classical.not_not, eq_self, reduceCtorEq]
      refine ih _ _ ⟨i + 1, by omega, rfl, fun j => ?_⟩ mu
      rw [or_bit (by omega), hx]
      constructor
      · rintro (h | rfl)
        · exact ⟨by omega, h.2⟩
        · exact ⟨by omega, w⟩
      · rintro ⟨h1, h2⟩
        by_cases e : j = i
        · exact Or.inr e
        · exact Or.inl ⟨by omega, h2⟩
    · simp only [w, nI0eq, not_true_eq_false, not_false_eq_true, forall_const, true_implies, false_implies, implies_true, and_true, true_and, and_false, false_and, or_true, true_or, or_false, false_or, forall_eq, ↓reduceIte, ne_eq, nI1ne, nI0eq, Classical.not_not, eq_self, reduceCtorEq]
      refine ih _ _ ⟨i + 1, by omega, rfl, fun j => ?_⟩ mu
      rw [hx]
      constructor
      · rintro h
        exact ⟨by omega, h.2⟩
      · rintro ⟨h1, h2⟩
        refine ⟨?_, h2⟩
        by_cases e : j = i
        · rw [e] at h2; exact absurd h2 w
        · omega
theorem bit_and_not {x y : Int64} (i : Nat) : bitL (x &&& (y ^^^ (-1))) i = true ↔ bitL x i = true ∧ ¬ bitL y i = true := by
  rw [bit_and]
  rcases Nat.lt_or_ge i 64 with q | q
  · rw [bit_not _ _ q]
    cases bitL x i <;> cases bitL y i <;> simp
  · rw [bit_hi x i q]
    simp
theorem cls_standing {today : Int32} {rights : Nat → Option Nat} {leans : Nat → Int64} {heardOn : Nat → Int32} {overruled : Int64} {R_L : List Nat} {R_kind R_number R_side R_n R_cell R_day R_ruling R_share : Nat → Int32} {s : Nat → Int32} {r : Nat} {Q : Int64 → Prop} (hm : ICm today rights (nI r) leans heardOn overruled R_L R_kind R_number R_side R_n R_cell R_day R_ruling R_share s) (hr : r ≤ 50) (hQ : ∀ y, (∀ i, bitL y i = true ↔ ((i < r ∧ s (1310 + i) = nI 6) ∧ ¬ Cl r (Mx leans) (Sx overruled) i) ∧ ¬ Cl r (Mx leans) (fun j => j < 2 ^ 31 ∧ HU r s j) i) → Q y) : wp_X2_standing rights (nI r) leans heardOn overruled R_L R_kind R_ruling Q := by
  unfold wp_X2_standing
  refine cls_rulings hm hr (fun a ha => cls_fallen hr (fun b hb => cls_held hm hr (fun c hc => hQ _ (fun i => ?_))))
  rw [bit_and_not, bit_and_not, ha, hb, hc]
