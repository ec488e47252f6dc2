def dnI : Nat → Int32
  | 0 => -1
  | n + 1 => nI n
theorem dnI_e : ∀ n, nI n - nI 1 = dnI n := by
  intro n
  cases n with
  | zero => decide
  | succ n => rw [nI_subL (by omega)]; rfl
theorem dnI_s : ∀ n, nI n + (-1) = dnI n := by
  intro n
  cases n with
  | zero => decide
  | succ n =>
    rw [← nI_add n 1, Int32.add_assoc, show nI 1 + (-1 : Int32) = 0 from by decide, Int32.add_zero]
    rfl
/-- the rulings that stand on this place and matter -/
def rbS (s : Nat → Int32) (y : Int64) (B i : Nat) : Bool := bitL y i && (decide (s (1410 + i) = nI (B / 5 % 30)) && decide (s (1460 + i) = nI (B % 5)))
theorem rul_row {today : Int32} {rights : Nat → Option Nat} {leans : Nat → Int64} {heardOn : Nat → Int32} {overruled : Int64} {R_L : List Nat} {R_kind R_number R_side R_n R_cell R_day R_ruling R_share : Nat → Int32} {s : Nat → Int32} {r i : Nat} (hm : ICm today rights (nI r) leans heardOn overruled R_L R_kind R_number R_side R_n R_cell R_day R_ruling R_share s) (hr : r ≤ 50) (hi : i < r) : ∃ a, rights i = some a ∧ a ∈ R_L ∧ R_n a = s (1510 + i) ∧ (s (1310 + i) = nI 6 → (∃ p m, p < 30 ∧ m < 5 ∧ s (1410 + i) = nI p ∧ s (1460 + i) = nI m ∧ R_cell a = nI (p * 5 + m)) ∧ (s (1510 + i) = nI 10 ∧ s (1560 + i) = nI 1 ∨ s (1510 + i) = nI 20 ∧ s (1560 + i) = nI 0)) := by
  obtain ⟨-, r', ki, hr', h4, h5, h6, -⟩ := hm
  have er : r' = r := ((nI_eq (by omega) (by omega)).mp h4).symm
  subst er
  obtain ⟨a, g1, g2, k1, k7, g3, g4, g5, g6, g7, g8, g9, g10, g11, g12, -⟩ := h6 i hi
  refine ⟨a, g1, g2, g8, fun h => ?_⟩
  rw [g3, nI_nateq (by omega) (by omega)] at h
  obtain ⟨-, w1, w2, -⟩ := g12 h
  exact ⟨w1, w2⟩
theorem cls_lastAbout {today : Int32} {rights : Nat → Option Nat} {leans : Nat → Int64} {heardOn : Nat → Int32} {overruled : Int64} {R_L : List Nat} {R_kind R_number R_side R_n R_cell R_day R_ruling R_share : Nat → Int32} {s : Nat → Int32} {r B : Nat} {y : Int64} {Q : Int32 → Prop} (hm : ICm today rights (nI r) leans heardOn overruled R_L R_kind R_number R_side R_n R_cell R_day R_ruling R_share s) (hr : r ≤ 50) (hy : ∀ i, bitL y i = true → i < r ∧ s (1310 + i) = nI 6) (hQ : Q (oI (lastK (rbS s y B) r))) : wp_X2_lastAbout (nI (B % 150)) y rights (nI r) R_L R_cell Q := by
  unfold wp_X2_lastAbout
  rw [dnI_e]
  have z0 : y = 0 → ∀ n, lastK (rbS s y B) n = none := by
    intro e n
    induction n with
    | zero => rfl
    | succ n ih =>
      have b0 : rbS s y B n = false := by
        unfold rbS
        have : bitL y n = false := by
          rw [e]
          exact bit_0 n
        rw [this]
        rfl
      rw [lastK, b0, if_neg (by decide)]
      exact ih
  have step : ∀ n, n ≤ r → lastK (rbS s y B) r = lastK (rbS s y B) n → wl_X2_lastAbout_8 (nI (B % 150)) y rights R_L R_cell Q (n + 1) (dnI n) := by
    intro n
    induction n with
    | zero =>
      intro _ he
      rw [wl_X2_lastAbout_8]
      unfold wb_X2_lastAbout_8
      rw [he] at hQ
      exact ⟨fun z => absurd z.1 (fun w => w (by decide)), fun _ => hQ⟩
    | succ n ih =>
      intro hn he
      rw [wl_X2_lastAbout_8]
      unfold wb_X2_lastAbout_8
      by_cases cy : y = 0
      · rw [he, z0 cy] at hQ
        exact ⟨fun z => absurd ((cmp0 y).mpr cy) z.2, fun _ => hQ⟩
      · obtain ⟨a, g1, g2, g3, g4⟩ := rul_row hm hr (i := n) (by omega)
        have og : oget (some a) = a := rfl
        show (_ → _) ∧ _
        rw [show dnI (n + 1) = nI n from rfl, nI_clamp (by omega), hasBit y n (by omega), g1, og, dnI_s]
        refine ⟨fun _ => ⟨vp_in_nI (by omega) (by omega), fun _ _ => g2, fun z => ?_, fun z => ?_⟩, fun z => absurd ⟨nI_pos (by omega), fun w => cy ((cmp0 y).mp w)⟩ z⟩
        · have hb : bitL y n = true := by
            cases e : bitL y n
            · exact absurd (show nB (bitL y n) = 0 by rw [e]; decide) z.1
            · rfl
          obtain ⟨⟨p, m, p1, p2, p3, p4, p5⟩, -⟩ := g4 (hy n hb).2
          have e5 := z.2.2
          rw [p5, nI_nateq (by omega) (by omega)] at e5
          have bt : rbS s y B n = true := by
            unfold rbS
            rw [hb, p3, p4, decide_eq_true (by rw [nI_nateq (by omega) (by omega)]; omega), decide_eq_true (by rw [nI_nateq (by omega) (by omega)]; omega)]
            rfl
          rw [he, lastK, if_pos bt] at hQ
          exact hQ
        · refine ih (by omega) ?_
          rw [he, lastK]
          refine if_neg (fun w => z ?_)
          unfold rbS at w
          rw [Bool.and_eq_true, Bool.and_eq_true, decide_eq_true_eq, decide_eq_true_eq] at w
          obtain ⟨w1, w2, w3⟩ := w
          obtain ⟨⟨p, m, p1, p2, p3, p4, p5⟩, -⟩ := g4 (hy n w1).2
          rw [p3, nI_nateq (by omega) (by omega)] at w2
          rw [p4, nI_nateq (by omega) (by omega)] at w3
          refine ⟨by rw [w1]; decide, fun q => (by cases q), ?_⟩
          rw [p5, nI_nateq (by omega) (by omega)]
          omega
  exact ⟨_, step r (Nat.le_refl _) rfl⟩
theorem mod_rulingOf {s stands : Nat → Int32} {r a : Nat} {y : Int64} {Q : Int32 → Prop} (hr : r ≤ 50) (h2 : s 2 = nI r) (ha : a < 10800) (hst : ∀ i, i < r → isB (stands i) (bitL y i = true)) (hy : ∀ i, bitL y i = true → i < r ∧ s (1310 + i) = nI 6) (hQ : Q (oI (lastK (rbS s y (a / 24)) r))) : wp_X12_rulingOf (nI a) s stands Q := by
  unfold wp_X12_rulingOf
  have eS : f_X12_spotOf (nI a) = nI (a / 24 / 5 % 30) := by
    unfold f_X12_spotOf
    rw [pk_div (a := a) (d := 120) (by omega) (by omega) (by omega), pk_rem (by omega) (by omega) (by omega), show a / 24 / 5 = a / 120 from by omega]
  have eM : f_X12_matterOf (nI a) = nI (a / 24 % 5) := by
    unfold f_X12_matterOf
    rw [pk_div (a := a) (d := 24) (by omega) (by omega) (by omega), pk_rem (by omega) (by omega) (by omega)]
  have step : ∀ m i, i + m = r → wl_X12_rulingOf_4 (nI a) s stands Q (m + 1) (oI (lastK (rbS s y (a / 24)) i)) (nI i) := by
    intro m
    induction m with
    | zero =>
      intro i hi
      rw [wl_X12_rulingOf_4]
      unfold wb_X12_rulingOf_4
      rw [h2, show i = r from by omega]
      exact ⟨fun _ => hQ, fun z => absurd (Int32.le_refl _) z⟩
    | succ m ih =>
      intro i hi
      rw [wl_X12_rulingOf_4]
      unfold wb_X12_rulingOf_4
      rw [h2, nI_add, nI_add, nI_add, nI_add, nI_clamp (by omega), nI_clamp (by omega), nI_clamp (by omega), nI_clamp (by omega), eS, eM]
      refine ⟨fun z => absurd z (by rw [nI_natle (by omega) (by omega)]; omega), fun _ => ⟨vp_in_nI (by omega) (by omega), fun _ => ⟨vp_in_nI (by omega) (by omega), fun _ => ⟨vp_in_nI (by omega) (by omega), fun _ => vp_in_nI (by omega) (by omega)⟩⟩, fun x hx => ?_⟩⟩
      have ex : x = oI (lastK (rbS s y (a / 24)) (i + 1)) := by
        rw [hx, lastK]
        unfold rbS
        rcases hst i (by omega) with ⟨w1, w2⟩ | ⟨w1, w2⟩
        · rw [w1, w2, if_pos (hy i w1).2]
          by_cases c1 : s (1410 + i) = nI (a / 24 / 5 % 30)
          · by_cases c2 : s (1460 + i) = nI (a / 24 % 5)
            · rw [if_pos c1, if_pos c2, if_neg (by decide), decide_eq_true c1, decide_eq_true c2, if_pos (by decide)]
              rfl
            · rw [if_pos c1, if_neg c2, decide_eq_true c1, decide_eq_false c2, if_neg (by decide)]
          · rw [if_neg c1, decide_eq_false c1, if_neg (by simp)]
        · have b0 : bitL y i = false := by
            cases e : bitL y i
            · rfl
            · exact absurd e w1
          rw [b0, w2, if_pos (of_eq_true nI0eq)]
          simp only [ite_self, Bool.false_and, if_neg (by decide : ¬ false = true)]
      rw [ex]
      exact ih (i + 1) (by omega)
  exact ⟨_, step r 0 (by omega)⟩
