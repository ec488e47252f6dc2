def majB (a b c : Bool) : Bool := or (or (and a b) (and a c)) (and b c)
/-- what the city lets -/
def ctF (s : Nat → Int32) (y : Int64) (r t : Nat) (d : Int32) (a : Nat) : Bool :=
  match lastK (rbS s y (a / 24)) r with
  | none => majB (slO s (txS s (nI 0) d t) a) (slO s (txS s (nI 1) d t) a) (slO s (txS s (nI 2) d t) a)
  | some i => decide (s (1560 + i) = nI 1)
theorem cls_cityHours {today : Int32} {rights : Nat → Option Nat} {leans : Nat → Int64} {heardOn : Nat → Int32} {overruled : Int64} {R_L : List Nat} {R_kind R_number R_side R_n R_cell R_day R_ruling R_share : Nat → Int32} {s : Nat → Int32} {r t B : Nat} {d : Int32} {y : Int64} {gr stack hd lt : Nat → Int32} {top k : Int32} {texts ruling T_code : Nat → Option Nat} {T_L : List Nat} {T_number T_tongue T_day : Nat → Int32} {C_L : List Nat} {C_len : Nat → Nat} {C_row : Nat → Nat → Int32} {Q : Int32 → (Nat → Int32) → Int32 → (Nat → Int32) → (Nat → Int32) → Int32 → Prop} (hm : ICm today rights (nI r) leans heardOn overruled R_L R_kind R_number R_side R_n R_cell R_day R_ruling R_share s) (hr : r ≤ 50) (hgr : ∀ i, i < 30 → gr i = s (20 + i)) (hx : lawT texts T_L T_number T_tongue T_day T_code C_L C_len C_row s t) (hB : B < 450) (hru : ∀ j, j < 3 → ruling j = (txS s (nI j) d t).bind texts) (hy : ∀ i, bitL y i = true → i < r ∧ s (1310 + i) = nI 6) (hQ : ∀ x st top hd lt k, hrs x (fun h => ctF s y r t d (24 * B + h)) → Q x st top hd lt k) : wp_X5_cityHours (nI B) gr rights (nI r) ruling y stack top hd lt k R_L R_n R_cell T_L T_code C_L C_len C_row Q := by
  unfold wp_X5_cityHours wp_X5_rulingAbout
  rw [pk_rem (a := B) (d := 150) (by omega) (by omega) (by omega)]
  refine cls_lastAbout hm hr hy ?_
  have cf : ∀ h, h < 24 → ctF s y r t d (24 * B + h) = match lastK (rbS s y B) r with
      | none => majB (slO s (txS s (nI 0) d t) (24 * B + h)) (slO s (txS s (nI 1) d t) (24 * B + h)) (slO s (txS s (nI 2) d t) (24 * B + h))
      | some i => decide (s (1560 + i) = nI 1) := by
    intro h hh
    unfold ctF
    rw [show (24 * B + h) / 24 = B from by omega]
  cases e : lastK (rbS s y B) r with
  | none =>
    rw [e] at cf
    refine ⟨fun _ => ?_, fun z => absurd (by decide) z⟩
    refine cls_tongueHours hgr hx hB (by omega) (fun m hm => txS_lt _ _ hm) (hru 0 (by omega)) (fun x0 st top hd lt k h0 => ?_)
    refine cls_tongueHours hgr hx hB (by omega) (fun m hm => txS_lt _ _ hm) (hru 1 (by omega)) (fun x1 st top hd lt k h1 => ?_)
    refine cls_tongueHours hgr hx hB (by omega) (fun m hm => txS_lt _ _ hm) (hru 2 (by omega)) (fun x2 st top hd lt k h2 => ?_)
    refine hQ _ _ _ _ _ _ (fun h => ?_)
    have q := hrs_or (hrs_or (hrs_and h0 h1) (hrs_and h0 h2)) (hrs_and h1 h2) h
    constructor
    · intro z
      have w := q.mp z
      refine ⟨w.1, ?_⟩
      show ctF s y r t d (24 * B + h) = true
      rw [cf h w.1]
      exact w.2
    · intro z
      refine q.mpr ⟨z.1, ?_⟩
      have w2 : ctF s y r t d (24 * B + h) = true := z.2
      rw [cf h z.1] at w2
      exact w2
  | some i =>
    rw [e] at cf
    obtain ⟨hi, hb⟩ := lastK_lt _ _ e
    unfold rbS at hb
    rw [Bool.and_eq_true] at hb
    obtain ⟨a, g1, g2, g3, g4⟩ := rul_row hm hr hi
    obtain ⟨-, g5⟩ := g4 (hy i hb.1).2
    have og : oget (some a) = a := rfl
    rcases find_cases rights r hr (nI i) with ⟨-, -, -, w⟩ | ⟨j, hj, ej, w1, -, w3⟩
    · exact absurd rfl (w i hi)
    · have eij : i = j := by
        rw [nI_nateq (by omega) (by omega)] at ej
        exact ej
      subst eij
      refine ⟨fun z => absurd z (nI_pos (by omega)), fun _ => ⟨⟨w3, fun _ => ?_⟩, fun x hx => ?_⟩⟩
      · show oget (f_X2_find rights (nI r) (nI i)) ∈ R_L
        rw [w1, g1]
        exact g2
      · refine hQ _ _ _ _ _ _ ?_
        have ex : x = if s (1560 + i) = nI 1 then nI 16777215 else nI 0 := by
          rw [hx]
          show (if f_X2_letsByRuling rights (nI r) R_L R_n (nI i) = 0 then nI 0 else nI 16777215) = _
          unfold f_X2_letsByRuling
          have n0 : ¬ ((some a : Option Nat) = none) := fun z => (by cases z)
          rw [w1, g1, if_neg n0, og, g3]
          rcases g5 with ⟨u1, u2⟩ | ⟨u1, u2⟩ <;> rw [u1, u2] <;> decide
        rw [ex]
        refine hrs_const (fun h hh => ?_)
        show ctF s y r t d (24 * B + h) = true ↔ _
        rw [cf h hh]
        exact decide_eq_true_iff
theorem cls_cityLets {today : Int32} {rights : Nat → Option Nat} {leans : Nat → Int64} {heardOn : Nat → Int32} {overruled : Int64} {R_L : List Nat} {R_kind R_number R_side R_n R_cell R_day R_ruling R_share : Nat → Int32} {s : Nat → Int32} {r t a : Nat} {d : Int32} {y : Int64} {gr stack hd lt : Nat → Int32} {top k : Int32} {texts ruling T_code : Nat → Option Nat} {T_L : List Nat} {T_number T_tongue T_day : Nat → Int32} {C_L : List Nat} {C_len : Nat → Nat} {C_row : Nat → Nat → Int32} {Q : Int32 → (Nat → Int32) → Int32 → (Nat → Int32) → (Nat → Int32) → Int32 → Prop} (hm : ICm today rights (nI r) leans heardOn overruled R_L R_kind R_number R_side R_n R_cell R_day R_ruling R_share s) (hr : r ≤ 50) (hgr : ∀ i, i < 30 → gr i = s (20 + i)) (hx : lawT texts T_L T_number T_tongue T_day T_code C_L C_len C_row s t) (ha : a < 10800) (hru : ∀ j, j < 3 → ruling j = (txS s (nI j) d t).bind texts) (hy : ∀ i, bitL y i = true → i < r ∧ s (1310 + i) = nI 6) (hQ : ∀ st top hd lt k, Q (nI (if ctF s y r t d a then 1 else 0)) st top hd lt k) : wp_X5_cityLets (nI a) gr rights (nI r) ruling y stack top hd lt k R_L R_n R_cell T_L T_code C_L C_len C_row Q := by
  unfold wp_X5_cityLets
  rw [pk_div (a := a) (d := 24) (by omega) (by omega) (by omega)]
  refine cls_cityHours hm hr hgr hx (by omega) hru hy (fun x st top hd lt k hh z hz => ?_)
  rw [← pk_div (a := a) (d := 24) (by omega) (by omega) (by omega), hrs_bit (f := ctF s y r t d) hh ha] at hz
  rw [hz]
  exact hQ _ _ _ _ _
def cnB (f : Nat → Bool) : Nat → Nat
  | 0 => 0
  | n + 1 => cnB f n + if f n then 1 else 0
theorem cn3 (f : Nat → Bool) : (if nI (cnB f 3) ≤ nI 1 then nI 0 else nI 1) = nI (if majB (f 0) (f 1) (f 2) then 1 else 0) := by
  show (if nI (0 + (if f 0 then 1 else 0) + (if f 1 then 1 else 0) + (if f 2 then 1 else 0)) ≤ nI 1 then nI 0 else nI 1) = _
  cases f 0 <;> cases f 1 <;> cases f 2 <;> decide
theorem mod_lets {n t a r : Nat} {d : Int32} {y : Int64} {s letBy letStamp stands : Nat → Int32} {stamp : Int32} {Q : Int32 → Int32 → Int32 → Int32 → Int32 → Int32 → (Nat → Int32) → (Nat → Int32) → Prop} {r1 r2 r3 r4 r5 : Int32} (hn : n + 1 < 2 ^ 31) (ht : t ≤ 16) (h1 : s 1 = nI t) (hs : ∀ i, i < t → ∃ c, SlotOK s i c) (ha : a < 10800) (hI : ICacheT n letBy letStamp stamp s) (hr : r ≤ 50) (h2 : s 2 = nI r) (hst : ∀ i, i < r → isB (stands i) (bitL y i = true)) (hy : ∀ i, bitL y i = true → i < r ∧ s (1310 + i) = nI 6) (hQ : ∀ g1 g2 g3 g4 g5 lb ls, ICacheT n lb ls stamp s → Q (nI (if ctF s y r t d a then 1 else 0)) g1 g2 g3 g4 g5 lb ls) : wp_X12_lets (nI a) d s r1 r2 r3 r4 r5 letBy letStamp stamp stands Q := by
  unfold wp_X12_lets
  refine mod_rulingOf hr h2 ha hst hy ?_
  unfold ctF at hQ
  cases e : lastK (rbS s y (a / 24)) r with
  | none =>
    rw [e] at hQ
    refine ⟨fun _ => ?_, fun z => absurd rfl z⟩
    have step : ∀ m i g1 g2 g3 g4 g5 lb ls, i + m = 3 → ICacheT n lb ls stamp s → wl_X12_lets_37 (nI a) d s stamp Q (m + 1) (nI (cnB (fun j => slO s (txS s (nI j) d t) a) i)) (nI i) g1 g2 g3 g4 g5 lb ls := by
      intro m
      induction m with
      | zero =>
        intro i g1 g2 g3 g4 g5 lb ls hi hc
        rw [wl_X12_lets_37]
        unfold wb_X12_lets_37
        refine ⟨fun _ x hx => ?_, fun z => absurd (by rw [nI_natle (by omega) (by omega)]; omega) z⟩
        have e3 : i = 3 := hi
        rw [e3, cn3] at hx
        rw [hx]
        exact hQ _ _ _ _ _ _ _ hc
      | succ m ih =>
        intro i g1 g2 g3 g4 g5 lb ls hi hc
        rw [wl_X12_lets_37]
        unfold wb_X12_lets_37
        refine ⟨fun z => absurd z (by rw [nI_natle (by omega) (by omega)]; omega), fun _ => ?_⟩
        refine mod_letsBy hn ht h1 hs ha hc (fun k1 k2 k3 k4 k5 lb ls hc x hx => ?_)
        rw [bnz] at hx
        rw [hx, nI_add, nI_add]
        exact ih (i + 1) _ _ _ _ _ _ _ (by omega) hc
    exact ⟨_, step 3 0 _ _ _ _ _ _ _ (by omega) hI⟩
  | some i =>
    rw [e] at hQ
    obtain ⟨hi, -⟩ := lastK_lt _ _ e
    have n1 : ¬ oI (some i) = -1 := fun z => m1_ne (by omega : i < 2 ^ 31) z.symm
    have ei : nI 1560 + oI (some i) = nI (1560 + i) := nI_add _ _
    refine ⟨fun z => absurd z n1, fun _ => ?_⟩
    rw [ei, nI_clamp (by omega)]
    refine ⟨vp_in_nI (by omega) (by omega), fun x hx => ?_⟩
    have ex : x = nI (if decide (s (1560 + i) = nI 1) then 1 else 0) := by
      rw [hx]
      by_cases c : s (1560 + i) = nI 1
      · rw [if_pos c, decide_eq_true c]; rfl
      · rw [if_neg c, decide_eq_false c]; rfl
    rw [ex]
    exact hQ _ _ _ _ _ _ _ hI
