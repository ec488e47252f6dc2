/-- the questions about this place and matter -/
def qbS (s : Nat → Int32) (B i : Nat) : Bool := decide (s (560 + i) = nI (B / 5 % 30)) && decide (s (566 + i) = nI (B % 5))
theorem cls_questionAbout {cells s : Nat → Int32} {q B : Nat} {Q : Int32 → Prop} (hq : q ≤ 6) (hc : ∀ i, i < q → ∃ p m, p < 30 ∧ m < 5 ∧ s (560 + i) = nI p ∧ s (566 + i) = nI m ∧ cells i = nI (p * 5 + m)) (hQ : Q (oI (lastK (qbS s B) q))) : wp_X0_questionAbout (nI (B % 150)) cells (nI q) Q := by
  unfold wp_X0_questionAbout
  rw [dnI_e]
  have step : ∀ n, n ≤ q → lastK (qbS s B) q = lastK (qbS s B) n → wl_X0_questionAbout_7 (nI (B % 150)) cells Q (n + 1) (dnI n) := by
    intro n
    induction n with
    | zero =>
      intro _ he
      rw [wl_X0_questionAbout_7]
      unfold wb_X0_questionAbout_7
      rw [he] at hQ
      exact ⟨fun _ => hQ, fun z => absurd (by decide) z⟩
    | succ n ih =>
      intro hn he
      rw [wl_X0_questionAbout_7]
      unfold wb_X0_questionAbout_7
      obtain ⟨p, m, p1, p2, p3, p4, p5⟩ := hc n (by omega)
      rw [show dnI (n + 1) = nI n from rfl, nI_clamp (by omega), dnI_s, p5]
      refine ⟨fun z => absurd z (nI_pos (by omega)), fun _ => ⟨vp_in_nI (by omega) (by omega), fun z => ih (by omega) ?_, fun z => ?_⟩⟩
      · rw [he, lastK]
        refine if_neg (fun w => z ?_)
        unfold qbS at w
        rw [Bool.and_eq_true, decide_eq_true_eq, decide_eq_true_eq] at w
        obtain ⟨w2, w3⟩ := w
        rw [p3, nI_nateq (by omega) (by omega)] at w2
        rw [p4, nI_nateq (by omega) (by omega)] at w3
        rw [nI_nateq (by omega) (by omega)]
        omega
      · rw [nI_nateq (by omega) (by omega)] at z
        have bt : qbS s B n = true := by
          unfold qbS
          rw [p3, p4, decide_eq_true (by rw [nI_nateq (by omega) (by omega)]; omega), decide_eq_true (by rw [nI_nateq (by omega) (by omega)]; omega)]
          rfl
        rw [he, lastK, if_pos bt] at hQ
        exact hQ
  exact ⟨_, step q (Nat.le_refl _) rfl⟩
theorem mod_questionOf {s : Nat → Int32} {q a : Nat} {Q : Int32 → Prop} (hq : q ≤ 6) (h8 : s 8 = nI q) (ha : a < 10800) (hQ : Q (oI (lastK (qbS s (a / 24)) q))) : wp_X12_questionOf (nI a) s Q := by
  unfold wp_X12_questionOf
  have eS : f_X12_spotOf (nI a) = nI (a / 24 / 5 % 30) := by
    unfold f_X12_spotOf
    rw [pk_div (a := a) (d := 120) (by omega) (by omega) (by omega), pk_rem (by omega) (by omega) (by omega), show a / 24 / 5 = a / 120 from by omega]
  have eM : f_X12_matterOf (nI a) = nI (a / 24 % 5) := by
    unfold f_X12_matterOf
    rw [pk_div (a := a) (d := 24) (by omega) (by omega) (by omega), pk_rem (by omega) (by omega) (by omega)]
  have step : ∀ m i, i + m = q → wl_X12_questionOf_4 (nI a) s Q (m + 1) (oI (lastK (qbS s (a / 24)) i)) (nI i) := by
    intro m
    induction m with
    | zero =>
      intro i hi
      rw [wl_X12_questionOf_4]
      unfold wb_X12_questionOf_4
      rw [h8, show i = q from by omega]
      exact ⟨fun _ => hQ, fun z => absurd (Int32.le_refl _) z⟩
    | succ m ih =>
      intro i hi
      rw [wl_X12_questionOf_4]
      unfold wb_X12_questionOf_4
      rw [h8, nI_add, nI_add, nI_add, nI_clamp (by omega), nI_clamp (by omega), eS, eM]
      refine ⟨fun z => absurd z (by rw [nI_natle (by omega) (by omega)]; omega), fun _ => ⟨vp_in_nI (by omega) (by omega), fun _ => vp_in_nI (by omega) (by omega), fun x hx => ?_⟩⟩
      have ex : x = oI (lastK (qbS s (a / 24)) (i + 1)) := by
        rw [hx, lastK]
        unfold qbS
        by_cases c1 : s (560 + i) = nI (a / 24 / 5 % 30)
        · by_cases c2 : s (566 + i) = nI (a / 24 % 5)
          · rw [if_pos c1, if_pos c2, decide_eq_true c1, decide_eq_true c2, if_pos (by decide)]
            rfl
          · rw [if_pos c1, if_neg c2, decide_eq_true c1, decide_eq_false c2, if_neg (by decide)]
        · rw [if_neg c1, decide_eq_false c1, if_neg (by simp)]
      rw [ex]
      exact ih (i + 1) (by omega)
  exact ⟨_, step q 0 (by omega)⟩
/-- is this act's wish met by these answers -/
def meF (s : Nat → Int32) (y : Int64) (r t q : Nat) (p : Int32) (a : Nat) : Bool :=
  match lastK (qbS s (a / 24)) q with
  | none => ctF s y r t (s 0) a
  | some i => b32 p i
def waS (s : Nat → Int32) (i : Nat) : Nat := (s (1172 + i)).toNatClampNeg
def meC (s : Nat → Int32) (y : Int64) (r t q : Nat) (p : Int32) (w : Nat) : Nat := popS (bN (fun i => meF s y r t q p (waS s i))) w
theorem mod_metBy {n t r q w : Nat} {p : Int32} {y : Int64} {s letBy letStamp stands : Nat → Int32} {stamp : Int32} {Q : Int32 → Int32 → Int32 → Int32 → Int32 → Int32 → (Nat → Int32) → (Nat → Int32) → Prop} {r1 r2 r3 r4 r5 : Int32} (hn : n + 1 < 2 ^ 31) (ht : t ≤ 16) (h1 : s 1 = nI t) (hs : ∀ i, i < t → ∃ c, SlotOK s i c) (hI : ICacheT n letBy letStamp stamp s) (hr : r ≤ 50) (h2 : s 2 = nI r) (hst : ∀ i, i < r → isB (stands i) (bitL y i = true)) (hy : ∀ i, bitL y i = true → i < r ∧ s (1310 + i) = nI 6) (hq : q ≤ 6) (h8 : s 8 = nI q) (hw : w ≤ 10) (h9 : s 9 = nI w) (hwa : ∀ i, i < w → isN (s (1172 + i)) 10799) (hQ : ∀ g1 g2 g3 g4 g5 lb ls, ICacheT n lb ls stamp s → Q (nI (meC s y r t q p w)) g1 g2 g3 g4 g5 lb ls) : wp_X12_metBy p s r1 r2 r3 r4 r5 letBy letStamp stamp stands Q := by
  unfold wp_X12_metBy
  have step : ∀ m i g1 g2 g3 g4 g5 lb ls, i + m = w → ICacheT n lb ls stamp s → wl_X12_metBy_4 p s stamp stands Q (m + 1) (nI (meC s y r t q p i)) (nI i) g1 g2 g3 g4 g5 lb ls := by
    intro m
    induction m with
    | zero =>
      intro i g1 g2 g3 g4 g5 lb ls hi hc
      rw [wl_X12_metBy_4]
      unfold wb_X12_metBy_4
      rw [h9, show i = w from by omega]
      exact ⟨fun _ => hQ _ _ _ _ _ _ _ hc, fun z => absurd (Int32.le_refl _) z⟩
    | succ m ih =>
      intro i g1 g2 g3 g4 g5 lb ls hi hc
      rw [wl_X12_metBy_4]
      unfold wb_X12_metBy_4
      obtain ⟨a, ha, ea⟩ := hwa i (by omega)
      have ew : waS s i = a := by
        unfold waS
        rw [ea, nI_clamp (by omega)]
      have nx : ∀ (b : Bool) g1 g2 g3 g4 g5 lb ls, b = meF s y r t q p a → ICacheT n lb ls stamp s → wk_X12_metBy_75 (nI (meC s y r t q p i)) (nI i) (wl_X12_metBy_4 p s stamp stands Q (m + 1)) g1 g2 g3 g4 g5 lb ls (nI (if b then 1 else 0)) := by
        intro b g1 g2 g3 g4 g5 lb ls hb hc v hv
        rw [bnz, hb] at hv
        rw [hv, nI_add, nI_add]
        have e : meC s y r t q p i + (if meF s y r t q p a = true then 1 else 0) = meC s y r t q p (i + 1) := by
          unfold meC
          rw [popS]
          congr 1
          show _ = if meF s y r t q p (waS s i) = true then 1 else 0
          rw [ew]
        rw [e]
        exact ih (i + 1) _ _ _ _ _ _ _ (by omega) hc
      rw [h9, nI_add, nI_clamp (by omega), ea]
      refine ⟨fun z => absurd z (by rw [nI_natle (by omega) (by omega)]; omega), fun _ => ⟨vp_in_nI (by omega) (by omega), mod_questionOf hq h8 (by omega) ?_⟩⟩
      cases e : lastK (qbS s (a / 24)) q with
      | none =>
        refine ⟨fun _ => ⟨vp_in_nI (by omega) (by omega), ?_⟩, fun z => absurd rfl z⟩
        refine mod_lets hn ht h1 hs (by omega) hc hr h2 hst hy (fun k1 k2 k3 k4 k5 lb ls hc => nx _ _ _ _ _ _ _ _ ?_ hc)
        unfold meF
        rw [e]
      | some j =>
        have hj := (lastK_lt _ _ e).1
        have n1 : ¬ oI (some j) = -1 := fun z => m1_ne (by omega : j < 2 ^ 31) z.symm
        refine ⟨fun z => absurd z n1, fun _ v hv => ?_⟩
        have ev : v = nI (if b32 p j then 1 else 0) := by
          rw [hv, show oI (some j) = nI j from rfl, b32_test _ _ (by omega)]
          cases b32 p j <;> decide
        rw [ev]
        refine nx _ _ _ _ _ _ _ _ ?_ hc
        unfold meF
        rw [e]
  exact ⟨_, step w 0 _ _ _ _ _ _ _ (by omega) hI⟩
