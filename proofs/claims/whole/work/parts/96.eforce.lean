/-- the texts as the class keeps them -/
def lawT (texts : Nat → Option Nat) (T_L : List Nat) (T_number T_tongue T_day : Nat → Int32) (T_code : Nat → Option Nat) (C_L : List Nat) (C_len : Nat → Nat) (C_row : Nat → Nat → Int32) (s : Nat → Int32) (t : Nat) : Prop := ∀ i, i < t → ∃ a c, texts i = some a ∧ a ∈ T_L ∧ T_number a = nI i ∧ T_tongue a = s (4410 + i) ∧ T_day a = s (4430 + i) ∧ T_code a = some c ∧ c ∈ C_L ∧ TextOK s i (C_len c) (C_row c)
theorem cls_tongueHours {tau B t : Nat} {o : Option Nat} {gr s stack hd lt T_number T_tongue T_day : Nat → Int32} {texts ruling : Nat → Option Nat} {top k : Int32} {T_L : List Nat} {T_code : Nat → Option Nat} {C_L : List Nat} {C_len : Nat → Nat} {C_row : Nat → Nat → Int32} {Q : Int32 → (Nat → Int32) → Int32 → (Nat → Int32) → (Nat → Int32) → Int32 → Prop} (hgr : ∀ i, i < 30 → gr i = s (20 + i)) (hx : lawT texts T_L T_number T_tongue T_day T_code C_L C_len C_row s t) (hB : B < 450) (ht : tau < 3) (ho : ∀ m, o = some m → m < t) (hru : ruling tau = o.bind texts) (hQ : ∀ x st top hd lt k, hrs x (fun h => slO s o (24 * B + h)) → Q x st top hd lt k) : wp_X5_tongueHours (nI tau) (nI B) gr ruling stack top hd lt k T_L T_code C_L C_len C_row Q := by
  unfold wp_X5_tongueHours
  rw [nI_clamp (by omega), hru]
  refine ⟨vp_in_nI ht (by omega), ?_⟩
  cases o with
  | none => exact ⟨fun z => absurd rfl z, fun _ => hQ _ _ _ _ _ _ hrs_0⟩
  | some m =>
    obtain ⟨a, c, x1, x2, x3, x4, x5, x6, x7, x8⟩ := hx m (ho m rfl)
    have e1 : (some m).bind texts = some a := x1
    have e2 : oget (some a) = a := rfl
    have e3 : oget (some c) = c := rfl
    rw [e1, e2, x6, e3]
    refine ⟨fun _ => ⟨x2, fun z => (by cases z), cls_weigh hgr hB x7 x8 (fun st hd lt k hk => ?_)⟩, fun z => (by cases z)⟩
    obtain ⟨n, w1, w2, w3, w4⟩ := hk
    rw [w2]
    exact cls_fold w1 w3 w4 (fun x hx => hQ _ _ _ _ _ _ hx)
theorem hrs_bit {x : Int32} {f : Nat → Bool} {a : Nat} (h : hrs x (fun i => f (24 * (a / 24) + i))) (ha : a < 10800) : (if ((x >>> ((nI a - nI a / nI 24 * nI 24) &&& 31)) &&& nI 1) = 0 then nI 0 else nI 1) = nI (if f a then 1 else 0) := by
  rw [pk_rem (a := a) (d := 24) (by omega) (by omega) (by omega)]
  have e : ((x >>> (nI (a % 24) &&& 31)) &&& nI 1) = 0 ↔ b32 x (a % 24) = false := by rw [b32_testz _ _ (by omega)]
  have g : b32 x (a % 24) = true ↔ a % 24 < 24 ∧ f (24 * (a / 24) + a % 24) = true := h (a % 24)
  rw [show 24 * (a / 24) + a % 24 = a from by omega] at g
  cases q : b32 x (a % 24)
  · rw [if_pos (e.mpr q), if_neg (fun z => by rw [g.mpr ⟨by omega, z⟩] at q; cases q)]
  · rw [if_neg (fun z => by rw [e.mp z] at q; cases q), if_pos (g.mp q).2]
theorem cls_tongueLets {tau a t : Nat} {o : Option Nat} {gr s stack hd lt T_number T_tongue T_day : Nat → Int32} {texts ruling : Nat → Option Nat} {top k : Int32} {T_L : List Nat} {T_code : Nat → Option Nat} {C_L : List Nat} {C_len : Nat → Nat} {C_row : Nat → Nat → Int32} {Q : Int32 → (Nat → Int32) → Int32 → (Nat → Int32) → (Nat → Int32) → Int32 → Prop} (hgr : ∀ i, i < 30 → gr i = s (20 + i)) (hx : lawT texts T_L T_number T_tongue T_day T_code C_L C_len C_row s t) (ha : a < 10800) (ht : tau < 3) (ho : ∀ m, o = some m → m < t) (hru : ruling tau = o.bind texts) (hQ : ∀ st top hd lt k, Q (nI (if slO s o a then 1 else 0)) st top hd lt k) : wp_X5_tongueLets (nI tau) (nI a) gr ruling stack top hd lt k T_L T_code C_L C_len C_row Q := by
  unfold wp_X5_tongueLets
  rw [pk_div (a := a) (d := 24) (by omega) (by omega) (by omega)]
  refine cls_tongueHours hgr hx (by omega) ht ho hru (fun x st top hd lt k hh y hy => ?_)
  rw [← pk_div (a := a) (d := 24) (by omega) (by omega) (by omega), hrs_bit (f := slO s o) hh ha] at hy
  rw [hy]
  exact hQ _ _ _ _ _
theorem cls_openOn {today : Int32} {rights : Nat → Option Nat} {leans : Nat → Int64} {heardOn : Nat → Int32} {overruled : Int64} {R_L : List Nat} {R_kind R_number R_side R_n R_cell R_day R_ruling R_share : Nat → Int32} {s : Nat → Int32} {r t : Nat} {d : Int32} {texts ruling T_code : Nat → Option Nat} {T_L : List Nat} {T_number T_tongue T_day : Nat → Int32} {C_L : List Nat} {C_len : Nat → Nat} {C_row : Nat → Nat → Int32} {Q : (Nat → Option Nat) → Int64 → Prop} (hm : ICm today rights (nI r) leans heardOn overruled R_L R_kind R_number R_side R_n R_cell R_day R_ruling R_share s) (hr : r ≤ 50) (ht : t ≤ 15) (hx : lawT texts T_L T_number T_tongue T_day T_code C_L C_len C_row s t) (hQ : ∀ ru y, (∀ j, j < 3 → ru j = (txS s (nI j) d t).bind texts) → (∀ i, bitL y i = true ↔ ((i < r ∧ s (1310 + i) = nI 6) ∧ ¬ Cl r (Mx leans) (Sx overruled) i) ∧ ¬ Cl r (Mx leans) (fun j => j < 2 ^ 31 ∧ HU r s j) i) → Q ru y) : wp_X5_openOn d texts (nI t) rights (nI r) leans heardOn overruled ruling R_L R_kind R_ruling T_L T_tongue T_day Q := by
  unfold wp_X5_openOn
  have step : ∀ m i ru, i + m = 3 → (∀ j, j < i → ru j = (txS s (nI j) d t).bind texts) → wl_X5_openOn_2 d texts (nI t) rights (nI r) leans heardOn overruled R_L R_kind R_ruling T_L T_tongue T_day Q (m + 1) (nI i) ru := by
    intro m
    induction m with
    | zero =>
      intro i ru hi h
      rw [wl_X5_openOn_2]
      unfold wb_X5_openOn_2
      refine ⟨fun _ => cls_standing hm hr (fun y hy => hQ ru y (fun j hj => h j (by omega)) hy), fun z => absurd (by rw [nI_natle (by omega) (by omega)]; omega) z⟩
    | succ m ih =>
      intro i ru hi h
      rw [wl_X5_openOn_2]
      unfold wb_X5_openOn_2
      rw [nI_clamp (by omega), nI_add]
      refine ⟨fun z => absurd z (by rw [nI_natle (by omega) (by omega)]; omega), fun _ => cls_inForce (s := s) ht (fun j hj => ?_) ⟨vp_in_nI (by omega) (by omega), fun a ha => ?_, ih (i + 1) _ (by omega) (fun j hj => ?_)⟩⟩
      · obtain ⟨a, c, x1, x2, x3, x4, x5, x6⟩ := hx j hj
        exact ⟨a, x1, x2, x4, x5⟩
      · cases e : txS s (nI i) d t with
        | none => rw [e] at ha; cases ha
        | some q =>
          rw [e] at ha
          have ha2 : texts q = some a := ha
          obtain ⟨b, c, x1, x2, -⟩ := hx q (txS_lt _ _ e)
          rw [x1] at ha2
          cases ha2
          exact x2
      · by_cases ej : j = i
        · rw [ej, upee]
        · rw [upene ej]; exact h j (by omega)
  exact ⟨_, step 3 0 ruling (by omega) (fun j hj => by omega)⟩
theorem mod_letsBy {n t a : Nat} {tau d : Int32} {s letBy letStamp : Nat → Int32} {stamp : Int32} {Q : Int32 → Int32 → Int32 → Int32 → Int32 → Int32 → (Nat → Int32) → (Nat → Int32) → Prop} {r1 r2 r3 r4 r5 : Int32} (hn : n + 1 < 2 ^ 31) (ht : t ≤ 16) (h1 : s 1 = nI t) (hs : ∀ i, i < t → ∃ c, SlotOK s i c) (ha : a < 10800) (hI : ICacheT n letBy letStamp stamp s) (hQ : ∀ g1 g2 g3 g4 g5 lb ls, ICacheT n lb ls stamp s → Q (nI (if slO s (txS s tau d t) a then 1 else 0)) g1 g2 g3 g4 g5 lb ls) : wp_X12_letsBy tau (nI a) d s r1 r2 r3 r4 r5 letBy letStamp stamp Q := by
  unfold wp_X12_letsBy
  refine mod_textOf ht h1 ?_
  cases e : txS s tau d t with
  | none =>
    rw [e] at hQ
    exact ⟨fun z => absurd rfl z, fun _ => hQ _ _ _ _ _ _ _ hI⟩
  | some m =>
    rw [e] at hQ
    have hm := txS_lt _ _ e
    have n1 : ¬ oI (some m) = -1 := fun z => m1_ne (by omega : m < 2 ^ 31) z.symm
    refine ⟨fun _ => ?_, fun z => absurd z n1⟩
    show wp_X12_finds (nI m) _ _ _ _ _ _ _ _ _ _
    refine mod_finds hn (by omega) (hs m hm) hI (fun g1 g2 g3 g4 g5 lb ls i1 i2 => ?_)
    have em : nI 10800 * oI (some m) + nI a = nI (10800 * m + a) := by
      show nI 10800 * nI m + nI a = _
      rw [nI_mul, nI_add]
    rw [em, nI_clamp (by omega), i2 a ha]
    exact ⟨vp_in_nI (by omega) (by omega), zb_b _, hQ _ _ _ _ _ _ _ i1⟩
theorem mod_clauseOf {t a : Nat} {tau d : Int32} {s : Nat → Int32} {Q : Int32 → Int32 → Int32 → Int32 → Int32 → Int32 → Prop} {r1 r2 r3 r4 r5 : Int32} (ht : t ≤ 16) (h1 : s 1 = nI t) (hs : ∀ i, i < t → ∃ c, SlotOK s i c) (ha : a < 10800) (hQ : ∀ g1 g2 g3 g4 g5, Q (match txS s tau d t with | none => -1 | some m => kR m (lastK (lkS s m a) (s (4470 + m)).toNatClampNeg)) g1 g2 g3 g4 g5) : wp_X12_clauseOf tau (nI a) d s r1 r2 r3 r4 r5 Q := by
  unfold wp_X12_clauseOf
  refine mod_textOf ht h1 ?_
  cases e : txS s tau d t with
  | none =>
    rw [e] at hQ
    exact ⟨fun z => absurd rfl z, fun _ => hQ _ _ _ _ _⟩
  | some m =>
    rw [e] at hQ
    have hm := txS_lt _ _ e
    have n1 : ¬ oI (some m) = -1 := fun z => m1_ne (by omega : m < 2 ^ 31) z.symm
    refine ⟨fun _ => ?_, fun z => absurd z n1⟩
    show wp_X12_clauseIn (nI m) _ _ _ _ _ _ _ _
    obtain ⟨c, hc⟩ := hs m hm
    have ec : (s (4470 + m)).toNatClampNeg = c := by rw [hc.2.1, nI_clamp (by have := hc.1; omega)]
    refine mod_clauseIn (by omega) hc ha (fun g1 g2 g3 g4 g5 => ?_)
    rw [← ec]
    exact hQ _ _ _ _ _
