/-- a text's clause as it is answered -/
def reaS (m : Nat) : Option Nat → Int32
  | none => -5
  | some j => nI m * nI 100 + nI j
theorem cls_tongueReason {tau a t : Nat} {o : Option Nat} {gr s stack hd lt T_number T_tongue T_day : Nat → Int32} {texts ruling : Nat → Option Nat} {top k : Int32} {T_L : List Nat} {T_code : Nat → Option Nat} {C_L : List Nat} {C_len : Nat → Nat} {C_row : Nat → Nat → Int32} {Q : Int32 → (Nat → Int32) → Int32 → (Nat → Int32) → (Nat → Int32) → Int32 → Prop} (hgr : ∀ i, i < 30 → gr i = s (20 + i)) (hx : lawT texts T_L T_number T_tongue T_day T_code C_L C_len C_row s t) (ha : a < 10800) (ht : tau < 3) (ho : ∀ m, o = some m → m < t) (ht2 : t ≤ 16) (hru : ruling tau = o.bind texts) (hQ : ∀ st top hd lt k, Q (match o with | none => -5 | some m => reaS m (lastK (lkS s m a) (s (4470 + m)).toNatClampNeg)) st top hd lt k) : wp_X5_tongueReason (nI tau) (nI a) gr ruling stack top hd lt k T_L T_number T_code C_L C_len C_row Q := by
  unfold wp_X5_tongueReason
  rw [nI_clamp (by omega), hru]
  refine ⟨vp_in_nI ht (by omega), ?_⟩
  cases o with
  | none => exact ⟨fun z => absurd rfl z, fun _ => hQ _ _ _ _ _⟩
  | some m =>
    obtain ⟨b, c, x1, x2, x3, x4, x5, x6, x7, x8⟩ := hx m (ho m rfl)
    have e1 : (some m).bind texts = some b := x1
    have e2 : oget (some b) = b := rfl
    have e3 : oget (some c) = c := rfl
    rw [e1, e2, x6, e3, pk_div (a := a) (d := 24) (by omega) (by omega) (by omega)]
    refine ⟨fun _ => ⟨x2, fun z => (by cases z), cls_weigh hgr (by omega) x7 x8 (fun st hd lt k hk => ?_)⟩, fun z => (by cases z)⟩
    obtain ⟨n, w1, w2, w3, w4⟩ := hk
    rw [w2, dnI_e]
    have en : (s (4470 + m)).toNatClampNeg = n := by rw [w3, nI_clamp (by omega)]
    have step : ∀ i, i ≤ n → lastK (lkS s m a) n = lastK (lkS s m a) i → wl_X5_tongueReason_34 (nI tau) (nI a) ruling T_L T_number Q st (nI 0) hd lt (nI n) (i + 1) (dnI i) := by
      intro i
      induction i with
      | zero =>
        intro _ he
        rw [wl_X5_tongueReason_34]
        unfold wb_X5_tongueReason_34
        refine ⟨fun _ => ?_, fun z => absurd (by decide) z⟩
        have q := hQ st (nI 0) hd lt (nI n)
        rw [show (match (some m : Option Nat) with | none => (-5 : Int32) | some m => reaS m (lastK (lkS s m a) (s (4470 + m)).toNatClampNeg)) = reaS m (lastK (lkS s m a) (s (4470 + m)).toNatClampNeg) from rfl, en, he] at q
        exact q
      | succ i ih =>
        intro hi he
        rw [wl_X5_tongueReason_34]
        unfold wb_X5_tongueReason_34
        have hh := (w4 i (by omega)).1 (a % 24)
        have h2 : b32 (hd i) (a % 24) = true ↔ a % 24 < 24 ∧ lkS s m (24 * (a / 24) + a % 24) i = true := hh
        rw [show 24 * (a / 24) + a % 24 = a from by omega] at h2
        rw [show dnI (i + 1) = nI i from rfl, nI_clamp (by omega), pk_rem (a := a) (d := 24) (by omega) (by omega) (by omega), nI_clamp (by omega), hru, e1, e2, x3, dnI_s]
        have e5 : ((hd i >>> (nI (a % 24) &&& 31)) &&& nI 1) = 0 ↔ b32 (hd i) (a % 24) = false := by rw [b32_testz _ _ (by omega)]
        refine ⟨fun z => absurd z (nI_pos (by omega)), fun _ => ⟨vp_in_nI (by omega) (by omega), fun z => ih (by omega) ?_, fun z => ⟨x2, ?_⟩⟩⟩
        · rw [he, lastK]
          refine if_neg (fun w => ?_)
          have := e5.mp z
          rw [h2.mpr ⟨by omega, w⟩] at this
          cases this
        · have bt : b32 (hd i) (a % 24) = true := by
            cases q : b32 (hd i) (a % 24)
            · exact absurd (e5.mpr q) z
            · rfl
          have q := hQ st (nI 0) hd lt (nI n)
          rw [show (match (some m : Option Nat) with | none => (-5 : Int32) | some m => reaS m (lastK (lkS s m a) (s (4470 + m)).toNatClampNeg)) = reaS m (lastK (lkS s m a) (s (4470 + m)).toNatClampNeg) from rfl, en, he, lastK, if_pos (h2.mp bt).2] at q
          exact q
    exact ⟨_, step n (Nat.le_refl _) rfl⟩
theorem core_why {today : Int32} {rights : Nat → Option Nat} {count : Int32} {leans : Nat → Int64} {heardOn : Nat → Int32} {overruled : Int64} {termDays step : Int32} {R_L : List Nat} {R_kind R_number R_side R_n R_cell R_day R_ruling R_share : Nat → Int32} {gr stack hd lt tape T_number T_tongue T_day s fallen held stands : Nat → Int32} {today0 bytes tc top k0 kr ks kw ko ka p1 p2 p3 : Int32} {texts ruling T_code : Nat → Option Nat} {standing : Int64} {T_L C_L : List Nat} {C_len : Nat → Nat} {C_row : Nat → Nat → Int32} {R : Prop} (hL : ILand gr today0 tape bytes texts tc T_L T_number T_tongue T_day T_code C_L C_len C_row s) (hC : ICourt today rights count leans heardOn overruled termDays step R_L R_kind R_number R_side R_n R_cell R_day R_ruling R_share s) (hR : R) : wp_X11_why p1 p2 p3 gr texts tc rights count leans heardOn overruled ruling standing stack top hd lt k0 R_L R_kind R_cell R_ruling T_L T_number T_tongue T_day T_code C_L C_len C_row (fun r _ _ _ _ _ _ _ => wp_X12_why p1 p2 p3 s kr ks kw ko ka fallen held stands (fun r' _ _ _ _ _ _ _ _ => r = r' ∧ R)) := by
  have h0 := hR
  obtain ⟨hg, -, -, -, -, -, t, ht, rfl, h1, hx0⟩ := hL
  have hm0 := hC.2.2
  obtain ⟨-, r, -, hr, ec, -⟩ := id hm0
  subst ec
  have hm := hm0
  obtain ⟨h2, -, -⟩ := ICm_M hm hr
  have hx : lawT texts T_L T_number T_tongue T_day T_code C_L C_len C_row s t := fun i hi => by
    obtain ⟨a, c, x1, x2, x3, x4, -, x6, -, x8, x9, x10⟩ := hx0 i hi
    exact ⟨a, c, x1, x2, x3, x4, x6, x8, x9, x10⟩
  have hs : ∀ i, i < t → ∃ c, SlotOK s i c := fun i hi => by
    obtain ⟨a, c, -, -, -, -, -, -, -, x10⟩ := hx i hi
    exact SlotOK_T x10
  have hgr : ∀ i, i < 30 → gr i = s (20 + i) := fun i hi => (hg i hi).1
  unfold wp_X11_why wp_X12_why
  unfold f_X11_isTongue f_X11_isAct f_X11_isDay f_X12_isDay
  rw [within_eq p1, within_eq p2, within_eq p3]
  rcases in_cases p1 0 3 (by decide) (by decide) with ⟨g1, q1⟩ | ⟨g1, p, -, hp, rfl⟩
  · rcases in_cases p1 0 2 (by decide) (by decide) with ⟨g0, -⟩ | ⟨g0, p, -, hp, rfl⟩
    · rw [g0, g1]
      exact ⟨fun _ => ⟨fun z => absurd rfl z, fun _ => ⟨rfl, h0⟩⟩, fun z => absurd ⟨rfl, q1 3 (by omega) (by omega)⟩ z⟩
    · exact absurd rfl (q1 p (by omega) (by omega))
  have n3 : ¬ (f_X12_in (nI p) (nI 0) (nI 2) = 0 ∧ ¬ nI p = nI 3) := by
    rcases in_cases (nI p) 0 2 (by decide) (by decide) with ⟨-, q⟩ | ⟨g0, -⟩
    · intro z
      refine z.2 ?_
      rcases Nat.lt_or_ge p 3 with w | w
      · exact absurd rfl (q p (by omega) (by omega))
      · rw [show p = 3 from by omega]
    · rw [g0]
      exact fun z => absurd z.1 (by decide)
  rw [g1]
  refine ⟨fun z => absurd z n3, fun _ => ?_⟩
  rcases in_cases p2 0 10799 (by decide) (by decide) with ⟨g2, -⟩ | ⟨g2, a, -, ha, rfl⟩
  · rw [g2]
    exact ⟨fun _ => ⟨fun _ => ⟨fun _ => ⟨rfl, h0⟩, fun z => absurd (Or.inl rfl) z⟩, fun z => absurd z (by decide)⟩, fun z => absurd (Or.inl rfl) z⟩
  rcases in_cases p3 0 999 (by decide) (by decide) with ⟨g3, -⟩ | ⟨g3, d, -, hd3, rfl⟩
  · rw [g2, g3]
    exact ⟨fun _ => ⟨fun _ => ⟨fun _ => ⟨rfl, h0⟩, fun z => absurd (Or.inr rfl) z⟩, fun z => absurd z (by decide)⟩, fun z => absurd (Or.inr rfl) z⟩
  rw [g2, g3]
  have nn : ¬ (nI 1 = 0 ∨ nI 1 = 0) := by decide
  refine ⟨fun z => absurd z nn, fun _ => cls_openOn hm hr ht hx (fun ru y hru hy => ?_)⟩
  have hy2 : ∀ i, bitL y i = true → i < r ∧ s (1310 + i) = nI 6 := fun i hi => ((hy i).mp hi).1.1
  have look : ∀ K : (Nat → Int32) → (Nat → Int32) → (Nat → Int32) → Prop, (∀ f h st, (∀ i, i < r → isB (st i) (bitL y i = true)) → K f h st) → wp_X12_looks s fallen held stands K := by
    intro K hK
    refine mod_looks hm hr (fun f h st _ _ q => hK f h st (fun i hi => ?_))
    have e : (((i < r ∧ s (1310 + i) = nI 6) ∧ ¬ Cl r (Mx leans) (Sx overruled) i) ∧ ¬ Cl r (Mx leans) (HS r s) i) = (bitL y i = true) := propext (hy i).symm
    rw [← e]
    exact q i (by omega)
  refine ⟨fun ep => ?_, fun np => ?_⟩
  · unfold wp_X5_rulingAbout
    rw [pk_div (a := a) (d := 24) (by omega) (by omega) (by omega), pk_rem (a := a / 24) (d := 150) (by omega) (by omega) (by omega)]
    refine cls_lastAbout hm hr hy2 (fun y0 hy0 => ?_)
    refine ⟨fun _ => ⟨fun z => absurd z nn, fun _ => look _ (fun f h st hst => ⟨fun z => absurd ep z, fun _ => ?_⟩)⟩, fun z => absurd z (by decide)⟩
    refine mod_rulingOf hr h2 (by omega) hst hy2 (fun y1 hy1 => ⟨?_, hR⟩)
    rw [hy0, hy1]
    cases e : lastK (rbS s y (a / 24)) r with
    | none => decide
    | some i =>
      have hi := (lastK_lt _ _ e).1
      have n1 : ¬ oI (some i) = -1 := fun z => m1_ne (by omega : i < 2 ^ 31) z.symm
      have n2 : (0 : Int32) ≤ oI (some i) := Int32.not_lt.mp (nI_pos (by omega))
      rw [if_neg n1, if_pos n2]
  · have p3 : p < 3 := by
      rw [nI_nateq (by omega) (by omega)] at np
      omega
    refine cls_tongueReason hgr hx (by omega) p3 (fun m hm => txS_lt _ _ hm) (by omega) (hru p p3) (fun st top hd lt k => ?_)
    refine ⟨fun _ => ⟨fun z => absurd z nn, fun _ => look _ (fun f h st hst => ⟨fun _ => ?_, fun z => absurd z np⟩)⟩, fun z => absurd z (by decide)⟩
    refine mod_clauseOf (by omega) h1 hs (by omega) (fun k1 k2 k3 k4 k5 x hx => ⟨?_, hR⟩)
    rw [hx]
    cases e : txS s (nI p) (nI d) t with
    | none => rfl
    | some m =>
      have hmt := txS_lt _ _ e
      show reaS m (lastK (lkS s m a) (s (4470 + m)).toNatClampNeg) = (if kR m (lastK (lkS s m a) (s (4470 + m)).toNatClampNeg) = -1 then -5 else nI 100 * (kR m (lastK (lkS s m a) (s (4470 + m)).toNatClampNeg) / nI 8) + (kR m (lastK (lkS s m a) (s (4470 + m)).toNatClampNeg) - kR m (lastK (lkS s m a) (s (4470 + m)).toNatClampNeg) / nI 8 * nI 8))
      obtain ⟨c, hc⟩ := hs m hmt
      have ec : (s (4470 + m)).toNatClampNeg = c := by rw [hc.2.1, nI_clamp (by have := hc.1; omega)]
      have c8 := hc.1
      rw [ec]
      cases e2 : lastK (lkS s m a) c with
      | none => rfl
      | some j =>
        have hj := (lastK_lt _ _ e2).1
        show nI m * nI 100 + nI j = if nI (8 * m + j) = -1 then -5 else nI 100 * (nI (8 * m + j) / nI 8) + (nI (8 * m + j) - nI (8 * m + j) / nI 8 * nI 8)
        rw [if_neg (fun z => m1_ne (by omega : 8 * m + j < 2 ^ 31) z.symm), pk_rem (a := 8 * m + j) (d := 8) (by omega) (by omega) (by omega), pk_div (a := 8 * m + j) (d := 8) (by omega) (by omega) (by omega), nI_mul, nI_add, nI_mul, nI_add]
        congr 1
        omega
