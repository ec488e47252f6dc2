theorem nI_m5 {k : Nat} (hk : k < 64) : ¬ nI k = (-5) := by
  have h : ∀ k, k < 64 → ¬ nI k = (-5) := by decide +kernel
  exact h k hk
theorem bsK_no {P : Nat → Bool} {F : Nat → Nat} {i : Nat} (c : P i = false) : bsK P F (i + 1) = bsK P F i := by
  show (if P i = true then _ else _) = _
  rw [if_neg (by rw [c]; decide)]
theorem bsK_y0 {P : Nat → Bool} {F : Nat → Nat} {i : Nat} (c : P i = true) (e : bsK P F i = none) : bsK P F (i + 1) = some i := by
  rw [bsK, if_pos c, e]
theorem bsK_y1 {P : Nat → Bool} {F : Nat → Nat} {i m : Nat} (c : P i = true) (e : bsK P F i = some m) : bsK P F (i + 1) = if F m ≤ F i then some m else some i := by
  rw [bsK, if_pos c, e]
theorem bs_cls {P : Nat → Bool} {F : Nat → Nat} {i : Nat} (c : P i = true) (hi : i < 64) (hF : ∀ x, F x ≤ 50) : (if nI (oF F 51 (bsK P F i)) ≤ nI (F i) then o5 (bsK P F i) else nI i) = o5 (bsK P F (i + 1)) ∧ (if nI (oF F 51 (bsK P F i)) ≤ nI (F i) then nI (oF F 51 (bsK P F i)) else nI (F i)) = nI (oF F 51 (bsK P F (i + 1))) := by
  have l := hF i
  cases e : bsK P F i with
  | none =>
    rw [bsK_y0 c e]
    have g : ¬ nI (oF F 51 none) ≤ nI (F i) := by
      show ¬ nI 51 ≤ nI (F i)
      rw [nI_natle (by omega) (by omega)]
      omega
    rw [if_neg g, if_neg g]
    exact ⟨rfl, rfl⟩
  | some m =>
    rw [bsK_y1 c e]
    have lm := hF m
    have g : (nI (oF F 51 (some m)) ≤ nI (F i)) = (F m ≤ F i) := nI_natle (a := F m) (by omega) (by omega)
    simp only [g]
    by_cases c2 : F m ≤ F i
    · rw [if_pos c2, if_pos c2, if_pos c2]
      exact ⟨rfl, rfl⟩
    · rw [if_neg c2, if_neg c2, if_neg c2]
      exact ⟨rfl, rfl⟩
theorem bs_mod {P : Nat → Bool} {F : Nat → Nat} {i : Nat} {a b : Int32} (h : a = b ↔ P i = true) (hi : i < 64) (hF : ∀ x, F x ≤ 50) : (if a = b then (if o5 (bsK P F i) = (-5) then nI i else (if nI (oF F 0 (bsK P F i)) ≤ nI (F i) then o5 (bsK P F i) else nI i)) else o5 (bsK P F i)) = o5 (bsK P F (i + 1)) ∧ (if a = b then (if o5 (bsK P F i) = (-5) then nI (F i) else (if nI (oF F 0 (bsK P F i)) ≤ nI (F i) then nI (oF F 0 (bsK P F i)) else nI (F i))) else nI (oF F 0 (bsK P F i))) = nI (oF F 0 (bsK P F (i + 1))) := by
  by_cases c : P i = true
  · have ab := h.mpr c
    rw [if_pos ab, if_pos ab]
    have l := hF i
    cases e : bsK P F i with
    | none =>
      rw [bsK_y0 c e]
      have g : o5 none = (-5) := rfl
      rw [if_pos g, if_pos g]
      exact ⟨rfl, rfl⟩
    | some m =>
      rw [bsK_y1 c e]
      have lm := hF m
      have lt := bsK_lt i m e
      have g5 : ¬ o5 (some m) = (-5) := nI_m5 (by omega)
      have g : (nI (oF F 0 (some m)) ≤ nI (F i)) = (F m ≤ F i) := nI_natle (a := F m) (by omega) (by omega)
      rw [if_neg g5, if_neg g5]
      simp only [g]
      by_cases c2 : F m ≤ F i
      · rw [if_pos c2, if_pos c2, if_pos c2]
        exact ⟨rfl, rfl⟩
      · rw [if_neg c2, if_neg c2, if_neg c2]
        exact ⟨rfl, rfl⟩
  · have ab : ¬ a = b := fun z => c (h.mp z)
    rw [if_neg ab, if_neg ab, bsK_no (by cases e : P i <;> simp [e] at c ⊢)]
    exact ⟨rfl, rfl⟩
theorem core_best {today : Int32} {rights : Nat → Option Nat} {count : Int32} {leans : Nat → Int64} {heardOn : Nat → Int32} {overruled : Int64} {termDays step : Int32} {R_L : List Nat} {R_kind R_number R_side R_n R_cell R_day R_ruling R_share : Nat → Int32} {gr stack hd lt tape T_number T_tongue T_day s fallen held stands falling letBy letStamp cells wa : Nat → Int32} {today0 bytes tc top k0 kr ks kw ko ka stamp qc wc : Int32} {texts ruling T_code : Nat → Option Nat} {fl fn : Nat → Int64} {T_L C_L : List Nat} {C_len : Nat → Nat} {C_row : Nat → Nat → Int32} {n : Nat} {R : (Nat → Int32) → (Nat → Int32) → Prop} (hL : ILand gr today0 tape bytes texts tc T_L T_number T_tongue T_day T_code C_L C_len C_row s) (hC : ICourt today rights count leans heardOn overruled termDays step R_L R_kind R_number R_side R_n R_cell R_day R_ruling R_share s) (hT : ICacheT n letBy letStamp stamp s) (hB : IBench cells fl fn qc wa wc s) (hn : n < 512) (hR : ∀ lb ls, ICacheT (n + 1) lb ls stamp s → R lb ls) : wp_X11_best gr today0 texts tc rights count leans heardOn overruled cells fl fn qc wa wc ruling stack top hd lt k0 R_L R_kind R_n R_cell R_ruling T_L T_tongue T_day T_code C_L C_len C_row (fun r _ _ _ _ _ _ _ => wp_X12_best s kr ks kw ko ka letBy letStamp stamp fallen held stands falling (fun r' _ _ _ _ _ lb ls _ _ _ _ => r = r' ∧ R lb ls)) := by
  have h0 := hR letBy letStamp (ICacheT_mono hT)
  obtain ⟨hg, htd, -, -, -, -, t, ht, rfl, h1, hx0⟩ := hL
  have hm0 := hC.2.2
  obtain ⟨-, r, -, hr, ec, -⟩ := id hm0
  subst ec
  have hm := hm0
  obtain ⟨h2, hM, hMr⟩ := ICm_M hm hr
  have hx : lawT texts T_L T_number T_tongue T_day T_code C_L C_len C_row s t := fun i hi => by
    obtain ⟨a, c, x1, x2, x3, x4, -, x6, -, x8, x9, x10⟩ := hx0 i hi
    exact ⟨a, c, x1, x2, x3, x4, x6, x8, x9, x10⟩
  have hs : ∀ i, i < t → ∃ c, SlotOK s i c := fun i hi => by
    obtain ⟨a, c, -, -, -, -, -, -, -, x10⟩ := hx i hi
    exact SlotOK_T x10
  have hgr : ∀ i, i < 30 → gr i = s (20 + i) := fun i hi => (hg i hi).1
  obtain ⟨⟨q, hq, eq1, h8, hqs⟩, w, hw, ew1, h9, hwa⟩ := hB
  subst eq1 ew1
  have look : ∀ (y : Int64), (∀ i, bitL y i = true ↔ ((i < r ∧ s (1310 + i) = nI 6) ∧ ¬ Cl r (Mx leans) (Sx overruled) i) ∧ ¬ Cl r (Mx leans) (fun j => j < 2 ^ 31 ∧ HU r s j) i) → ∀ K : (Nat → Int32) → (Nat → Int32) → (Nat → Int32) → Prop, (∀ f h st, (∀ i, i < 50 → isB (st i) (bitL y i = true)) → K f h st) → wp_X12_looks s fallen held stands K := by
    intro y hy K hK
    refine mod_looks hm hr (fun f h st _ _ q => hK f h st (fun i hi => ?_))
    have e : (((i < r ∧ s (1310 + i) = nI 6) ∧ ¬ Cl r (Mx leans) (Sx overruled) i) ∧ ¬ Cl r (Mx leans) (HS r s) i) = (bitL y i = true) := propext (hy i).symm
    rw [← e]
    exact q i hi
  have MR : ∀ i j, i < r → Mx leans i j = true → j < r := fun i j hi hj => by
    have := hMr i j hi hj
    omega
  obtain ⟨al, pq, p0⟩ := shlF q (by omega)
  obtain ⟨N, hN⟩ : ∃ N, N = 2 ^ q := ⟨_, rfl⟩
  rw [← hN] at al pq p0
  unfold wp_X11_best
  refine cls_needed hm hr ht htd.1 hgr hx hq (fun i hi => (hqs i hi).1) hw hwa (fun y ru st top hd lt k v hy hv => ?_)
  have hy2 : ∀ i, bitL y i = true → i < r ∧ s (1310 + i) = nI 6 := fun i hi => ((hy i).mp hi).1.1
  obtain ⟨F, hF⟩ : ∃ F : Nat → Nat, ∀ x, fcN s (Mx leans) r q y (nI x) = F x := ⟨_, fun _ => rfl⟩
  have hF50 : ∀ x, F x ≤ 50 := fun x => by rw [← hF x]; exact fcN_le
  have mod : ∀ P : Nat → Bool, (∀ x, P x = true ↔ ∀ j, j < w → meF s y r t q (nI x) (waS s j) = true) → wp_X12_best s kr ks kw ko ka letBy letStamp stamp fallen held stands falling (fun r' _ _ _ _ _ lb ls _ _ _ _ => o5 (bsK P F N) = r' ∧ R lb ls) := by
    intro P hP
    unfold wp_X12_best
    refine look y hy _ (fun f h st hst => ⟨N + 1, ?_⟩)
    have step : ∀ (Qm : Int32 → Int32 → Int32 → Int32 → Int32 → Int32 → (Nat → Int32) → (Nat → Int32) → (Nat → Int32) → (Nat → Int32) → (Nat → Int32) → (Nat → Int32) → Prop), (∀ a1 a2 a3 a4 a5 lb ls fl, ICacheT n lb ls stamp s → Qm (o5 (bsK P F N)) a1 a2 a3 a4 a5 lb ls f h st fl) → ∀ m i a1 a2 a3 a4 a5 lb ls fl, i + m = N → ICacheT n lb ls stamp s → wl_X12_best_11 s stamp Qm f h st (m + 1) (o5 (bsK P F i)) (nI (oF F 0 (bsK P F i))) (nI i) a1 a2 a3 a4 a5 lb ls fl := by
      intro Qm hQm m
      induction m with
      | zero =>
        intro i a1 a2 a3 a4 a5 lb ls fl hi hc
        rw [wl_X12_best_11]
        unfold wb_X12_best_11
        have e : i = N := hi
        rw [h8, al, e]
        exact ⟨fun _ => hQm _ _ _ _ _ _ _ _ hc, fun z => absurd (Int32.le_refl _) z⟩
      | succ m ih =>
        intro i a1 a2 a3 a4 a5 lb ls fl hi hc
        rw [wl_X12_best_11]
        unfold wb_X12_best_11
        rw [h8, al]
        refine ⟨fun z => absurd z (by rw [nI_natle (by omega) (by omega)]; omega), fun _ => ?_⟩
        refine mod_falls2 hr h2 hM hMr hq h8 hst (fun f' => ?_)
        refine mod_metBy (by omega) (by omega) h1 hs hc hr h2 (fun i hi => hst i (by omega)) hy2 hq h8 hw h9 (fun i hi => (hwa i hi).2) (fun k1 k2 k3 k4 k5 lb ls hc => ?_)
        intro x1 e1 x2 e2
        have b := bs_mod (P := P) (F := F) (i := i) (a := nI (meC s y r t q (nI i) w)) (b := s 9) (by
          have l : meC s y r t q (nI i) w ≤ w := popS_le (fun i => by unfold bN; split <;> omega) w
          refine Iff.trans ?_ (hP i).symm
          refine Iff.trans ?_ (popS_full (g := fun j => meF s y r t q (nI i) (waS s j)) w)
          rw [h9, nI_nateq (by omega) (by omega)]
          exact Iff.rfl) (by omega) hF50
        rw [hF i] at e1 e2
        rw [e1, e2, b.1, b.2, nI_add]
        exact ih (i + 1) _ _ _ _ _ _ _ _ (by omega) hc
    exact step _ (fun a1 a2 a3 a4 a5 lb ls fl hc => ⟨rfl, hR _ _ (ICacheT_mono hc)⟩) N 0 _ _ _ _ _ _ _ _ (by omega) hT
  rcases hv with hv | ⟨ev, i, hi, hp⟩
  · have v5 := neB_m5 hv
    refine ⟨fun _ => ?_, fun e => absurd e v5⟩
    have hM2 := mod (fun x => decide ((nI x &&& v) = v)) (fun x => by rw [decide_eq_true_eq, and_sub]; exact hv.2 (nI x))
    obtain ⟨P, eP⟩ : ∃ P : Nat → Bool, P = (fun x => decide ((nI x &&& v) = v)) := ⟨_, rfl⟩
    rw [← eP] at hM2
    have hP : ∀ x, P x = true ↔ (nI x &&& v) = v := fun x => by
      rw [eP]
      show decide ((nI x &&& v) = v) = true ↔ _
      exact decide_eq_true_iff
    refine cls_standing hm hr (fun y' hy' => ?_)
    have ey : y' = y := bit_ext (fun i _ => by
      have a1 : bitL y' i = true ↔ bitL y i = true := (hy' i).trans (hy i).symm
      cases u : bitL y' i <;> cases v : bitL y i <;> simp [u, v] at a1 ⊢)
    rw [ey]
    intro x ex
    rw [show f_X0_allAnswers (nI q) = (nI 1 <<< (nI q &&& 31)) - nI 1 from rfl, al, nI_subL p0] at ex
    rw [ex]
    refine ⟨N + 1, ?_⟩
    have step : ∀ (Qc : Int32 → (Nat → Option Nat) → Int64 → (Nat → Int32) → Int32 → (Nat → Int32) → (Nat → Int32) → Int32 → Prop), Qc (o5 (bsK P F N)) ru y st top hd lt k → ∀ m i, i + m = N → wl_X11_best_48 (nI r) leans fl fn (nI q) Qc v ru y st top hd lt k y (nI (N - 1)) (m + 1) (o5 (bsK P F i)) (nI (oF F 51 (bsK P F i))) (nI i) := by
      intro Qc hQc m
      induction m with
      | zero =>
        intro i hi
        rw [wl_X11_best_48]
        unfold wb_X11_best_48
        have e : i = N := hi
        rw [e, nI_natlt (by omega) (by omega)]
        exact ⟨fun _ => hQc, fun z => absurd (by omega) z⟩
      | succ m ih =>
        intro i hi
        rw [wl_X11_best_48]
        unfold wb_X11_best_48
        rw [nI_natlt (by omega) (by omega), nI_add]
        refine ⟨fun z => absurd z (by omega), fun _ => ⟨fun z => ?_, fun z => ?_⟩⟩
        · have g := ih (i + 1) (by omega)
          rw [bsK_no (by
            cases e : P i
            · rfl
            · exact absurd ((hP i).mp e) z)] at g
          exact g
        · refine cls_falls2 hr hq (fun k hk i hi => (hqs k hk).2 i hi) (fun i hi => (hy2 i hi).1) MR ?_
          rw [hF i]
          intro x4 e4 x5 e5
          have b := bs_cls (P := P) (F := F) (i := i) ((hP i).mpr z) (by omega) hF50
          rw [e4, e5, b.1, b.2]
          exact ih (i + 1) (by omega)
    exact step _ hM2 N 0 (by omega)
  · refine ⟨fun z => absurd ev z, fun _ => ?_⟩
    have g := mod (fun _ => false) (fun x => ⟨fun z => (by cases z), fun g => absurd (g i hi) (by rw [hp]; decide)⟩)
    rw [bsK_none _ (fun _ _ => rfl)] at g
    exact g
