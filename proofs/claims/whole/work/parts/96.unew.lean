theorem lastK_same {P P' : Nat → Bool} : ∀ n, (∀ k, k < n → P' k = P k) → lastK P' n = lastK P n := by
  intro n
  induction n with
  | zero => intro _; rfl
  | succ n ih =>
    intro h
    rw [lastK, lastK, h n (by omega), ih (fun k hk => h k (by omega))]
theorem txS_same {s v : Nat → Int32} {tau d : Int32} : ∀ n, (∀ i, i < n → v (4410 + i) = s (4410 + i) ∧ v (4430 + i) = s (4430 + i)) → txS v tau d n = txS s tau d n := by
  intro n
  induction n with
  | zero => intro _; rfl
  | succ n ih =>
    intro h
    rw [txS, txS, ih (fun i hi => h i (by omega)), (h n (by omega)).1, (h n (by omega)).2]
    cases e : txS s tau d n with
    | none => rfl
    | some m =>
      have := txS_lt _ _ e
      dsimp only
      rw [(h m (by omega)).2]
theorem txS_day {s : Nat → Int32} {tau d : Int32} : ∀ n m, txS s tau d n = some m → ¬ d < s (4430 + m) := by
  intro n
  induction n with
  | zero => intro m h; cases h
  | succ n ih =>
    intro m h
    rw [txS] at h
    by_cases c1 : s (4410 + n) = tau
    · rw [if_pos c1] at h
      by_cases c2 : d < s (4430 + n)
      · rw [if_pos c2] at h
        exact ih m h
      · rw [if_neg c2] at h
        cases e : txS s tau d n with
        | none =>
          rw [e] at h
          cases h
          exact c2
        | some k =>
          rw [e] at h
          have h2 : (if s (4430 + n) < s (4430 + k) then some k else some n) = some m := h
          by_cases c3 : s (4430 + n) < s (4430 + k)
          · rw [if_pos c3] at h2
            cases h2
            exact ih m e
          · rw [if_neg c3] at h2
            cases h2
            exact c2
    · rw [if_neg c1] at h
      exact ih m h
theorem slF_same {s v : Nat → Int32} {m c a : Nat} (h : SlotOK s m c) (e1 : v (4470 + m) = s (4470 + m)) (e2 : ∀ k, k < c → v (4490 + (8 * m + k)) = s (4490 + (8 * m + k)) ∧ v (4620 + (8 * m + k)) = s (4620 + (8 * m + k))) (e3 : pkS v m = pkS s m) (e4 : gS v = gS s) : slF v m a = slF s m a := by
  unfold slF
  rw [e1, h.2.1, nI_clamp (by have := h.1; omega)]
  rw [lastK_same c (fun k hk => show lkS v m a k = lkS s m a k from by unfold lkS; rw [e3, e4, (e2 k hk).2])]
  cases e : lastK (lkS s m a) c with
  | none => rfl
  | some k =>
    have := lastK_lt _ _ e
    show cbS v m k = cbS s m k
    unfold cbS
    rw [(e2 k this.1).1]
theorem new_slot {s : Nat → Int32} {t L : Nat} {tg dy : Int32} {l : List (Bool × Nat)} (ht : t ≤ 15) (hl : l.length ≤ 8) (hL : L ≤ 120) : ∃ v, slotT t L tg dy s v ∧ recS v t l := by
  refine ⟨fun j => if j = 10 then nI 0 else if j = 4410 + t then tg else if j = 4430 + t then dy else if j = 4450 + t then nI L else if j = 4470 + t then nI l.length else if 4490 + 8 * t ≤ j ∧ j < 4490 + 8 * t + 8 then (match l[j - (4490 + 8 * t)]? with | some q => nI (if q.1 then 1 else 0) | none => 0) else if 4620 + 8 * t ≤ j ∧ j < 4620 + 8 * t + 8 then (match l[j - (4620 + 8 * t)]? with | some q => nI q.2 | none => 0) else if 4750 + 120 * t ≤ j ∧ j < 4750 + 120 * t + 120 then s (1190 + (j - (4750 + 120 * t))) else s j, ⟨fun j h1 h2 h3 h4 h5 h6 h7 h8 => ?_, ?_, ?_, ?_, ?_, fun p hp => ?_⟩, ?_, fun k b p hk => ?_⟩
  · dsimp only
    rw [if_neg h1, if_neg h2, if_neg h3, if_neg h4, if_neg h5, if_neg h6, if_neg h7, if_neg h8]
  · dsimp only
    rw [if_pos rfl]
  · dsimp only
    rw [if_neg (by omega), if_pos rfl]
  · dsimp only
    rw [if_neg (by omega), if_neg (by omega), if_pos rfl]
  · dsimp only
    rw [if_neg (by omega), if_neg (by omega), if_neg (by omega), if_pos rfl]
  · dsimp only
    rw [if_neg (by omega), if_neg (by omega), if_neg (by omega), if_neg (by omega), if_neg (by omega), if_neg (by omega), if_neg (by omega), if_pos (by omega), show 4750 + 120 * t + p - (4750 + 120 * t) = p from by omega]
  · dsimp only
    rw [if_neg (by omega), if_neg (by omega), if_neg (by omega), if_neg (by omega), if_pos rfl]
  · have hk8 : k < l.length := (List.getElem?_eq_some_iff.mp hk).1
    dsimp only
    constructor
    · rw [if_neg (by omega), if_neg (by omega), if_neg (by omega), if_neg (by omega), if_neg (by omega), if_pos (by omega), show 4490 + (8 * t + k) - (4490 + 8 * t) = k from by omega, hk]
    · rw [if_neg (by omega), if_neg (by omega), if_neg (by omega), if_neg (by omega), if_neg (by omega), if_neg (by omega), if_pos (by omega), show 4620 + (8 * t + k) - (4620 + 8 * t) = k from by omega, hk]
theorem lawT_new {texts : Nat → Option Nat} {T_L : List Nat} {T_number T_tongue T_day : Nat → Int32} {T_code : Nat → Option Nat} {C_L : List Nat} {C_len : Nat → Nat} {C_row : Nat → Nat → Int32} {pk s v code0 code' : Nat → Int32} {t L q q' : Nat} {tg dy : Int32} (hx : lawT texts T_L T_number T_tongue T_day T_code C_L C_len C_row s t) (ht : t ≤ 15) (hL : L ≤ 120) (hE : pkE L pk) (hpk : ∀ p, pk p = if p < L then s (1190 + p) else -1) (fb : (pTp pk L 8 0).1 = true) (hs : slotT t L tg dy s v) (hr : recS v t (pTp pk L 8 0).2.2.1) (hc : appC code0 0 (pTp pk L 8 0).2.2.2 code') (hq : q ∉ T_L) (hq' : q' ∉ C_L) : lawT (va_up texts t (some q)) (T_L ++ [q]) (va_up T_number q (nI t)) (va_up T_tongue q tg) (va_up T_day q dy) (va_up T_code q (some q')) (C_L ++ [q']) (va_up C_len q' (pTp pk L 8 0).2.2.2.length) (va_up C_row q' (va_cpy code' (fun _ => 0) 0 0 (pTp pk L 8 0).2.2.2.length)) (upd v 1 (nI (t + 1))) (t + 1) := by
  intro i hi
  by_cases e : i = t
  · subst e
    refine ⟨q, q', upee, memq, upee, ?_, ?_, upee, memq, ?_⟩
    · rw [upee, updne (by omega), hs.2.2.1]
    · rw [upee, updne (by omega), hs.2.2.2.1]
    · rw [upee, upee]
      have hp : pkS (upd v 1 (nI (i + 1))) i = pk := by
        funext p
        unfold pkS
        rw [updne (by omega), updne (by omega), hs.2.2.2.2.1, nI_clamp (by omega), hpk p]
        by_cases c : p < L
        · rw [if_pos c, if_pos c, hs.2.2.2.2.2 p c]
        · rw [if_neg c, if_neg c]
      refine TextOK_new hL hE (by rw [updne (by omega)]; exact hs.2.2.2.2.1) hp fb ⟨by rw [updne (by omega)]; exact hr.1, fun k b p hk => ?_⟩ hc
      have := hr.2 k b p hk
      rw [updne (by omega), updne (by omega)]
      exact this
  · obtain ⟨a, c, d1, d2, d3, d4, d5, d6, d7, d8⟩ := hx i (by omega)
    have na := fresh_ne hq d2
    have nc := fresh_ne hq' d7
    refine ⟨a, c, by rw [upene e]; exact d1, List.mem_append.mpr (Or.inl d2), by rw [upene na]; exact d3, ?_, ?_, by rw [upene na]; exact d6, List.mem_append.mpr (Or.inl d7), ?_⟩
    · rw [upene na, updne (by omega), slotT_out hs _ (by omega) (by unfold slotI; omega)]; exact d4
    · rw [upene na, updne (by omega), slotT_out hs _ (by omega) (by unfold slotI; omega)]; exact d5
    · rw [upene nc, upene nc]
      refine TextOK_slot d8 (fun j hj => ?_)
      rw [updne (by unfold slotI at hj; omega)]
      exact slotT_out hs j (by unfold slotI at hj; omega) (by unfold slotI at hj ⊢; omega)
theorem cls_cityCount {today : Int32} {rights : Nat → Option Nat} {leans : Nat → Int64} {heardOn : Nat → Int32} {overruled : Int64} {R_L : List Nat} {R_kind R_number R_side R_n R_cell R_day R_ruling R_share : Nat → Int32} {s : Nat → Int32} {r t : Nat} {d : Int32} {y : Int64} {gr stack hd lt : Nat → Int32} {top k : Int32} {texts ruling T_code : Nat → Option Nat} {T_L : List Nat} {T_number T_tongue T_day : Nat → Int32} {C_L : List Nat} {C_len : Nat → Nat} {C_row : Nat → Nat → Int32} {Q : Int32 → (Nat → Int32) → Int32 → (Nat → Int32) → (Nat → Int32) → Int32 → Prop} (hm : ICm today rights (nI r) leans heardOn overruled R_L R_kind R_number R_side R_n R_cell R_day R_ruling R_share s) (hr : r ≤ 50) (hgr : ∀ i, i < 30 → gr i = s (20 + i)) (hx : lawT texts T_L T_number T_tongue T_day T_code C_L C_len C_row s t) (hru : ∀ j, j < 3 → ruling j = (txS s (nI j) d t).bind texts) (hy : ∀ i, bitL y i = true → i < r ∧ s (1310 + i) = nI 6) (hQ : ∀ st top hd lt k, Q (nI (popS (bN (ctF s y r t d)) 10800)) st top hd lt k) : wp_X5_cityCount gr rights (nI r) ruling y stack top hd lt k R_L R_n R_cell T_L T_code C_L C_len C_row Q := by
  unfold wp_X5_cityCount
  have step : ∀ m B st top hd lt k, B + m = 450 → wl_X5_cityCount_4 gr rights (nI r) ruling y R_L R_n R_cell T_L T_code C_L C_len C_row Q (m + 1) (nI (popS (bN (ctF s y r t d)) (24 * B))) (nI B) st top hd lt k := by
    intro m
    induction m with
    | zero =>
      intro B st top hd lt k hB
      rw [wl_X5_cityCount_4]
      unfold wb_X5_cityCount_4
      refine ⟨fun _ => ?_, fun z => absurd (by rw [nI_natle (by omega) (by omega)]; omega) z⟩
      rw [show 24 * B = 10800 from by omega]
      exact hQ _ _ _ _ _
    | succ m ih =>
      intro B st top hd lt k hB
      rw [wl_X5_cityCount_4]
      unfold wb_X5_cityCount_4
      refine ⟨fun z => absurd z (by rw [nI_natle (by omega) (by omega)]; omega), fun _ => ?_⟩
      refine cls_cityHours hm hr hgr hx (by omega) hru hy (fun x st top hd lt k hh v hv => ?_)
      rw [hv, hrs_pop hh, nI_add, nI_add]
      have e := popS_add (bN (ctF s y r t d)) (24 * B) 24
      rw [show popS (bN (fun i => ctF s y r t d (24 * B + i))) 24 = popS (fun i => bN (ctF s y r t d) (24 * B + i)) 24 from rfl, ← e, show 24 * B + 24 = 24 * (B + 1) from by omega]
      exact ih (B + 1) _ _ _ _ _ (by omega)
  exact ⟨_, step 450 0 _ _ _ _ _ (by omega)⟩
theorem cls_wantedLet {today : Int32} {rights : Nat → Option Nat} {leans : Nat → Int64} {heardOn : Nat → Int32} {overruled : Int64} {R_L : List Nat} {R_kind R_number R_side R_n R_cell R_day R_ruling R_share : Nat → Int32} {s : Nat → Int32} {r t w : Nat} {d : Int32} {y : Int64} {gr wa stack hd lt : Nat → Int32} {W : Nat → Nat} {top k : Int32} {texts ruling T_code : Nat → Option Nat} {T_L : List Nat} {T_number T_tongue T_day : Nat → Int32} {C_L : List Nat} {C_len : Nat → Nat} {C_row : Nat → Nat → Int32} {Q : Int32 → (Nat → Int32) → Int32 → (Nat → Int32) → (Nat → Int32) → Int32 → Prop} (hm : ICm today rights (nI r) leans heardOn overruled R_L R_kind R_number R_side R_n R_cell R_day R_ruling R_share s) (hr : r ≤ 50) (hgr : ∀ i, i < 30 → gr i = s (20 + i)) (hx : lawT texts T_L T_number T_tongue T_day T_code C_L C_len C_row s t) (hw : w ≤ 10) (hwa : ∀ i, i < w → wa i = nI (W i) ∧ W i < 10800) (hru : ∀ j, j < 3 → ruling j = (txS s (nI j) d t).bind texts) (hy : ∀ i, bitL y i = true → i < r ∧ s (1310 + i) = nI 6) (hQ : ∀ st top hd lt k, Q (nI (popS (bN (fun i => ctF s y r t d (W i))) w)) st top hd lt k) : wp_X11_wantedLet gr rights (nI r) wa (nI w) ruling y stack top hd lt k R_L R_n R_cell T_L T_code C_L C_len C_row Q := by
  unfold wp_X11_wantedLet
  have step : ∀ m i st top hd lt k, i + m = w → wl_X11_wantedLet_4 gr rights (nI r) wa (nI w) ruling y R_L R_n R_cell T_L T_code C_L C_len C_row Q (m + 1) (nI (popS (bN (fun i => ctF s y r t d (W i))) i)) (nI i) st top hd lt k := by
    intro m
    induction m with
    | zero =>
      intro i st top hd lt k hi
      rw [wl_X11_wantedLet_4]
      unfold wb_X11_wantedLet_4
      rw [show i = w from hi]
      exact ⟨fun _ => hQ _ _ _ _ _, fun z => absurd (Int32.le_refl _) z⟩
    | succ m ih =>
      intro i st top hd lt k hi
      rw [wl_X11_wantedLet_4]
      unfold wb_X11_wantedLet_4
      refine ⟨fun z => absurd z (by rw [nI_natle (by omega) (by omega)]; omega), fun _ => ⟨vp_in_nI (by omega) (by omega), ?_⟩⟩
      rw [nI_clamp (by omega), (hwa i (by omega)).1]
      refine cls_cityLets hm hr hgr hx (hwa i (by omega)).2 hru hy (fun st top hd lt k x hx => ?_)
      have e : popS (bN (fun i => ctF s y r t d (W i))) (i + 1) = popS (bN (fun i => ctF s y r t d (W i))) i + (if ctF s y r t d (W i) = true then 1 else 0) := rfl
      have ex : x = nI (popS (bN (fun i => ctF s y r t d (W i))) (i + 1)) := by
        rw [hx, e]
        cases ctF s y r t d (W i)
        · exact if_pos (by decide)
        · exact Eq.trans (if_neg (by decide)) (nI_add _ _)
      rw [ex, nI_add]
      exact ih (i + 1) _ _ _ _ _ (by omega)
  exact ⟨_, step w 0 _ _ _ _ _ (by omega)⟩
