/-- what a tried text gives: acts on which the first two tongues differ, acts that the city lets, wishes that it lets -/
def trV (w : Nat → Int32) (y : Int64) (r t nw : Nat) : Nat → Nat
  | 0 => popS (bN (unF w (txS w (nI 0) (w 0) t) (txS w (nI 1) (w 0) t))) 10800
  | 1 => popS (bN (ctF w y r t (w 0))) 10800
  | _ => popS (bN (fun i => ctF w y r t (w 0) (waS w i))) nw
theorem mod_tried {n t r nw L u tg : Nat} {y : Int64} {pk s letBy letStamp fallen held stands : Nat → Int32} {stamp kr ks kw ko ka : Int32} {Q : Int32 → (Nat → Int32) → Int32 → Int32 → Int32 → Int32 → Int32 → (Nat → Int32) → (Nat → Int32) → (Nat → Int32) → (Nat → Int32) → (Nat → Int32) → Prop} (hn : n < 512) (ht : t ≤ 15) (h1 : s 1 = nI t) (hL : L ≤ 120) (h10 : s 10 = nI L) (hpk : ∀ p, pk p = if p < L then s (1190 + p) else -1) (g1 : f_X12_in (nI tg) (nI 0) (nI 2) = nI 1) (g2 : f_X12_in (nI u) (nI 0) (nI 2) = nI 1) (hu : u ≤ 2) (hT : ICacheT n letBy letStamp stamp s) (hr : r ≤ 50) (h2 : s 2 = nI r) (hy : ∀ i, bitL y i = true → i < r ∧ s (1310 + i) = nI 6) (hw : nw ≤ 10) (h9 : s 9 = nI nw) (hwa : ∀ i, i < nw → isN (s (1172 + i)) 10799) (fb : (pTp pk L 8 0).1 = true) (hs : ∀ v, slotT t L (nI tg) (s 0) s v → recS v t (pTp pk L 8 0).2.2.1 → ∀ i, i < t + 1 → ∃ c, SlotOK (upd v 1 (nI (t + 1))) i c) (look : ∀ v, slotT t L (nI tg) (s 0) s v → ∀ K : (Nat → Int32) → (Nat → Int32) → (Nat → Int32) → Prop, (∀ f h st, (∀ i, i < 50 → isB (st i) (bitL y i = true)) → K f h st) → wp_X12_looks (upd v 1 (nI (t + 1))) fallen held stands K) (hQ : ∀ v k1 k2 k3 k4 k5 lb ls f h st, slotT t L (nI tg) (s 0) s v → recS v t (pTp pk L 8 0).2.2.1 → ICacheT (n + 1) lb ls stamp (upd v 1 (nI (t + 1))) → Q (nI (trV (upd v 1 (nI (t + 1))) y r (t + 1) nw u)) v k1 k2 k3 k4 k5 lb ls f h st) : wp_X12_tried (nI tg) (nI u) s kr ks kw ko ka letBy letStamp stamp fallen held stands Q := by
  unfold wp_X12_tried
  refine ⟨fun z => ?_, fun _ => ?_⟩
  · rcases z with z | z
    · rw [g1] at z; exact absurd z (by decide)
    · rw [g2] at z; exact absurd z (by decide)
  rw [h1]
  refine mod_reads (pk := pk) (by omega) hL h10 hpk (fun _ v iw op vs vr => ⟨fun _ => ?_, fun z => by rw [nI1ne] at z; exact z.elim⟩) (fun z => absurd (fb.symm.trans z) (by decide))
  have v1 : v 1 = nI t := by rw [slotT_out vs 1 (by omega) (by unfold slotI; omega)]; exact h1
  have hsW := hs v vs vr
  have hlk := look v vs
  have hQW := fun k1 k2 k3 k4 k5 lb ls f h st => hQ v k1 k2 k3 k4 k5 lb ls f h st vs vr
  have ad1 : nI t + nI 1 = nI (t + 1) := nI_add _ _
  rw [v1, ad1]
  obtain ⟨W, hW⟩ : ∃ W, W = upd v 1 (nI (t + 1)) := ⟨_, rfl⟩
  rw [← hW] at hsW hlk hQW ⊢
  have out : ∀ j, j ≠ 1 → j ≠ 10 → ¬ slotI t j → W j = s j := fun j j1 j2 j3 => by rw [hW, updne j1]; exact slotT_out vs j j2 j3
  have w1 : W 1 = nI (t + 1) := by rw [hW, upde]
  have hT' : ICacheT (n + 1) letBy (upd letStamp t (nI 0)) stamp W := ICacheT_slot (by omega) hT (fun j hj ns => out j (by omega) (by omega) ns)
  have fin : upd W 1 (W 1 - nI 1) = v := by
    rw [w1, nI_subL (by omega), Nat.add_sub_cancel, hW]
    funext j
    by_cases e : j = 1
    · rw [e, upde, v1]
    · rw [updne e, updne e]
  have e2 : W 2 = nI r := by rw [out 2 (by omega) (by omega) (by unfold slotI; omega)]; exact h2
  have e9 : W 9 = nI nw := by rw [out 9 (by omega) (by omega) (by unfold slotI; omega)]; exact h9
  have hyW : ∀ i, bitL y i = true → i < r ∧ W (1310 + i) = nI 6 := fun i hi => ⟨(hy i hi).1, by rw [out _ (by omega) (by omega) (by have := (hy i hi).1; unfold slotI; omega)]; exact (hy i hi).2⟩
  refine hlk _ (fun f h st hst => ?_)
  have e132 : ∀ x k1 k2 k3 k4 k5 lb ls, u ≠ 2 → Q x v k1 k2 k3 k4 k5 lb ls f h st → ∃ m, wl_X12_tried_132 (nI u) stamp Q v f h st m x (nI 0) k1 k2 k3 k4 k5 lb ls := by
    intro x k1 k2 k3 k4 k5 lb ls u2 hq
    refine ⟨1, ?_⟩
    rw [wl_X12_tried_132]
    unfold wb_X12_tried_132
    rw [v1, ad1, ← hW, fin]
    exact ⟨fun z => absurd ((nI_eq (by omega) (by omega)).mp z.2) u2, fun _ => hq⟩
  have e87 : ∀ x k1 k2 k3 k4 k5 lb ls, u ≠ 1 → (∃ m, wl_X12_tried_132 (nI u) stamp Q v f h st m x (nI 0) k1 k2 k3 k4 k5 lb ls) → wk_X12_tried_83 (nI u) stamp Q v f h st k1 k2 k3 k4 k5 lb ls x := by
    intro x k1 k2 k3 k4 k5 lb ls u1 hq
    unfold wk_X12_tried_83
    refine ⟨1, ?_⟩
    rw [wl_X12_tried_87]
    unfold wb_X12_tried_87
    exact ⟨fun z => absurd ((nI_eq (by omega) (by omega)).mp z.2) u1, fun _ => hq⟩
  rcases (by omega : u = 0 ∨ u = 1 ∨ u = 2) with eu | eu | eu
  · subst eu
    refine ⟨fun z => absurd (of_eq_true nI0eq) z, fun _ => ?_⟩
    refine mod_unlikeOf (q := 0) (by omega) (by omega) w1 hsW hT' (by omega) (fun _ k1 k2 k3 k4 k5 lb ls hc => ?_) (fun z => absurd z (by decide))
    exact e87 _ _ _ _ _ _ _ _ (by decide) (e132 _ _ _ _ _ _ _ _ (by decide) (hQW _ _ _ _ _ _ _ _ _ _ hc))
  · subst eu
    refine ⟨fun _ => ?_, fun z => absurd z (by decide)⟩
    unfold wk_X12_tried_83
    have step : ∀ m i k1 k2 k3 k4 k5 lb ls, i + m = 10800 → ICacheT (n + 1) lb ls stamp W → wl_X12_tried_87 (nI 1) stamp Q v f h st (m + 1) (nI (popS (bN (ctF W y r (t + 1) (W 0))) i)) (nI i) k1 k2 k3 k4 k5 lb ls := by
      intro m
      induction m with
      | zero =>
        intro i k1 k2 k3 k4 k5 lb ls hi hc
        rw [wl_X12_tried_87]
        unfold wb_X12_tried_87
        have e : i = 10800 := hi
        rw [e]
        exact ⟨fun z => absurd (Int32.le_refl _) z.1, fun _ => e132 _ _ _ _ _ _ _ _ (by decide) (hQW _ _ _ _ _ _ _ _ _ _ hc)⟩
      | succ m ih =>
        intro i k1 k2 k3 k4 k5 lb ls hi hc
        rw [wl_X12_tried_87]
        unfold wb_X12_tried_87
        rw [v1, ad1, ← hW]
        refine ⟨fun _ => ?_, fun z => absurd ⟨by rw [nI_natle (by omega) (by omega)]; omega, rfl⟩ z⟩
        refine mod_lets (by omega) (by omega) w1 hsW (by omega) hc hr e2 (fun i hi => hst i (by omega)) hyW (fun k1 k2 k3 k4 k5 lb ls hc x hx => ?_)
        have e : popS (bN (ctF W y r (t + 1) (W 0))) (i + 1) = popS (bN (ctF W y r (t + 1) (W 0))) i + (if ctF W y r (t + 1) (W 0) i = true then 1 else 0) := rfl
        rw [hx, bnz, nI_add, nI_add, ← e]
        exact ih (i + 1) _ _ _ _ _ _ _ (by omega) hc
    exact ⟨_, step 10800 0 _ _ _ _ _ _ _ (by omega) hT'⟩
  · subst eu
    refine ⟨fun _ => e87 _ _ _ _ _ _ _ _ (by decide) ?_, fun z => absurd z (by decide)⟩
    have step : ∀ m i k1 k2 k3 k4 k5 lb ls, i + m = nw → ICacheT (n + 1) lb ls stamp W → wl_X12_tried_132 (nI 2) stamp Q v f h st (m + 1) (nI (popS (bN (fun i => ctF W y r (t + 1) (W 0) (waS W i))) i)) (nI i) k1 k2 k3 k4 k5 lb ls := by
      intro m
      induction m with
      | zero =>
        intro i k1 k2 k3 k4 k5 lb ls hi hc
        rw [wl_X12_tried_132]
        unfold wb_X12_tried_132
        have e : i = nw := hi
        rw [v1, ad1, ← hW, fin, e9, e]
        exact ⟨fun z => absurd (Int32.le_refl _) z.1, fun _ => hQW _ _ _ _ _ _ _ _ _ _ hc⟩
      | succ m ih =>
        intro i k1 k2 k3 k4 k5 lb ls hi hc
        rw [wl_X12_tried_132]
        unfold wb_X12_tried_132
        obtain ⟨a, ha, ea⟩ := hwa i (by omega)
        have eW : W (1172 + i) = nI a := by rw [out _ (by omega) (by omega) (by unfold slotI; omega)]; exact ea
        have ew : waS W i = a := by
          unfold waS
          rw [eW, nI_clamp (by omega)]
        have ad2 : nI 1172 + nI i = nI (1172 + i) := nI_add _ _
        rw [v1, ad1, ← hW, e9, ad2, nI_clamp (by omega), eW]
        refine ⟨fun _ => ⟨vp_in_nI (by omega) (by omega), ?_⟩, fun z => absurd ⟨by rw [nI_natle (by omega) (by omega)]; omega, rfl⟩ z⟩
        refine mod_lets (by omega) (by omega) w1 hsW (by omega) hc hr e2 (fun i hi => hst i (by omega)) hyW (fun k1 k2 k3 k4 k5 lb ls hc x hx => ?_)
        have e : popS (bN (fun i => ctF W y r (t + 1) (W 0) (waS W i))) (i + 1) = popS (bN (fun i => ctF W y r (t + 1) (W 0) (waS W i))) i + (if ctF W y r (t + 1) (W 0) (waS W i) = true then 1 else 0) := rfl
        rw [ew] at e
        rw [hx, bnz, nI_add, nI_add, ← e]
        exact ih (i + 1) _ _ _ _ _ _ _ (by omega) hc
    exact ⟨_, step nw 0 _ _ _ _ _ _ _ (by omega) hT'⟩
theorem HS_same {s v : Nat → Int32} {r : Nat} (h : ∀ j, 1310 ≤ j → j < 4410 → v j = s j) (hr : r ≤ 50) : HS r v = HS r s := by
  funext j
  apply propext
  show (j < 2 ^ 31 ∧ ∃ u, u < r ∧ v (1310 + u) = nI 7 ∧ v (1760 + u) = nI 0 ∧ v (1610 + u) = nI j) ↔ (j < 2 ^ 31 ∧ ∃ u, u < r ∧ s (1310 + u) = nI 7 ∧ s (1760 + u) = nI 0 ∧ s (1610 + u) = nI j)
  constructor
  · rintro ⟨a, u, b, c, d, e⟩
    rw [h _ (by omega) (by omega)] at c d e
    exact ⟨a, u, b, c, d, e⟩
  · rintro ⟨a, u, b, c, d, e⟩
    rw [← h _ (by omega) (by omega)] at c d e
    exact ⟨a, u, b, c, d, e⟩
theorem ICacheT_down {m n : Nat} {lb ls lb0 ls0 v s0 : Nat → Int32} {stamp : Int32} (hm : m < 2 ^ 30) (hn : n < 2 ^ 30) (h : ICacheT m lb ls stamp v) (h0 : ICacheT n lb0 ls0 stamp s0) : ICacheT n lb ls stamp v := by
  obtain ⟨z, a1, a2, a3, a4⟩ := h
  obtain ⟨y, b1, b2, b3, -⟩ := h0
  have : z = y := (nI_eq (by omega) (by omega)).mp (a3.symm.trans b3)
  exact ⟨z, by omega, a2, a3, a4⟩
theorem trV_same {s v0 v1 : Nat → Int32} {t L r nw u : Nat} {tg dy x : Int32} {y : Int64} {l : List (Bool × Nat)} (ht : t ≤ 15) (hr : r ≤ 50) (hw : nw ≤ 10) (a0 : slotT t L tg dy s v0) (b0 : recS v0 t l) (a1 : slotT t L tg dy s v1) (b1 : recS v1 t l) (hL : L ≤ 120) (hl : l.length ≤ 8) (hs0 : ∀ i, i < t + 1 → ∃ c, SlotOK (upd v0 1 x) i c) : trV (upd v1 1 x) y r (t + 1) nw u = trV (upd v0 1 x) y r (t + 1) nw u := by
  obtain ⟨W0, e0⟩ : ∃ W, W = upd v0 1 x := ⟨_, rfl⟩
  obtain ⟨W1, e1⟩ : ∃ W, W = upd v1 1 x := ⟨_, rfl⟩
  have g0 : ∀ j, j ≠ 1 → W0 j = v0 j := fun j h => by rw [e0, updne h]
  have g1 : ∀ j, j ≠ 1 → W1 j = v1 j := fun j h => by rw [e1, updne h]
  have q1 : W1 1 = W0 1 := by rw [e0, e1, upde, upde]
  rw [← e0, ← e1]
  rw [← e0] at hs0
  have eq0 : ∀ j, ¬ slotI t j → W1 j = W0 j := fun j hj => by
    by_cases c1 : j = 1
    · rw [c1]; exact q1
    by_cases c2 : j = 10
    · rw [c2, g0 _ (by omega), g1 _ (by omega), a0.2.1, a1.2.1]
    · rw [g0 j c1, g1 j c1, slotT_out a0 j c2 hj, slotT_out a1 j c2 hj]
  have pks : ∀ m, m < t + 1 → pkS W1 m = pkS W0 m := fun m hm => by
    by_cases e : m = t
    · funext p
      rw [e]
      unfold pkS
      rw [g0 (4450 + t) (by omega), g1 (4450 + t) (by omega), g0 (4750 + 120 * t + p) (by omega), g1 (4750 + 120 * t + p) (by omega), a0.2.2.2.2.1, a1.2.2.2.2.1, nI_clamp (by omega)]
      by_cases c : p < L
      · rw [if_pos c, if_pos c, a0.2.2.2.2.2 p c, a1.2.2.2.2.2 p c]
      · rw [if_neg c, if_neg c]
    · obtain ⟨c, hc⟩ := hs0 m hm
      obtain ⟨-, -, ⟨L', k1, k2⟩, -⟩ := hc
      exact pkS_slot k1 k2 (fun j hj => eq0 j (slotI_ne (by omega) (by omega) e hj).2.1)
  have sl : ∀ m a, m < t + 1 → slF W1 m a = slF W0 m a := fun m a hm => by
    obtain ⟨c, hc⟩ := hs0 m hm
    have hg : gS W1 = gS W0 := funext (fun i => eq0 _ (by unfold slotI; omega))
    have hpk := pks m hm
    have c8 := hc.1
    by_cases e : m = t
    · have h0 : W0 (4470 + m) = nI l.length := by rw [g0 _ (by omega), e, b0.1]
      have h1 : W1 (4470 + m) = nI l.length := by rw [g1 _ (by omega), e, b1.1]
      have lc : c = l.length := (nI_eq (by omega) (by omega)).mp (hc.2.1.symm.trans h0)
      refine slF_same hc (h1.trans h0.symm) (fun k hk => ?_) hpk hg
      have hk2 := List.getElem?_eq_getElem (l := l) (i := k) (by omega)
      have p0 := b0.2 k (l[k]).1 (l[k]).2 hk2
      have p1 := b1.2 k (l[k]).1 (l[k]).2 hk2
      rw [g0 (4490 + (8 * m + k)) (by omega), g1 (4490 + (8 * m + k)) (by omega), g0 (4620 + (8 * m + k)) (by omega), g1 (4620 + (8 * m + k)) (by omega), e]
      exact ⟨p1.1.trans p0.1.symm, p1.2.trans p0.2.symm⟩
    · have ns : ∀ j, slotI m j → ¬ slotI t j := fun j hj => (slotI_ne (by omega) (by omega) e hj).2.1
      exact slF_same hc (eq0 _ (ns _ (by unfold slotI; omega))) (fun k hk => ⟨eq0 _ (ns _ (by unfold slotI; omega)), eq0 _ (ns _ (by unfold slotI; omega))⟩) hpk hg
  have tx : ∀ tau, txS W1 tau (W1 0) (t + 1) = txS W0 tau (W0 0) (t + 1) := fun tau => by
    rw [eq0 0 (by unfold slotI; omega)]
    refine txS_same _ (fun i hi => ?_)
    by_cases e : i = t
    · rw [e, g0 (4410 + t) (by omega), g1 (4410 + t) (by omega), g0 (4430 + t) (by omega), g1 (4430 + t) (by omega)]
      exact ⟨a1.2.2.1.trans a0.2.2.1.symm, a1.2.2.2.1.trans a0.2.2.2.1.symm⟩
    · exact ⟨eq0 _ (by unfold slotI; omega), eq0 _ (by unfold slotI; omega)⟩
  have so : ∀ tau a, slO W1 (txS W1 tau (W1 0) (t + 1)) a = slO W0 (txS W0 tau (W0 0) (t + 1)) a := fun tau a => by
    rw [tx tau]
    cases e : txS W0 tau (W0 0) (t + 1) with
    | none => rfl
    | some m => exact sl m a (txS_lt _ _ e)
  have ct : ∀ a, ctF W1 y r (t + 1) (W1 0) a = ctF W0 y r (t + 1) (W0 0) a := fun a => by
    unfold ctF
    rw [lastK_same r (fun k hk => show rbS W1 y (a / 24) k = rbS W0 y (a / 24) k from by unfold rbS; rw [eq0 (1410 + k) (by unfold slotI; omega), eq0 (1460 + k) (by unfold slotI; omega)])]
    cases e : lastK (rbS W0 y (a / 24)) r with
    | none =>
      dsimp only
      rw [so, so, so]
    | some i =>
      have := lastK_lt _ _ e
      dsimp only
      rw [eq0 (1560 + i) (by unfold slotI; omega)]
  rcases u with _ | _ | u
  · have eU : unF W1 (txS W1 (nI 0) (W1 0) (t + 1)) (txS W1 (nI 1) (W1 0) (t + 1)) = unF W0 (txS W0 (nI 0) (W0 0) (t + 1)) (txS W0 (nI 1) (W0 0) (t + 1)) := funext (fun a => by unfold unF; rw [so, so])
    show popS (bN (unF W1 (txS W1 (nI 0) (W1 0) (t + 1)) (txS W1 (nI 1) (W1 0) (t + 1)))) 10800 = _
    rw [eU]
    rfl
  · have eC : ctF W1 y r (t + 1) (W1 0) = ctF W0 y r (t + 1) (W0 0) := funext ct
    show popS (bN (ctF W1 y r (t + 1) (W1 0))) 10800 = _
    rw [eC]
    rfl
  · show popS (bN (fun i => ctF W1 y r (t + 1) (W1 0) (waS W1 i))) nw = popS (bN (fun i => ctF W0 y r (t + 1) (W0 0) (waS W0 i))) nw
    refine popS_congr nw (fun i hi => ?_)
    have ew : waS W1 i = waS W0 i := by
      unfold waS
      rw [eq0 (1172 + i) (by unfold slotI; omega)]
    show (if ctF W1 y r (t + 1) (W1 0) (waS W1 i) = true then 1 else 0) = (if ctF W0 y r (t + 1) (W0 0) (waS W0 i) = true then 1 else 0)
    rw [ew, ct]
theorem core_tried {today : Int32} {rights : Nat → Option Nat} {count : Int32} {leans : Nat → Int64} {heardOn : Nat → Int32} {overruled : Int64} {termDays step : Int32} {R_L : List Nat} {R_kind R_number R_side R_n R_cell R_day R_ruling R_share : Nat → Int32} {gr stack hd lt tape T_number T_tongue T_day s fallen held stands letBy letStamp cells wa code : Nat → Int32} {today0 bytes tc top k0 kr ks kw ko ka stamp p1 p2 qc wc written end_ at_ : Int32} {rt : Nat} {ad : Nat → Nat} {texts ruling T_code : Nat → Option Nat} {standing : Int64} {fl fn : Nat → Int64} {T_L C_L : List Nat} {C_len : Nat → Nat} {C_row : Nat → Nat → Int32} {n : Nat} {R : Int32 → List Nat → (Nat → Int32) → (Nat → Int32) → (Nat → Int32) → (Nat → Option Nat) → List Nat → (Nat → Nat) → (Nat → Nat → Int32) → (Nat → Int32) → (Nat → Int32) → (Nat → Int32) → Prop} (hL : ILand gr today0 tape bytes texts tc T_L T_number T_tongue T_day T_code C_L C_len C_row s) (hC : ICourt today rights count leans heardOn overruled termDays step R_L R_kind R_number R_side R_n R_cell R_day R_ruling R_share s) (hT : ICacheT n letBy letStamp stamp s) (hB : IBench cells fl fn qc wa wc s) (hn : n < 512) (h0 : R bytes T_L T_number T_tongue T_day T_code C_L C_len C_row s letBy letStamp) (hR : ∀ b' X_L X_number X_tongue X_day X_code Y_L Y_len Y_row v lb ls, ILand gr today0 tape b' texts tc X_L X_number X_tongue X_day X_code Y_L Y_len Y_row v → ICacheT (n + 1) lb ls stamp v → outS idxX s v → poolT T_L T_number T_tongue T_day T_code C_L C_len C_row X_L X_number X_tongue X_day X_code Y_L Y_len Y_row → R b' X_L X_number X_tongue X_day X_code Y_L Y_len Y_row v lb ls) : wp_X11_tried p1 p2 gr today0 tape bytes texts tc rights count leans heardOn overruled wa wc code written rt end_ at_ ruling standing stack top hd lt k0 R_L R_kind R_n R_cell R_ruling T_L T_number T_tongue T_day T_code C_L C_len C_row ad (fun r b' _ _ _ _ _ _ _ _ _ _ _ _ X_L X_number X_tongue X_day X_code Y_L Y_len Y_row => wp_X12_tried p1 p2 s kr ks kw ko ka letBy letStamp stamp fallen held stands (fun r' v _ _ _ _ _ lb ls _ _ _ => r = r' ∧ R b' X_L X_number X_tongue X_day X_code Y_L Y_len Y_row v lb ls)) := by
  unfold wp_X11_tried
  rw [show f_X11_isTongue p1 = f_X11_isWithin p1 (nI 0) (nI 2) from rfl, within_eq p1, within_eq p2]
  rcases in_cases p1 0 2 (by decide) (by decide) with ⟨g1, -⟩ | ⟨g1, tg, -, htg, rfl⟩
  · have b1 : f_X12_in p1 (nI 0) (nI 2) = 0 := g1.trans (of_eq_true nI0eq)
    refine ⟨fun _ => ?_, fun z => absurd (Or.inl b1) z⟩
    unfold wp_X12_tried
    exact ⟨fun _ => ⟨rfl, h0⟩, fun z => absurd (Or.inl b1) z⟩
  rcases in_cases p2 0 2 (by decide) (by decide) with ⟨g2, -⟩ | ⟨g2, u, -, hu, rfl⟩
  · have b2 : f_X12_in p2 (nI 0) (nI 2) = 0 := g2.trans (of_eq_true nI0eq)
    refine ⟨fun _ => ?_, fun z => absurd (Or.inr b2) z⟩
    unfold wp_X12_tried
    exact ⟨fun _ => ⟨rfl, h0⟩, fun z => absurd (Or.inr b2) z⟩
  have n1 : ¬ f_X12_in (nI tg) (nI 0) (nI 2) = 0 := by rw [g1]; decide
  have n2 : ¬ f_X12_in (nI u) (nI 0) (nI 2) = 0 := by rw [g2]; decide
  have n12 : ¬ (f_X12_in (nI tg) (nI 0) (nI 2) = 0 ∨ f_X12_in (nI u) (nI 0) (nI 2) = 0) := fun z => z.elim n1 n2
  refine ⟨fun z => absurd z n12, fun _ => ?_⟩
  obtain ⟨hg, ⟨rfl, hday⟩, ⟨rfl, L, hL2, h10⟩, h4, h5, h6, t, ht, rfl, h1, hx0⟩ := id hL
  have hm0 := hC.2.2
  obtain ⟨-, r, -, hr, ec, -⟩ := id hm0
  subst ec
  have hm := hm0
  obtain ⟨h2, hM, hMr⟩ := ICm_M hm hr
  have hx : lawT texts T_L T_number T_tongue T_day T_code C_L C_len C_row s t := fun i hi => by
    obtain ⟨a, c, x1, x2, x3, x4, -, x6, -, x8, x9, x10⟩ := hx0 i hi
    exact ⟨a, c, x1, x2, x3, x4, x6, x8, x9, x10⟩
  have hgr : ∀ i, i < 30 → gr i = s (20 + i) := fun i hi => (hg i hi).1
  obtain ⟨-, nw, hw, rfl, h9, hwa⟩ := hB
  have tp := h5 L h10 hL2
  let pk : Nat → Int32 := fun p => if p < L then tape p &&& nI 255 else -1
  have hk : pkR tape L pk := fun p => rfl
  have hpk : ∀ p, pk p = if p < L then s (1190 + p) else -1 := by
    intro p
    show (if p < L then tape p &&& nI 255 else -1) = _
    by_cases c : p < L
    · rw [if_pos c, if_pos c, tp p c]
    · rw [if_neg c, if_neg c]
  have hE := pkR_E hk
  rw [h10]
  refine cls_tape hL2 hk (fun fb code' a e at' hc => ?_) (fun fb code' w a e at' => ?_)
  · refine ⟨fun _ => ?_, fun z => absurd (of_eq_true m1lt) z⟩
    refine cls_openOn hm hr ht hx (fun ru y hru hy => ?_)
    have hy2 : ∀ i, bitL y i = true → i < r ∧ s (1310 + i) = nI 6 := fun i hi => ((hy i).mp hi).1.1
    intro q hq
    obtain ⟨o1, o2⟩ := pTp_ok hE 8 0 (Nat.zero_le L)
    have hl8 := (o2 fb).2.2.1
    have hlen : (pTp pk L 8 0).2.2.2.length < 120 := by have := (o2 fb).2.1; omega
    refine ⟨(pTp pk L 8 0).2.2.2.length, hlen, rfl, fun q' hq' => ?_⟩
    unfold wp_X10_init
    refine ⟨memq, memq, memq, memq, ?_⟩
    rw [upupg, upupg, upupg, upupg]
    unfold wp_X5_putBeside
    dsimp only
    rw [upee, show f_X11_isTongue (nI tg) = f_X11_isWithin (nI tg) (nI 0) (nI 2) from rfl, within_eq (nI tg), nI_clamp (by omega)]
    refine ⟨memq, fun z => absurd z n1, fun _ => ⟨memq, vp_in_nI (by omega) (by omega), memq, ?_⟩⟩
    obtain ⟨v0, a0, b0⟩ := new_slot (s := s) (tg := nI tg) (dy := s 0) (l := (pTp pk L 8 0).2.2.1) ht hl8 hL2
    have lw := fun v a b => lawT_new (v := v) (tg := nI tg) (dy := s 0) hx ht hL2 hE hpk fb a b hc hq hq'
    have hs : ∀ v, slotT t L (nI tg) (s 0) s v → recS v t (pTp pk L 8 0).2.2.1 → ∀ i, i < t + 1 → ∃ c, SlotOK (upd v 1 (nI (t + 1))) i c := fun v a b i hi => by
      obtain ⟨_, c, -, -, -, -, -, -, -, x⟩ := lw v a b i hi
      exact SlotOK_T x
    have far : ∀ v, slotT t L (nI tg) (s 0) s v → ∀ j, j ≠ 1 → j ≠ 10 → ¬ slotI t j → upd v 1 (nI (t + 1)) j = s j := fun v a j j1 j2 j3 => by
      rw [updne j1]
      exact slotT_out a j j2 j3
    have hmW : ∀ v, slotT t L (nI tg) (s 0) s v → ICm today rights (nI r) leans heardOn overruled R_L R_kind R_number R_side R_n R_cell R_day R_ruling R_share (upd v 1 (nI (t + 1))) := fun v a => ICm_congr hm (fun j hj => by
      unfold idxR at hj
      exact far v a j (by omega) (by omega) (by unfold slotI; omega))
    have look : ∀ v, slotT t L (nI tg) (s 0) s v → ∀ K : (Nat → Int32) → (Nat → Int32) → (Nat → Int32) → Prop, (∀ f h st, (∀ i, i < 50 → isB (st i) (bitL y i = true)) → K f h st) → wp_X12_looks (upd v 1 (nI (t + 1))) fallen held stands K := by
      intro v a K hK
      refine mod_looks (hmW v a) hr (fun f h st _ _ qq => hK f h st (fun i hi => ?_))
      have e : (((i < r ∧ upd v 1 (nI (t + 1)) (1310 + i) = nI 6) ∧ ¬ Cl r (Mx leans) (Sx overruled) i) ∧ ¬ Cl r (Mx leans) (HS r (upd v 1 (nI (t + 1)))) i) = (bitL y i = true) := by
        rw [far v a (1310 + i) (by omega) (by omega) (by unfold slotI; omega), HS_same (s := s) (fun j j1 j2 => far v a j (by omega) (by omega) (by unfold slotI; omega)) hr]
        exact propext (hy i).symm
      rw [← e]
      exact qq i hi
    obtain ⟨W, eW⟩ : ∃ W, W = upd v0 1 (nI (t + 1)) := ⟨_, rfl⟩
    have farW := far v0 a0
    have lwW := lw v0 a0 b0
    have hmW0 := hmW v0 a0
    rw [← eW] at farW lwW hmW0
    have W0 : W 0 = s 0 := farW 0 (by omega) (by omega) (by unfold slotI; omega)
    have hyW : ∀ i, bitL y i = true → i < r ∧ W (1310 + i) = nI 6 := fun i hi => ⟨(hy2 i hi).1, by
      have := (hy2 i hi).1
      rw [farW _ (by omega) (by omega) (by unfold slotI; omega)]
      exact (hy2 i hi).2⟩
    have hgW : ∀ i, i < 30 → gr i = W (20 + i) := fun i hi => by
      rw [farW _ (by omega) (by omega) (by unfold slotI; omega)]
      exact hgr i hi
    have hwW : ∀ i, i < nw → wa i = nI (waS W i) ∧ waS W i < 10800 := fun i hi => by
      obtain ⟨z1, a, ha, z2⟩ := hwa i hi
      have ew : waS W i = a := by
        unfold waS
        rw [farW _ (by omega) (by omega) (by unfold slotI; omega), z2, nI_clamp (by omega)]
      rw [ew]
      exact ⟨z1.trans z2, by omega⟩
    have irr : ¬ s 0 < s 0 := by
      obtain ⟨dd, hd1, hd2⟩ := hday
      rw [hd2, nI_natlt (by omega) (by omega)]
      omega
    have hruW : ∀ j, j < 3 → va_up ru tg (some q) j = (txS W (nI j) (W 0) (t + 1)).bind (va_up texts t (some q)) := by
      intro j hj
      have eT : txS W (nI j) (s 0) t = txS s (nI j) (s 0) t := txS_same t (fun i hi => ⟨farW _ (by omega) (by omega) (by unfold slotI; omega), farW _ (by omega) (by omega) (by unfold slotI; omega)⟩)
      have w1 : W (4410 + t) = nI tg := by rw [eW, updne (by omega)]; exact a0.2.2.1
      have w2 : W (4430 + t) = s 0 := by rw [eW, updne (by omega)]; exact a0.2.2.2.1
      rw [W0, txS, eT, w1, w2]
      by_cases e : j = tg
      · rw [e, upee, if_pos rfl, if_neg irr]
        cases ex : txS s (nI tg) (s 0) t with
        | none => exact upee.symm
        | some m =>
          have m1 := txS_lt _ _ ex
          have m2 := txS_day _ _ ex
          dsimp only
          rw [farW (4430 + m) (by omega) (by omega) (by unfold slotI; omega), if_neg m2]
          exact upee.symm
      · rw [upene e, hru j hj, if_neg (fun z => e ((nI_eq (by omega) (by omega)).mp z).symm)]
        cases ex : txS s (nI j) (s 0) t with
        | none => rfl
        | some m =>
          have m1 := txS_lt _ _ ex
          have mt : m ≠ t := by omega
          exact (upene mt).symm
    have pool : poolT T_L T_number T_tongue T_day T_code C_L C_len C_row (T_L ++ [q]) (va_up T_number q (nI t)) (va_up T_tongue q (nI tg)) (va_up T_day q (s 0)) (va_up T_code q (some q')) (C_L ++ [q']) (va_up C_len q' (pTp pk L 8 0).2.2.2.length) (va_up C_row q' (va_cpy code' (fun _ => 0) 0 0 (pTp pk L 8 0).2.2.2.length)) := by
      refine ⟨fun a ha => ?_, fun c hc => ?_⟩
      · have na := fresh_ne hq ha
        exact ⟨List.mem_append.mpr (Or.inl ha), upene na, upene na, upene na, upene na⟩
      · have nc := fresh_ne hq' hc
        exact ⟨List.mem_append.mpr (Or.inl hc), upene nc, upene nc⟩
    have mod : ∀ val, val = nI (trV W y r (t + 1) nw u) → wp_X12_tried (nI tg) (nI u) s kr ks kw ko ka letBy letStamp stamp fallen held stands (fun r' v _ _ _ _ _ lb ls _ _ _ => val = r' ∧ R (nI 0) (T_L ++ [q]) (va_up T_number q (nI t)) (va_up T_tongue q (nI tg)) (va_up T_day q (s 0)) (va_up T_code q (some q')) (C_L ++ [q']) (va_up C_len q' (pTp pk L 8 0).2.2.2.length) (va_up C_row q' (va_cpy code' (fun _ => 0) 0 0 (pTp pk L 8 0).2.2.2.length)) v lb ls) := by
      intro val hv
      refine mod_tried hn ht h1 hL2 h10 hpk g1 g2 hu hT hr h2 hy2 hw h9 (fun i hi => (hwa i hi).2) fb hs look (fun v k1 k2 k3 k4 k5 lb ls f h st a b hcc => ⟨?_, hR _ _ _ _ _ _ _ _ _ _ _ _ (ILand_pool (ILand_slot hL h1 ht a) pool) ?_ (fun j hj => ?_) pool⟩)
      · rw [hv, eW]
        exact congrArg nI (trV_same ht hr hw a0 b0 a b hL2 hl8 (hs v0 a0 b0)).symm
      · refine ICacheT_down (m := n + 2) (n := n + 1) (by omega) (by omega) (ICacheT_congr hcc (fun j hj => ?_)) (ICacheT_mono hT)
        unfold idxT at hj
        exact (updne (by omega)).symm
      · unfold idxX at hj
        exact slotT_out a j (by omega) (by unfold slotI; omega)
    rcases (by omega : u = 0 ∨ u = 1 ∨ u = 2) with eu | eu | eu
    · subst eu
      refine ⟨fun z => absurd (of_eq_true nI0eq) z, fun _ => ?_⟩
      exact cls_unlikeCount (t1 := 0) (t2 := 1) hgW lwW (by omega) (by omega) (fun m hm => txS_lt _ _ hm) (fun m hm => txS_lt _ _ hm) (hruW 0 (by omega)) (hruW 1 (by omega)) (fun st top hd lt k => mod _ rfl)
    · subst eu
      refine ⟨fun _ => ⟨fun z => absurd rfl z, fun _ => ?_⟩, fun z => absurd z (by decide)⟩
      exact cls_cityCount hmW0 hr hgW lwW hruW hyW (fun st top hd lt k => mod _ rfl)
    · subst eu
      refine ⟨fun _ => ⟨fun _ => ?_, fun z => absurd z (by decide)⟩, fun z => absurd z (by decide)⟩
      exact cls_wantedLet hmW0 hr hgW lwW hw hwW hruW hyW (fun st top hd lt k => mod _ rfl)
  · obtain ⟨o1, -⟩ := pTp_ok hE 8 0 (Nat.zero_le L)
    refine ⟨fun z => absurd z (nI_pos (by omega)), fun _ => ?_⟩
    unfold wp_X12_tried
    refine ⟨fun z => absurd z n12, fun _ => ?_⟩
    rw [h1]
    refine mod_reads (pk := pk) (by omega) hL2 h10 hpk (fun z => absurd (fb.symm.trans z) (by decide)) (fun _ v iw op hs => ⟨fun z => absurd (of_eq_true nI0eq) z, fun _ => ?_⟩)
    refine ⟨rfl, hR _ _ _ _ _ _ _ _ _ _ _ _ (ILand_slot hL h1 ht hs) ?_ (fun j hj => ?_) ⟨fun a ha => ⟨ha, rfl, rfl, rfl, rfl⟩, fun c hc => ⟨hc, rfl, rfl⟩⟩⟩
    · exact ICacheT_slot (by omega) hT (fun j hj ns => slotT_out hs j (by omega) ns)
    · unfold idxX at hj
      exact slotT_out hs j (by omega) (by unfold slotI; omega)
