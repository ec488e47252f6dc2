/-- what it reads, the machine runs -/
def segR (W : wlT) (row : Nat → Int32) (len : Nat) (ev : SemT → Nat → Bool) (F : Nat → ResT) (need : Nat) : Prop := ∀ p, (F p).1 = true → runS W row len (F p).2.2.1 (ev (F p).2.2.2) need
def evS (s : Nat → Int32) (B : Nat) : SemT → Nat → Bool := fun q h => q (gS s) (24 * B + h)
theorem seg_tail {W : wlT} {row : Nat → Int32} {len : Nat} {s : Nat → Int32} {B : Nat} {pk : Nat → Int32} {sep : Int32} {op : Bool → Bool → Bool} {F : Nat → ResT} {need : Nat} (o2 : Int32 → Int32 → Int32) (ho : ∀ x y f g, hrs x f → hrs y g → hrs (o2 x y) (fun i => op (f i) (g i)))
    (hW : ∀ i d st hd lt k n, d + 1 < 32 → i < len → row i = entry sep 0 → W n (nI (i + 1)) (upd st d (o2 (st d) (st (d + 1)))) (nI (d + 1)) hd lt k → W (n + 1) (nI i) st (nI (d + 2)) hd lt k)
    (hn : 1 ≤ need) (hF : segR W row len (evS s B) F need) : ∀ n (r : ResT), (r.1 = true → runS W row len r.2.2.1 (evS s B r.2.2.2) (need + 1)) → (pTail pk sep op F n r).1 = true → runS W row len (pTail pk sep op F n r).2.2.1 (evS s B (pTail pk sep op F n r).2.2.2) (need + 1) := by
  intro n
  induction n with
  | zero => intro r hr h; exact hr h
  | succ n ih =>
    intro r hr h
    rw [pTail] at h ⊢
    by_cases g : r.1 = true ∧ pk r.2.1 = sep
    · rw [if_pos g] at h ⊢
      exact ih _ (fun fb => runS_op o2 ho hW hn (Nat.le_refl _) (hr g.1) (hF _ fb)) h
    · rw [if_neg g] at h ⊢
      exact hr h
theorem seg_num {c B len0 : Nat} {gr s : Nat → Int32} {C_L : List Nat} {C_len : Nat → Nat} {C_row : Nat → Nat → Int32} {Q : (Nat → Int32) → Int32 → (Nat → Int32) → (Nat → Int32) → Int32 → Prop} (hgr : ∀ i, i < 30 → gr i = s (20 + i)) (hB : B < 450) (hc : c ∈ C_L) (hl : C_len c = len0) (hl2 : len0 < 120) {sg : Int32} {pk : Nat → Int32} {p : Nat} (hsg : sg = nI 115 ∨ sg = nI 103 ∨ sg = nI 109 ∨ sg = nI 112 ∨ sg = nI 60 ∨ sg = nI 62) : runS (wl_X5_weigh_12 c (nI B) gr C_L C_len C_row Q) (C_row c) len0 (numRes sg (pNum pk p)).2.2.1 (evS s B (numRes sg (pNum pk p)).2.2.2) 1 := runS_fact hgr hB hc hl hl2 (pNum_lt pk p) hsg
theorem seg_any {c B len0 : Nat} {gr s : Nat → Int32} {C_L : List Nat} {C_len : Nat → Nat} {C_row : Nat → Nat → Int32} {Q : (Nat → Int32) → Int32 → (Nat → Int32) → (Nat → Int32) → Int32 → Prop} (hc : c ∈ C_L) (hl : C_len c = len0) (hl2 : len0 < 120) {pk : Nat → Int32} {F : Nat → ResT} {need : Nat} (hn : 1 ≤ need) (hF : segR (wl_X5_weigh_12 c (nI B) gr C_L C_len C_row Q) (C_row c) len0 (evS s B) F need) : segR (wl_X5_weigh_12 c (nI B) gr C_L C_len C_row Q) (C_row c) len0 (evS s B) (pAnyF pk F) (need + 2) := by
  have a : segR (wl_X5_weigh_12 c (nI B) gr C_L C_len C_row Q) (C_row c) len0 (evS s B) (pAllF pk F) (need + 1) := by
    intro p hp
    exact seg_tail (fun x y => x &&& y) (fun x y f g => hrs_and) (fun i d st hd lt k n h1 h2 h3 h4 => wl_two hc hl hl2 (Or.inl rfl) h1 h2 h3 (by rw [if_pos rfl]; exact h4)) hn hF 120 (F p) (fun fb => runS_up (hF p fb) (by omega)) hp
  intro p hp
  exact seg_tail (fun x y => x ||| y) (fun x y f g => hrs_or) (fun i d st hd lt k n h1 h2 h3 h4 => wl_two hc hl hl2 (Or.inr rfl) h1 h2 h3 (by rw [if_neg (by decide)]; exact h4)) (by omega) a 120 (pAllF pk F p) (fun fb => runS_up (a p fb) (by omega)) hp
theorem seg_fact {c B len0 : Nat} {gr s : Nat → Int32} {C_L : List Nat} {C_len : Nat → Nat} {C_row : Nat → Nat → Int32} {Q : (Nat → Int32) → Int32 → (Nat → Int32) → (Nat → Int32) → Int32 → Prop} (hgr : ∀ i, i < 30 → gr i = s (20 + i)) (hB : B < 450) (hc : c ∈ C_L) (hl : C_len c = len0) (hl2 : len0 < 120) (pk : Nat → Int32) : ∀ d o, o ≤ 6 → segR (wl_X5_weigh_12 c (nI B) gr C_L C_len C_row Q) (C_row c) len0 (evS s B) (pFact pk d o) (2 * (6 - o) + 1) := by
  intro d
  induction d with
  | zero => intro o _ p h; cases h
  | succ d ih =>
    intro o ho p h
    rw [pFact] at h ⊢
    by_cases c1 : pk p = nI 33
    · rw [if_pos c1] at h ⊢
      by_cases c2 : o = 6
      · rw [if_pos c2] at h; cases h
      · rw [if_neg c2] at h ⊢
        exact runS_up (runS_not (by omega) (fun i d st hd lt k n h1 h2 h3 h4 => wl_not hc hl hl2 h1 h2 h3 h4) (ih (o + 1) (by omega) (p + 1) h)) (by omega)
    · rw [if_neg c1] at h ⊢
      by_cases c2 : pk p = nI 40
      · rw [if_pos c2] at h ⊢
        by_cases c3 : o = 6
        · rw [if_pos c3] at h; cases h
        · rw [if_neg c3] at h ⊢
          by_cases c4 : (pAnyF pk (pFact pk d (o + 1)) (p + 1)).1 = true
          · rw [if_pos c4] at h ⊢
            by_cases c5 : pk (pAnyF pk (pFact pk d (o + 1)) (p + 1)).2.1 = nI 41
            · rw [if_pos c5] at h ⊢
              exact runS_up (seg_any hc hl hl2 (by omega) (ih (o + 1) (by omega)) (p + 1) c4) (by omega)
            · rw [if_neg c5] at h; cases h
          · rw [if_neg c4] at h; cases h
      · rw [if_neg c2] at h ⊢
        by_cases c3 : pk p = nI 104
        · rw [if_pos c3] at h ⊢
          by_cases c4 : pk (p + 1) = nI 60
          · rw [if_pos c4] at h ⊢
            exact runS_up (seg_num hgr hB hc hl hl2 (by simp)) (by omega)
          · rw [if_neg c4] at h ⊢
            by_cases c5 : pk (p + 1) = nI 62
            · rw [if_pos c5] at h ⊢
              exact runS_up (seg_num hgr hB hc hl hl2 (by simp)) (by omega)
            · rw [if_neg c5] at h; cases h
        · rw [if_neg c3] at h ⊢
          by_cases c4 : pk p = nI 115 ∨ pk p = nI 103 ∨ pk p = nI 109 ∨ pk p = nI 112
          · rw [if_pos c4] at h ⊢
            by_cases c5 : pk (p + 1) = nI 61
            · rw [if_pos c5] at h ⊢
              exact runS_up (seg_num hgr hB hc hl hl2 (by rcases c4 with z | z | z | z <;> rw [z] <;> simp)) (by omega)
            · rw [if_neg c5] at h; cases h
          · rw [if_neg c4] at h; cases h
theorem seg_some {c B len0 : Nat} {gr s : Nat → Int32} {C_L : List Nat} {C_len : Nat → Nat} {C_row : Nat → Nat → Int32} {Q : (Nat → Int32) → Int32 → (Nat → Int32) → (Nat → Int32) → Int32 → Prop} (hgr : ∀ i, i < 30 → gr i = s (20 + i)) (hB : B < 450) (hc : c ∈ C_L) (hl : C_len c = len0) (hl2 : len0 < 120) (pk : Nat → Int32) : segR (wl_X5_weigh_12 c (nI B) gr C_L C_len C_row Q) (C_row c) len0 (evS s B) (pSome pk) 15 := seg_any hc hl hl2 (by omega) (seg_fact hgr hB hc hl hl2 pk 8 0 (by omega))
theorem wl_close {c B len0 : Nat} {gr : Nat → Int32} {C_L : List Nat} {C_len : Nat → Nat} {C_row : Nat → Nat → Int32} {Q : (Nat → Int32) → Int32 → (Nat → Int32) → (Nat → Int32) → Int32 → Prop} (hc : c ∈ C_L) (hl : C_len c = len0) (hl2 : len0 < 120) {i k : Nat} {st hd lt : Nat → Int32} {n : Nat} {b : Bool} (hi : i < len0) (hk : k < 8) (hr : C_row c i = entry (if b then nI 108 else nI 98) 0) (h : wl_X5_weigh_12 c (nI B) gr C_L C_len C_row Q n (nI (i + 1)) st (nI 0) (upd hd k (st 0)) (upd lt k (nI (if b then 1 else 0))) (nI (k + 1))) : wl_X5_weigh_12 c (nI B) gr C_L C_len C_row Q (n + 1) (nI i) st (nI 1) hd lt (nI k) := by
  rw [wl_X5_weigh_12]
  unfold wb_X5_weigh_12
  have es : C_row c i >>> (nI 8 &&& 31) = (if b then nI 108 else nI 98) := by
    rw [hr]
    cases b
    · exact entO.2.2.2.2
    · exact entO.2.2.2.1
  rw [hl, nI_clamp (by omega), es, nI_add]
  refine ⟨hc, fun z => absurd z (by rw [nI_natle (by omega) (by omega)]; omega), fun _ => ⟨hc, vp_in_nI hi (by omega), fun x hx y hy => ?_⟩⟩
  rw [hx] at hy ⊢
  have hy2 : y = nI 0 := by
    rw [hy]
    cases b <;> rfl
  rw [hy2]
  refine ⟨fun _ => ⟨fun _ y hy => ?_, fun z => absurd (by cases b <;> simp) z⟩, fun z => absurd rfl z⟩
  have hy3 : y = nI (if b then 1 else 0) := by
    rw [hy]
    cases b <;> rfl
  unfold wp_X5_closeClause
  rw [hy3, nar_b, nI_subL (by omega), show 1 - 1 = 0 from rfl, nI_clamp (by omega), nI_clamp (by omega), nI_add]
  exact ⟨fun _ => ⟨vp_in_nI (by omega) (by omega), vp_in_nI hk (by omega), vp_in_nI hk (by omega), h⟩, fun z => absurd ⟨by rw [nI_natlt (by omega) (by omega)]; omega, by rw [nI_natle (by omega) (by omega)]; omega⟩ z⟩
theorem wl_end {c B len0 : Nat} {gr : Nat → Int32} {C_L : List Nat} {C_len : Nat → Nat} {C_row : Nat → Nat → Int32} {Q : (Nat → Int32) → Int32 → (Nat → Int32) → (Nat → Int32) → Int32 → Prop} (hc : c ∈ C_L) (hl : C_len c = len0) {st hd lt : Nat → Int32} {t k : Int32} {n : Nat} (h : Q st t hd lt k) : wl_X5_weigh_12 c (nI B) gr C_L C_len C_row Q (n + 1) (nI len0) st t hd lt k := by
  rw [wl_X5_weigh_12]
  unfold wb_X5_weigh_12
  rw [hl]
  exact ⟨hc, fun _ => h, fun z => absurd (Int32.le_refl _) z⟩
def clCode (pk : Nat → Int32) (q : Bool × Nat) : List Int32 := (pSome pk q.2).2.2.1 ++ [entry (if q.1 then nI 108 else nI 98) 0]
theorem wl_run {c B len0 : Nat} {gr s : Nat → Int32} {C_L : List Nat} {C_len : Nat → Nat} {C_row : Nat → Nat → Int32} {Q : (Nat → Int32) → Int32 → (Nat → Int32) → (Nat → Int32) → Int32 → Prop} (hgr : ∀ i, i < 30 → gr i = s (20 + i)) (hB : B < 450) (hc : c ∈ C_L) (hl : C_len c = len0) (hl2 : len0 < 120) (pk : Nat → Int32) :
    ∀ (rest : List (Bool × Nat)) i k st hd lt, k + rest.length ≤ 8 → (∀ q, q ∈ rest → (pSome pk q.2).1 = true) → (∀ j x, ((rest.map (clCode pk)).flatten)[j]? = some x → C_row c (i + j) = x) → i + ((rest.map (clCode pk)).flatten).length = len0 →
      (∀ st' hd' lt', (∀ j, j < k → hd' j = hd j ∧ lt' j = lt j) → (∀ j b p, rest[j]? = some (b, p) → hrs (hd' (k + j)) (evS s B (pSome pk p).2.2.2) ∧ lt' (k + j) = nI (if b then 1 else 0)) → Q st' (nI 0) hd' lt' (nI (k + rest.length))) →
      wl_X5_weigh_12 c (nI B) gr C_L C_len C_row Q (((rest.map (clCode pk)).flatten).length + 1) (nI i) st (nI 0) hd lt (nI k) := by
  intro rest
  induction rest with
  | nil =>
    intro i k st hd lt h1 h2 h3 h4 h5
    have e : i = len0 := h4
    rw [e]
    exact wl_end hc hl (h5 st hd lt (fun j hj => ⟨rfl, rfl⟩) (fun j b p z => by cases z))
  | cons q rest ih =>
    intro i k st hd lt h1 h2 h3 h4 h5
    obtain ⟨b, p⟩ := q
    rw [List.map_cons, List.flatten_cons] at h3 h4 ⊢
    rw [List.length_cons] at h1 h5
    obtain ⟨r1, r2⟩ := at_app1 h3
    rw [List.length_append] at h4 ⊢
    have el : (clCode pk (b, p)).length = (pSome pk p).2.2.1.length + 1 := by
      unfold clCode
      rw [List.length_append, List.length_singleton]
    rw [el] at h4 r2 ⊢
    obtain ⟨t1, t2⟩ := at_app1 r1
    rw [show (pSome pk p).2.2.1.length + 1 + ((rest.map (clCode pk)).flatten).length + 1 = (((rest.map (clCode pk)).flatten).length + 1 + 1) + (pSome pk p).2.2.1.length from by omega]
    refine seg_some hgr hB hc hl hl2 pk p (h2 _ List.mem_cons_self) i 0 st hd lt _ _ (by omega) (by omega) t1 (fun st' e1 e2 => ?_)
    refine wl_close hc hl hl2 (b := b) (by omega) (by omega) (by have := t2 0 _ rfl; rwa [Nat.add_zero] at this) ?_
    rw [Nat.add_assoc]
    refine ih _ (k + 1) st' _ _ (by omega) (fun q hq => h2 q (List.mem_cons_of_mem _ hq)) r2 (by omega) (fun st2 hd2 lt2 g1 g2 => ?_)
    rw [show k + 1 + rest.length = k + (rest.length + 1) from by omega]
    refine h5 st2 hd2 lt2 (fun j hj => ?_) (fun j b' p' hj => ?_)
    · obtain ⟨a1, a2⟩ := g1 j (by omega)
      rw [a1, a2, updne (by omega), updne (by omega)]
      exact ⟨rfl, rfl⟩
    · cases j with
      | zero =>
        cases hj
        obtain ⟨a1, a2⟩ := g1 k (by omega)
        rw [Nat.add_zero, a1, a2, upde, upde]
        exact ⟨e2, rfl⟩
      | succ j =>
        have := g2 j b' p' hj
        rwa [show k + 1 + j = k + (j + 1) from by omega] at this
