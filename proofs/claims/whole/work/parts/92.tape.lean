/-- but for what a text's slot says of its clauses, v is s -/
def slotO (t : Nat) (s v : Nat → Int32) : Prop := ∀ j, j ≠ 4470 + t → ¬ (4490 + 8 * t ≤ j ∧ j < 4490 + 8 * t + 8) → ¬ (4620 + 8 * t ≤ j ∧ j < 4620 + 8 * t + 8) → v j = s j
def recS (s : Nat → Int32) (t : Nat) (l : List (Bool × Nat)) : Prop := s (4470 + t) = nI l.length ∧ ∀ (k : Nat) (b : Bool) (p : Nat), l[k]? = some (b, p) → s (4490 + (8 * t + k)) = nI (if b then 1 else 0) ∧ s (4620 + (8 * t + k)) = nI p
theorem hereR_out {s v pk : Nat → Int32} {t L : Nat} (h : hereR s t L pk) (ho : slotO t s v) : hereR v t L pk := by
  obtain ⟨h1, h2, h3, h4⟩ := h
  refine ⟨h1, h2, by rw [ho _ (by omega) (by omega) (by omega)]; exact h3, fun p => ?_⟩
  rw [h4 p]
  by_cases c : p < L
  · rw [if_pos c, if_pos c, ho _ (by omega) (by omega) (by omega)]
  · rw [if_neg c, if_neg c]
theorem mod_clause {s pk : Nat → Int32} {t L p k : Nat} {Q : (Nat → Int32) → Int32 → Int32 → Int32 → Prop} (h : hereR s t L pk) (hp : p ≤ L) (hk8 : k < 8) (hc : s (4470 + t) = nI k) (h1 : (pCl pk p).1 = true → Q (upd (upd (upd s (4490 + (8 * t + k)) (nI (if (pCl pk p).2.2.1 then 1 else 0))) (4620 + (8 * t + k)) (nI (pCl pk p).2.2.2.1)) (4470 + t) (nI (k + 1))) (nI (pCl pk p).2.1) (nI 0) (nI 0)) (h0 : (pCl pk p).1 = false → ∀ v w, slotO t s v → Q v (nI (pCl pk p).2.1) (nI 1) w) : wp_X12_clause (nI t) s (nI t) (nI p) (nI 0) (nI 0) (nI 0) Q := by
  obtain ⟨ht, hL, -, -⟩ := id h
  have hE := here_E h
  obtain ⟨e, ok⟩ := here_eq h (p := p) (by omega)
  unfold wp_X12_clause
  rw [nI_add, nI_clamp (by omega), hc, nI_mul, nI_add, e]
  refine ⟨vp_in_nI (by omega) (by omega), fun x hx => ⟨ok, fun y0 hy0 => ?_⟩⟩
  subst hx
  have n0 : ∀ q, (∀ v w, slotO t s v → Q v (nI q) (nI 1) w) → wk_X12_clause_74 (nI t) s (nI t) (nI 0) (nI 0) Q (nI (8 * t + k)) y0 (nI q) (nI 1) := by
    intro q hq
    unfold wk_X12_clause_74
    exact mod_must1 ⟨fun z => absurd z (by rw [nI1ne]; exact id), fun _ => hq s _ (fun _ _ _ _ => rfl)⟩
  have tail : p + 3 ≤ L → y0 = nI (if pk p = nI 108 then 1 else 0) → (pk (p + 3) = nI 32 → (pCl pk p) = ((pSome pk (p + 4)).1, (pSome pk (p + 4)).2.1, decide (pk p = nI 108), p + 4, (pSome pk (p + 4)).2.2.1 ++ [entry (if pk p = nI 108 then nI 108 else nI 98) 0])) → (¬ pk (p + 3) = nI 32 → pCl pk p = (false, p + 3, false, 0, [])) → wk_X12_clause_74 (nI t) s (nI t) (nI 0) (nI 0) Q (nI (8 * t + k)) y0 (nI (p + 3)) (nI 0) := by
    intro hl hy e1 e0
    unfold wk_X12_clause_74
    refine mod_must h hl (fun c4 => ⟨fun _ y2 hy2 => ?_, fun z => absurd (of_eq_true nI0eq) z⟩) (fun c4 => ⟨fun z => absurd z (by rw [nI1ne]; exact id), fun _ => ?_⟩)
    · have l4 := pkr_lt hE (by omega) c4
      rw [e1 c4] at h1 h0
      have ey : y2 = nI (if decide (pk p = nI 108) = true then 1 else 0) := by
        rw [hy2, hy]
        by_cases g : pk p = nI 108
        · rw [if_pos g, if_neg (by decide), if_pos (decide_eq_true g)]
        · rw [if_neg g, if_pos (by decide), if_neg (fun z => g (of_decide_eq_true z))]
      rw [nI_add, nI_add, nI_add, nI_clamp (by omega), nI_clamp (by omega), nI_clamp (by omega), ey]
      refine ⟨vp_in_nI (by omega) (by omega), vp_in_nI (by omega) (by omega), ?_⟩
      have ho : slotO t s (upd (upd s (4490 + (8 * t + k)) (nI (if decide (pk p = nI 108) = true then 1 else 0))) (4620 + (8 * t + k)) (nI (p + 3 + 1))) := fun j j1 j2 j3 => by rw [updne (by omega), updne (by omega)]
      have hh := hereR_out h ho
      have c44 : (upd (upd s (4490 + (8 * t + k)) (nI (if decide (pk p = nI 108) = true then 1 else 0))) (4620 + (8 * t + k)) (nI (p + 3 + 1))) (4470 + t) + nI 1 = nI (k + 1) := by rw [updne (by omega), updne (by omega), hc, nI_add]
      refine mod_sm hh (show 0 < 10800 by omega) (p + 4) _ (by omega) ⟨fun fb => ⟨vp_in_nI (by omega) (by omega), vp_in_nI (by omega) (by omega), ?_⟩, fun fb v w hv => ⟨vp_in_nI (by omega) (by omega), vp_in_nI (by omega) (by omega), ?_⟩⟩
      · rw [c44]
        exact h1 fb
      · refine h0 fb _ _ (fun j j1 j2 j3 => ?_)
        rw [updne j1]
        exact ho j j1 j2 j3
    · rw [e0 c4] at h0
      exact h0 rfl s _ (fun _ _ _ _ => rfl)
  refine ⟨fun z => ?_, fun z => ?_⟩
  · have nl : ¬ pk p = nI 108 := by
      intro g
      rw [if_pos g] at hy0
      rw [hy0, nI1ne] at z
      exact z
    have ey : y0 = nI (if pk p = nI 108 then 1 else 0) := by rw [hy0, if_neg nl, if_neg nl]
    have i98 : nI (if pk p = nI 108 then 108 else 98) = nI 98 := by rw [if_neg nl]
    have i97 : nI (if pk p = nI 108 then 101 else 97) = nI 97 := by rw [if_neg nl]
    have i114 : nI (if pk p = nI 108 then 116 else 114) = nI 114 := by rw [if_neg nl]
    have pc : pCl pk p = if pk p = nI 98 then (if pk (p + 1) = nI 97 then (if pk (p + 2) = nI 114 then (if pk (p + 3) = nI 32 then ((pSome pk (p + 4)).1, (pSome pk (p + 4)).2.1, decide (pk p = nI 108), p + 4, (pSome pk (p + 4)).2.2.1 ++ [entry (if pk p = nI 108 then nI 108 else nI 98) 0]) else (false, p + 3, false, 0, [])) else (false, p + 2, false, 0, [])) else (false, p + 1, false, 0, [])) else (false, p, false, 0, []) := by
      unfold pCl
      rw [i98, i97, i114]
    refine mod_must h hp (fun c1 => ?_) (fun c1 => ?_)
    · have l1 := pkr_lt hE (by omega) c1
      rw [if_pos c1] at pc
      refine mod_must h (by omega) (fun c2 => ?_) (fun c2 => ?_)
      · have l2 := pkr_lt hE (by omega) c2
        rw [if_pos c2] at pc
        refine mod_must h (by omega) (fun c3 => ?_) (fun c3 => ?_)
        · have l3 := pkr_lt hE (by omega) c3
          rw [if_pos c3] at pc
          exact tail (by omega) ey (fun c4 => by rw [pc, if_pos c4]) (fun c4 => by rw [pc, if_neg c4])
        · rw [if_neg c3] at pc
          rw [pc] at h0
          exact n0 _ (h0 rfl)
      · rw [if_neg c2] at pc
        rw [pc] at h0
        exact mod_must1 (n0 _ (h0 rfl))
    · rw [if_neg c1] at pc
      rw [pc] at h0
      exact mod_must1 (mod_must1 (n0 _ (h0 rfl)))
  · have l : pk p = nI 108 := by
      apply Classical.byContradiction
      intro g
      rw [if_neg g] at hy0
      rw [hy0] at z
      exact z (of_eq_true nI0eq)
    have ey : y0 = nI (if pk p = nI 108 then 1 else 0) := by rw [hy0, if_pos l, if_pos l]
    have i98 : nI (if pk p = nI 108 then 108 else 98) = nI 108 := by rw [if_pos l]
    have i97 : nI (if pk p = nI 108 then 101 else 97) = nI 101 := by rw [if_pos l]
    have i114 : nI (if pk p = nI 108 then 116 else 114) = nI 116 := by rw [if_pos l]
    have pc : pCl pk p = if pk p = nI 108 then (if pk (p + 1) = nI 101 then (if pk (p + 2) = nI 116 then (if pk (p + 3) = nI 32 then ((pSome pk (p + 4)).1, (pSome pk (p + 4)).2.1, decide (pk p = nI 108), p + 4, (pSome pk (p + 4)).2.2.1 ++ [entry (if pk p = nI 108 then nI 108 else nI 98) 0]) else (false, p + 3, false, 0, [])) else (false, p + 2, false, 0, [])) else (false, p + 1, false, 0, [])) else (false, p, false, 0, []) := by
      unfold pCl
      rw [i98, i97, i114]
    refine mod_must h hp (fun c1 => ?_) (fun c1 => absurd l c1)
    · have l1 := pkr_lt hE (by omega) c1
      rw [if_pos c1] at pc
      refine mod_must h (by omega) (fun c2 => ?_) (fun c2 => ?_)
      · have l2 := pkr_lt hE (by omega) c2
        rw [if_pos c2] at pc
        refine mod_must h (by omega) (fun c3 => ?_) (fun c3 => ?_)
        · have l3 := pkr_lt hE (by omega) c3
          rw [if_pos c3] at pc
          exact tail (by omega) ey (fun c4 => by rw [pc, if_pos c4]) (fun c4 => by rw [pc, if_neg c4])
        · rw [if_neg c3] at pc
          rw [pc] at h0
          exact n0 _ (h0 rfl)
      · rw [if_neg c2] at pc
        rw [pc] at h0
        exact mod_must1 (n0 _ (h0 rfl))
theorem recS_snoc {s : Nat → Int32} {t : Nat} {l : List (Bool × Nat)} {b : Bool} {q : Nat} (ht : t < 16) (hl : l.length < 8) (h : recS s t l) : recS (upd (upd (upd s (4490 + (8 * t + l.length)) (nI (if b then 1 else 0))) (4620 + (8 * t + l.length)) (nI q)) (4470 + t) (nI (l.length + 1))) t (l ++ [(b, q)]) := by
  refine ⟨by rw [upde, List.length_append, List.length_singleton], fun k b' q' hk => ?_⟩
  rcases Nat.lt_or_ge k l.length with c | c
  · rw [List.getElem?_append_left c] at hk
    rw [updne (by omega), updne (by omega), updne (by omega), updne (by omega), updne (by omega), updne (by omega)]
    exact h.2 k b' q' hk
  · rw [List.getElem?_append_right c] at hk
    have k0 : k = l.length := by
      cases hd : k - l.length with
      | zero => omega
      | succ d => rw [hd] at hk; cases hk
    subst k0
    rw [Nat.sub_self] at hk
    cases hk
    rw [updne (by omega), updne (by omega), upde, updne (by omega), upde]
    exact ⟨rfl, rfl⟩
theorem slotO_trans {t : Nat} {a b c : Nat → Int32} (h1 : slotO t a b) (h2 : slotO t b c) : slotO t a c := fun j j1 j2 j3 => by rw [h2 j j1 j2 j3, h1 j j1 j2 j3]
theorem mod_more {pk ls : Nat → Int32} {t L : Nat} {Q : Int32 → (Nat → Int32) → Int32 → Int32 → Int32 → Int32 → Int32 → (Nat → Int32) → Prop} : ∀ n k p (s : Nat → Int32) (l : List (Bool × Nat)), k + n = 8 → 1 ≤ n → p ≤ L → hereR s t L pk → recS s t l → l.length = k → ((pTp pk L n p).1 = true → ∀ v iw op, slotO t s v → recS v t (l ++ (pTp pk L n p).2.2.1) → Q (nI 1) v (nI t) (nI L) iw op (nI 0) (upd ls t (nI 0))) → ((pTp pk L n p).1 = false → ∀ v iw op, slotO t s v → Q (nI 0) v (nI t) (nI (pTp pk L n p).2.1) iw op (nI 0) (upd ls t (nI 0))) → ∀ K : (Nat → Int32) → Int32 → Int32 → Int32 → Prop, (∀ s2 sp iw op, wl_X12_readsText_143 (nI t) ls Q n s2 sp iw op → K s2 sp iw op) → wp_X12_clause (nI t) s (nI t) (nI p) (nI 0) (nI 0) (nI 0) K := by
  intro n
  induction n with
  | zero => intro k p s l h1 h2; omega
  | succ n ih =>
    intro k p s l hkn _ hp hh hr hlk g1 g0 K hK
    obtain ⟨ht, hL, -, -⟩ := id hh
    have hE := here_E hh
    obtain ⟨o1, o2, o3⟩ := pCl_ok hE hp
    rw [pTp] at g1 g0
    subst hlk
    refine mod_clause hh hp (by omega) hr.1 (fun fb => hK _ _ _ _ ?_) (fun fb v w hv => hK _ _ _ _ ?_)
    · rw [if_pos fb] at g1 g0
      have hr2 := recS_snoc (b := (pCl pk p).2.2.1) (q := (pCl pk p).2.2.2.1) ht (by omega) hr
      have ho2 : slotO t s (upd (upd (upd s (4490 + (8 * t + l.length)) (nI (if (pCl pk p).2.2.1 then 1 else 0))) (4620 + (8 * t + l.length)) (nI (pCl pk p).2.2.2.1)) (4470 + t) (nI (l.length + 1))) := fun j j1 j2 j3 => by rw [updne j1, updne (by omega), updne (by omega)]
      revert hr2 ho2
      generalize upd (upd (upd s (4490 + (8 * t + l.length)) (nI (if (pCl pk p).2.2.1 then 1 else 0))) (4620 + (8 * t + l.length)) (nI (pCl pk p).2.2.2.1)) (4470 + t) (nI (l.length + 1)) = s2
      intro hr2 ho2
      have hh2 := hereR_out hh ho2
      obtain ⟨e, ok⟩ := here_eq hh2 (p := (pCl pk p).2.1) (by omega)
      have c44 : s2 (4470 + t) = nI (l.length + 1) := by rw [hr2.1, List.length_append, List.length_singleton]
      rw [wl_X12_readsText_143]
      unfold wb_X12_readsText_143
      rw [e, nI_add, nI_add, nI_add, nI_clamp (by omega), nI_clamp (by omega), nI_clamp (by omega), c44, hh2.2.2.1, nI_natle (by omega) (by omega)]
      refine ⟨fun _ => ⟨vp_in_nI (by omega) (by omega), fun _ => ok⟩, fun z => ?_, fun z => ⟨fun _ => vp_in_nI (by omega) (by omega), fun y1 hy1 y0 hy0 => ?_⟩⟩
      · obtain ⟨-, z1, z2⟩ := z
        have lt := pkr_lt hE (by omega) z2
        rw [if_neg (by omega), if_neg (fun q => q.elim (fun q => by omega) (fun q => q z2))] at g1 g0
        refine ih (l.length + 1) _ s2 _ (by omega) (by omega) (by omega) hh2 hr2 (by rw [List.length_append, List.length_singleton]) (fun fb2 v iw op hv hrec => ?_) (fun fb2 v iw op hv => g0 fb2 v iw op (slotO_trans ho2 hv)) _ (fun _ _ _ _ q => q)
        rw [List.append_assoc] at hrec
        exact g1 fb2 v iw op (slotO_trans ho2 hv) hrec
      · rw [if_pos (of_eq_true nI0eq)] at hy1
        have cN : (nI (pCl pk p).2.1 = nI L) = ((pCl pk p).2.1 = L) := nI_nateq (by omega) (by omega)
        by_cases c2 : (pCl pk p).2.1 = L
        · rw [if_pos (Eq.mpr cN c2)] at hy1
          subst hy1
          rw [if_pos (of_eq_true nI0eq)] at hy0
          subst hy0
          rw [if_pos (by omega)] at g1
          have := g1 rfl s2 (nI 0) (nI 0) ho2 hr2
          rw [← c2] at this
          exact this
        · rw [if_neg (fun q => c2 (Eq.mp cN q))] at hy1
          subst hy1
          rw [if_neg (by rw [nI1ne]; exact id)] at hy0
          subst hy0
          have c3 : n = 0 ∨ ¬ pk (pCl pk p).2.1 = nI 59 := by
            apply Classical.byContradiction
            intro q
            refine z ⟨of_eq_true nI0eq, ?_, Classical.byContradiction (fun y => q (Or.inr y))⟩
            have : ¬ n = 0 := fun y => q (Or.inl y)
            omega
          rw [if_neg (by omega), if_pos c3] at g0
          exact g0 rfl s2 _ _ ho2
    · rw [if_neg (fun z => by rw [fb] at z; cases z)] at g0
      rw [wl_X12_readsText_143]
      unfold wb_X12_readsText_143
      refine ⟨fun z => absurd z (by rw [nI1ne]; exact id), fun z => absurd z.1 (by rw [nI1ne]; exact id), fun _ => ⟨fun z => absurd z (by rw [nI1ne]; exact id), fun y1 hy1 y0 hy0 => ?_⟩⟩
      rw [if_neg (by rw [nI1ne]; exact id)] at hy1
      subst hy1
      rw [if_neg (by rw [nI1ne]; exact id)] at hy0
      subst hy0
      rw [nI_clamp (by omega)]
      exact g0 rfl v _ _ hv
/-- but for a text's slot and the tape's size, v is s; the slot holds the tape -/
def slotT (t L : Nat) (tg dy : Int32) (s v : Nat → Int32) : Prop := (∀ j, j ≠ 10 → j ≠ 4410 + t → j ≠ 4430 + t → j ≠ 4450 + t → j ≠ 4470 + t → ¬ (4490 + 8 * t ≤ j ∧ j < 4490 + 8 * t + 8) → ¬ (4620 + 8 * t ≤ j ∧ j < 4620 + 8 * t + 8) → ¬ (4750 + 120 * t ≤ j ∧ j < 4750 + 120 * t + 120) → v j = s j) ∧ v 10 = nI 0 ∧ v (4410 + t) = tg ∧ v (4430 + t) = dy ∧ v (4450 + t) = nI L ∧ ∀ p, p < L → v (4750 + 120 * t + p) = s (1190 + p)
theorem mod_reads {s pk ls : Nat → Int32} {t L : Nat} {tg dy : Int32} {Q : Int32 → (Nat → Int32) → Int32 → Int32 → Int32 → Int32 → Int32 → (Nat → Int32) → Prop} (ht : t < 16) (hL : L ≤ 120) (h10 : s 10 = nI L) (hpk : ∀ p, pk p = if p < L then s (1190 + p) else -1) (g1 : (pTp pk L 8 0).1 = true → ∀ v iw op, slotT t L tg dy s v → recS v t (pTp pk L 8 0).2.2.1 → Q (nI 1) v (nI t) (nI L) iw op (nI 0) (upd ls t (nI 0))) (g0 : (pTp pk L 8 0).1 = false → ∀ v iw op, slotT t L tg dy s v → Q (nI 0) v (nI t) (nI (pTp pk L 8 0).2.1) iw op (nI 0) (upd ls t (nI 0))) : wp_X12_readsText (nI t) tg dy s ls Q := by
  unfold wp_X12_readsText
  rw [nI_add, nI_add, nI_add, nI_clamp (by omega), nI_clamp (by omega), nI_clamp (by omega), updne (f := upd s (4410 + t) tg) (by omega), updne (f := s) (by omega), h10]
  refine ⟨vp_in_nI (by omega) (by omega), vp_in_nI (by omega) (by omega), vp_in_nI (by omega) (by omega), ?_⟩
  refine meas2 (F := wl_X12_readsText_42 (nI t) ls Q) (fun v u => ∃ k, k ≤ L ∧ v = nI k ∧ (∀ j, j ≠ 4410 + t → j ≠ 4430 + t → j ≠ 4450 + t → ¬ (4750 + 120 * t ≤ j ∧ j < 4750 + 120 * t + 120) → u j = s j) ∧ u (4410 + t) = tg ∧ u (4430 + t) = dy ∧ u (4450 + t) = nI L ∧ ∀ p, p < k → u (4750 + 120 * t + p) = s (1190 + p)) (fun v _ => L - v.toNatClampNeg) ?_ _ _ ⟨0, Nat.zero_le L, rfl, fun j j1 j2 j3 j4 => by rw [updne j3, updne j2, updne j1], by rw [updne (by omega), updne (by omega), upde], by rw [updne (by omega), upde], upde, fun p hp => by omega⟩
  rintro v u ⟨k, hk, rfl, i1, i2, i3, i4, i5⟩ m ih
  rw [wl_X12_readsText_42]
  unfold wb_X12_readsText_42
  rw [i1 10 (by omega) (by omega) (by omega) (by omega), h10, nI_natle (by omega) (by omega)]
  refine ⟨fun z => ?_, fun z => ?_⟩
  · have ek : k = L := by omega
    subst ek
    rw [nI_add, nI_clamp (by omega)]
    refine ⟨vp_in_nI (by omega) (by omega), vp_in_nI (by omega) (by omega), ?_⟩
    have hh : hereR (upd (upd u 10 (nI 0)) (4470 + t) (nI 0)) t k pk := by
      refine ⟨ht, hL, by rw [updne (by omega), updne (by omega)]; exact i4, fun p => ?_⟩
      rw [hpk p]
      by_cases c : p < k
      · rw [if_pos c, if_pos c, updne (by omega), updne (by omega), i5 p c]
      · rw [if_neg c, if_neg c]
    have hr : recS (upd (upd u 10 (nI 0)) (4470 + t) (nI 0)) t [] := ⟨upde, fun k b p hq => by cases hq⟩
    have st : ∀ v, slotO t (upd (upd u 10 (nI 0)) (4470 + t) (nI 0)) v → slotT t k tg dy s v := by
      intro v ho
      refine ⟨fun j j1 j2 j3 j4 j5 j6 j7 j8 => ?_, ?_, ?_, ?_, ?_, fun p hp => ?_⟩
      · rw [ho j j5 j6 j7, updne j5, updne j1]; exact i1 j j2 j3 j4 j8
      · rw [ho 10 (by omega) (by omega) (by omega), updne (by omega), upde]
      · rw [ho _ (by omega) (by omega) (by omega), updne (by omega), updne (by omega)]; exact i2
      · rw [ho _ (by omega) (by omega) (by omega), updne (by omega), updne (by omega)]; exact i3
      · rw [ho _ (by omega) (by omega) (by omega), updne (by omega), updne (by omega)]; exact i4
      · rw [ho _ (by omega) (by omega) (by omega), updne (by omega), updne (by omega)]; exact i5 p hp
    exact mod_more (ls := ls) (Q := Q) 8 0 0 _ [] (by omega) (by omega) (Nat.zero_le k) hh hr rfl (fun fb v iw op hv hrec => g1 fb v iw op (st v hv) hrec) (fun fb v iw op hv => g0 fb v iw op (st v hv)) _ (fun _ _ _ _ q => ⟨8, q⟩)
  · rw [nI_add, nI_mul, nI_add, nI_add, nI_clamp (by omega), nI_clamp (by omega), nI_add]
    refine ⟨vp_in_nI (by omega) (by omega), vp_in_nI (by omega) (by omega), ih _ _ ⟨k + 1, by omega, rfl, fun j j1 j2 j3 j4 => ?_, ?_, ?_, ?_, fun p hp => ?_⟩ (by rw [nI_clamp (by omega), nI_clamp (by omega)]; omega)⟩
    · rw [updne (by omega)]; exact i1 j j1 j2 j3 j4
    · rw [updne (by omega)]; exact i2
    · rw [updne (by omega)]; exact i3
    · rw [updne (by omega)]; exact i4
    · by_cases e : p = k
      · subst e
        rw [upde]
        exact i1 _ (by omega) (by omega) (by omega) (by omega)
      · rw [updne (by omega)]; exact i5 p (by omega)
