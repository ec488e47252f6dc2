/-- a clause at p: good, where the reading stands, whether it lets, where its words begin, its code -/
def pCl (pk : Nat → Int32) (p : Nat) : Bool × Nat × Bool × Nat × List Int32 :=
  if pk p = nI (if pk p = nI 108 then 108 else 98) then
    (if pk (p + 1) = nI (if pk p = nI 108 then 101 else 97) then
      (if pk (p + 2) = nI (if pk p = nI 108 then 116 else 114) then
        (if pk (p + 3) = nI 32 then ((pSome pk (p + 4)).1, (pSome pk (p + 4)).2.1, decide (pk p = nI 108), p + 4, (pSome pk (p + 4)).2.2.1 ++ [entry (if pk p = nI 108 then nI 108 else nI 98) 0]) else (false, p + 3, false, 0, []))
      else (false, p + 2, false, 0, []))
    else (false, p + 1, false, 0, []))
  else (false, p, false, 0, [])
theorem pCl_ok {pk : Nat → Int32} {L : Nat} (h : pkE L pk) {p : Nat} (hp : p ≤ L) : p ≤ (pCl pk p).2.1 ∧ (pCl pk p).2.1 ≤ L ∧ ((pCl pk p).1 = true → p + (pCl pk p).2.2.2.2.length + 4 ≤ (pCl pk p).2.1 ∧ (pCl pk p).2.2.2.1 ≤ L ∧ (pSome pk (pCl pk p).2.2.2.1).1 = true ∧ (pCl pk p).2.2.2.2 = (pSome pk (pCl pk p).2.2.2.1).2.2.1 ++ [entry (if (pCl pk p).2.2.1 then nI 108 else nI 98) 0]) := by
  unfold pCl
  by_cases c1 : pk p = nI (if pk p = nI 108 then 108 else 98)
  · rw [if_pos c1]
    have l1 : p < L := pkr_lt h (by split <;> omega) c1
    by_cases c2 : pk (p + 1) = nI (if pk p = nI 108 then 101 else 97)
    · rw [if_pos c2]
      have l2 : p + 1 < L := pkr_lt h (by split <;> omega) c2
      by_cases c3 : pk (p + 2) = nI (if pk p = nI 108 then 116 else 114)
      · rw [if_pos c3]
        have l3 : p + 2 < L := pkr_lt h (by split <;> omega) c3
        by_cases c4 : pk (p + 3) = nI 32
        · rw [if_pos c4]
          have l4 : p + 3 < L := pkr_lt h (by omega) c4
          obtain ⟨o1, o2, o3⟩ := pAny_ok h (pFact_ok h 8 0) (p + 4) (by omega)
          refine ⟨?_, o2, fun fb => ⟨?_, (show p + 4 ≤ L by omega), fb, ?_⟩⟩
          · show p ≤ (pSome pk (p + 4)).2.1
            have : p + 4 ≤ (pSome pk (p + 4)).2.1 := o1
            omega
          · have : p + 4 + (pSome pk (p + 4)).2.2.1.length + 1 ≤ (pSome pk (p + 4)).2.1 := o3 fb
            show p + ((pSome pk (p + 4)).2.2.1 ++ [entry (if pk p = nI 108 then nI 108 else nI 98) 0]).length + 4 ≤ (pSome pk (p + 4)).2.1
            rw [List.length_append, List.length_singleton]
            omega
          · show (pSome pk (p + 4)).2.2.1 ++ [entry (if pk p = nI 108 then nI 108 else nI 98) 0] = (pSome pk (p + 4)).2.2.1 ++ [entry (if decide (pk p = nI 108) = true then nI 108 else nI 98) 0]
            by_cases g : pk p = nI 108
            · rw [if_pos g, if_pos (decide_eq_true g)]
            · rw [if_neg g, if_neg (fun z => g (of_decide_eq_true z))]
        · rw [if_neg c4]; exact ⟨(show p ≤ p + 3 by omega), (show p + 3 ≤ L by omega), fun z => by cases z⟩
      · rw [if_neg c3]; exact ⟨(show p ≤ p + 2 by omega), (show p + 2 ≤ L by omega), fun z => by cases z⟩
    · rw [if_neg c2]; exact ⟨(show p ≤ p + 1 by omega), (show p + 1 ≤ L by omega), fun z => by cases z⟩
  · rw [if_neg c1]; exact ⟨Nat.le_refl p, hp, fun z => by cases z⟩
theorem cls_clause {pk tape : Nat → Int32} {L p w : Nat} {code : Nat → Int32} {Q : Int32 → (Nat → Int32) → Int32 → Int32 → Prop} (hL : L ≤ 120) (hk : pkR tape L pk) (hp : p ≤ L) (hw : w ≤ p) (h1 : (pCl pk p).1 = true → ∀ code', appC code w (pCl pk p).2.2.2.2 code' → Q (nI 1) code' (nI (w + (pCl pk p).2.2.2.2.length)) (nI (pCl pk p).2.1)) (h0 : (pCl pk p).1 = false → ∀ code' w', Q (nI 0) code' w' (nI (pCl pk p).2.1)) : wp_X8_readClause tape code (nI w) (nI L) (nI p) Q := by
  obtain ⟨e, ok⟩ := cls_peek (p := p) hL hk (by omega)
  have hE := pkR_E hk
  unfold wp_X8_readClause
  rw [e]
  refine ⟨ok, fun x hx => ?_⟩
  subst hx
  have n0 : ∀ q, (∀ c' w', Q (nI 0) c' w' (nI q)) → wk_X8_readClause_78 tape code (nI w) (nI L) Q (pk p) (nI q) (nI 0) := fun q hq => ⟨fun _ => hq _ _, fun z => absurd (of_eq_true nI0eq) z⟩
  have tail : p + 3 ≤ L → (pk p = nI 108 ∨ ¬ pk p = nI 108 ∧ pk p = nI 98) → (pk (p + 3) = nI 32 → (pCl pk p) = ((pSome pk (p + 4)).1, (pSome pk (p + 4)).2.1, decide (pk p = nI 108), p + 4, (pSome pk (p + 4)).2.2.1 ++ [entry (if pk p = nI 108 then nI 108 else nI 98) 0])) → (¬ pk (p + 3) = nI 32 → pCl pk p = (false, p + 3, false, 0, [])) → ∀ y, y = (if nI 1 = 0 then nI 0 else nI 1) → wk_X8_readClause_78 tape code (nI w) (nI L) Q (pk p) (nI (p + 3)) y := by
    intro hl hc e1 e0 y hy
    rw [if_neg (by rw [nI1ne]; exact id)] at hy
    subst hy
    unfold wk_X8_readClause_78
    refine ⟨fun z => by rw [nI1ne] at z; exact z.elim, fun _ => ?_⟩
    refine cls_skip hL hk hl (fun c4 => ⟨fun z => by rw [nI1ne] at z; exact z.elim, fun _ => ?_⟩) (fun c4 => ⟨fun _ => ?_, fun z => absurd (of_eq_true nI0eq) z⟩)
    · rw [e1 c4] at h1 h0
      have l4 := pkr_lt hE (by omega) c4
      refine cls_some hL hk (p + 4) w code _ (by omega) (by omega) ⟨fun fb c' hc' => ⟨fun z => by rw [nI1ne] at z; exact z.elim, fun _ => ?_⟩, fun fb c' w' => ⟨fun _ => h0 fb c' w', fun z => absurd (of_eq_true nI0eq) z⟩⟩
      obtain ⟨o1, o2, o3⟩ := pAny_ok hE (pFact_ok hE 8 0) (p + 4) (by omega)
      have o4 : p + 4 + (pSome pk (p + 4)).2.2.1.length + 1 ≤ (pSome pk (p + 4)).2.1 := o3 fb
      have o5 : (pSome pk (p + 4)).2.1 ≤ L := o2
      refine cls_write (by omega) (fun y hy => ?_)
      rw [if_neg (by rw [nI1ne]; exact id)] at hy
      subst hy
      have ep : entry (pk p) 0 = entry (if pk p = nI 108 then nI 108 else nI 98) 0 := by
        rcases hc with c | ⟨c, c'⟩
        · rw [if_pos c, c]
        · rw [if_neg c, c']
      have := h1 fb (upd c' (w + (pSome pk (p + 4)).2.2.1.length) (entry (pk p) 0)) (appC_app hc' (by rw [ep]; exact appC_one))
      rw [List.length_append, List.length_singleton, ← Nat.add_assoc] at this
      exact this
    · rw [e0 c4] at h0
      exact h0 rfl _ _
  refine ⟨fun nl => ?_, fun l => ?_⟩
  · have i98 : nI (if pk p = nI 108 then 108 else 98) = nI 98 := by rw [if_neg nl]
    have i97 : nI (if pk p = nI 108 then 101 else 97) = nI 97 := by rw [if_neg nl]
    have i114 : nI (if pk p = nI 108 then 116 else 114) = nI 114 := by rw [if_neg nl]
    have pc : pCl pk p = if pk p = nI 98 then (if pk (p + 1) = nI 97 then (if pk (p + 2) = nI 114 then (if pk (p + 3) = nI 32 then ((pSome pk (p + 4)).1, (pSome pk (p + 4)).2.1, decide (pk p = nI 108), p + 4, (pSome pk (p + 4)).2.2.1 ++ [entry (if pk p = nI 108 then nI 108 else nI 98) 0]) else (false, p + 3, false, 0, [])) else (false, p + 2, false, 0, [])) else (false, p + 1, false, 0, [])) else (false, p, false, 0, []) := by
      unfold pCl
      rw [i98, i97, i114]
    refine cls_skip hL hk hp (fun c1 => ⟨fun z => by rw [nI1ne] at z; exact z.elim, fun _ => ?_⟩) (fun c1 => ⟨fun _ => ?_, fun z => absurd (of_eq_true nI0eq) z⟩)
    · have l1 := pkr_lt hE (by omega) c1
      rw [if_pos c1] at pc
      refine cls_skip hL hk (by omega) (fun c2 => ⟨fun z => by rw [nI1ne] at z; exact z.elim, fun _ => ?_⟩) (fun c2 => ⟨fun _ => ?_, fun z => absurd (of_eq_true nI0eq) z⟩)
      · have l2 := pkr_lt hE (by omega) c2
        rw [if_pos c2] at pc
        refine cls_skip hL hk (by omega) (fun c3 => ?_) (fun c3 => ?_)
        · have l3 := pkr_lt hE (by omega) c3
          rw [if_pos c3] at pc
          exact tail (by omega) (Or.inr ⟨nl, c1⟩) (fun c4 => by rw [pc, if_pos c4]) (fun c4 => by rw [pc, if_neg c4])
        · intro y hy
          rw [if_pos (of_eq_true nI0eq)] at hy
          rw [if_neg c3] at pc
          rw [hy]
          rw [pc] at h0
          exact n0 _ (h0 rfl)
      · rw [if_neg c2] at pc
        rw [pc] at h0
        exact n0 _ (h0 rfl)
    · rw [if_neg c1] at pc
      rw [pc] at h0
      exact n0 _ (h0 rfl)
  · have i98 : nI (if pk p = nI 108 then 108 else 98) = nI 108 := by rw [if_pos l]
    have i97 : nI (if pk p = nI 108 then 101 else 97) = nI 101 := by rw [if_pos l]
    have i114 : nI (if pk p = nI 108 then 116 else 114) = nI 116 := by rw [if_pos l]
    have pc : pCl pk p = if pk p = nI 108 then (if pk (p + 1) = nI 101 then (if pk (p + 2) = nI 116 then (if pk (p + 3) = nI 32 then ((pSome pk (p + 4)).1, (pSome pk (p + 4)).2.1, decide (pk p = nI 108), p + 4, (pSome pk (p + 4)).2.2.1 ++ [entry (if pk p = nI 108 then nI 108 else nI 98) 0]) else (false, p + 3, false, 0, [])) else (false, p + 2, false, 0, [])) else (false, p + 1, false, 0, [])) else (false, p, false, 0, []) := by
      unfold pCl
      rw [i98, i97, i114]
    refine cls_skip hL hk hp (fun c1 => ⟨fun z => by rw [nI1ne] at z; exact z.elim, fun _ => ?_⟩) (fun c1 => absurd l c1)
    · have l1 := pkr_lt hE (by omega) c1
      rw [if_pos c1] at pc
      refine cls_skip hL hk (by omega) (fun c2 => ⟨fun z => by rw [nI1ne] at z; exact z.elim, fun _ => ?_⟩) (fun c2 => ⟨fun _ => ?_, fun z => absurd (of_eq_true nI0eq) z⟩)
      · have l2 := pkr_lt hE (by omega) c2
        rw [if_pos c2] at pc
        refine cls_skip hL hk (by omega) (fun c3 => ?_) (fun c3 => ?_)
        · have l3 := pkr_lt hE (by omega) c3
          rw [if_pos c3] at pc
          exact tail (by omega) (Or.inl l) (fun c4 => by rw [pc, if_pos c4]) (fun c4 => by rw [pc, if_neg c4])
        · intro y hy
          rw [if_pos (of_eq_true nI0eq)] at hy
          rw [if_neg c3] at pc
          rw [hy]
          rw [pc] at h0
          exact n0 _ (h0 rfl)
      · rw [if_neg c2] at pc
        rw [pc] at h0
        exact n0 _ (h0 rfl)
/-- a tape from p on, of at most n clauses: good, where the reading stands, clauses, code -/
def pTp (pk : Nat → Int32) (L : Nat) : Nat → Nat → Bool × Nat × List (Bool × Nat) × List Int32
  | 0, p => (false, p, [], [])
  | n + 1, p => if (pCl pk p).1 = true then
      (if L ≤ (pCl pk p).2.1 then (true, (pCl pk p).2.1, [((pCl pk p).2.2.1, (pCl pk p).2.2.2.1)], (pCl pk p).2.2.2.2)
      else if n = 0 ∨ ¬ pk (pCl pk p).2.1 = nI 59 then (false, (pCl pk p).2.1, [], [])
      else ((pTp pk L n ((pCl pk p).2.1 + 1)).1, (pTp pk L n ((pCl pk p).2.1 + 1)).2.1, ((pCl pk p).2.2.1, (pCl pk p).2.2.2.1) :: (pTp pk L n ((pCl pk p).2.1 + 1)).2.2.1, (pCl pk p).2.2.2.2 ++ (pTp pk L n ((pCl pk p).2.1 + 1)).2.2.2))
    else (false, (pCl pk p).2.1, [], [])
theorem pTp_ok {pk : Nat → Int32} {L : Nat} (h : pkE L pk) : ∀ n p, p ≤ L → (pTp pk L n p).2.1 ≤ L ∧ ((pTp pk L n p).1 = true → (pTp pk L n p).2.1 = L ∧ p + (pTp pk L n p).2.2.2.length + 4 ≤ L ∧ (pTp pk L n p).2.2.1.length ≤ n ∧ (∀ (k : Nat) (b : Bool) (q : Nat), (pTp pk L n p).2.2.1[k]? = some (b, q) → q ≤ L ∧ (pSome pk q).1 = true) ∧ (pTp pk L n p).2.2.2 = ((pTp pk L n p).2.2.1.map (fun q => (pSome pk q.2).2.2.1 ++ [entry (if q.1 then nI 108 else nI 98) 0])).flatten) := by
  intro n
  induction n with
  | zero => intro p hp; exact ⟨hp, fun z => by cases z⟩
  | succ n ih =>
    intro p hp
    obtain ⟨o1, o2, o3⟩ := pCl_ok h hp
    rw [pTp]
    by_cases c1 : (pCl pk p).1 = true
    · rw [if_pos c1]
      obtain ⟨g1, g2, g3, g4⟩ := o3 c1
      by_cases c2 : L ≤ (pCl pk p).2.1
      · rw [if_pos c2]
        refine ⟨o2, fun _ => ⟨Nat.le_antisymm o2 c2, ?_, Nat.succ_le_succ (Nat.zero_le n), fun k b q hq => ?_, ?_⟩⟩
        · show p + (pCl pk p).2.2.2.2.length + 4 ≤ L
          omega
        · cases k with
          | zero => cases hq; exact ⟨g2, g3⟩
          | succ k => cases hq
        · show (pCl pk p).2.2.2.2 = _
          rw [g4]
          simp only [List.map_cons, List.map_nil, List.flatten_cons, List.flatten_nil, List.append_nil]
      · rw [if_neg c2]
        by_cases c3 : n = 0 ∨ ¬ pk (pCl pk p).2.1 = nI 59
        · rw [if_pos c3]
          exact ⟨o2, fun z => by cases z⟩
        · rw [if_neg c3]
          obtain ⟨i1, i2⟩ := ih ((pCl pk p).2.1 + 1) (by omega)
          refine ⟨i1, fun fb => ?_⟩
          obtain ⟨j1, j2, j3, j4, j5⟩ := i2 fb
          refine ⟨j1, ?_, Nat.succ_le_succ j3, fun k b q hq => ?_, ?_⟩
          · show p + ((pCl pk p).2.2.2.2 ++ (pTp pk L n ((pCl pk p).2.1 + 1)).2.2.2).length + 4 ≤ L
            rw [List.length_append]
            omega
          · cases k with
            | zero => cases hq; exact ⟨g2, g3⟩
            | succ k => exact j4 k b q hq
          · show (pCl pk p).2.2.2.2 ++ (pTp pk L n ((pCl pk p).2.1 + 1)).2.2.2 = _
            rw [List.map_cons, List.flatten_cons, ← j5]
            rw [g4]
    · rw [if_neg c1]
      exact ⟨o2, fun z => by cases z⟩
theorem cls_tape {pk tape : Nat → Int32} {L : Nat} {ad : Nat → Nat} {Q : Int32 → Int32 → (Nat → Int32) → Int32 → Nat → Int32 → Int32 → Prop} {code0 : Nat → Int32} (hL : L ≤ 120) (hk : pkR tape L pk) (h1 : (pTp pk L 8 0).1 = true → ∀ code' a e at', appC code0 0 (pTp pk L 8 0).2.2.2 code' → Q (-1) (nI 0) code' (nI (pTp pk L 8 0).2.2.2.length) a e at') (h0 : (pTp pk L 8 0).1 = false → ∀ code' w a e at', Q (nI (pTp pk L 8 0).2.1) (nI 0) code' w a e at') : wp_X8_takeTape tape (nI L) code0 ad Q := by
  have hE := pkR_E hk
  have key : ∀ n k p w (code : Nat → Int32) (l : List Int32), k + n = 8 → 1 ≤ n → p ≤ L → w = l.length → w ≤ p → appC code0 0 l code → ((pTp pk L n p).1 = true → ∀ code' a e at', appC code0 0 (l ++ (pTp pk L n p).2.2.2) code' → Q (-1) (nI 0) code' (nI (l ++ (pTp pk L n p).2.2.2).length) a e at') → ((pTp pk L n p).1 = false → ∀ code' w a e at', Q (nI (pTp pk L n p).2.1) (nI 0) code' w a e at') → wl_X8_takeTape_33 tape (nI L) ad Q n (nI (k + 1)) code (nI w) (nI p) := by
    intro n
    induction n with
    | zero => intro k p w code l h1 h2; omega
    | succ n ih =>
      intro k p w code l hkn _ hp hwl hw ha g1 g0
      rw [wl_X8_takeTape_33]
      unfold wb_X8_takeTape_33
      rw [nI_natlt (by omega) (by omega)]
      refine ⟨fun z => absurd z (by omega), fun _ => ?_⟩
      obtain ⟨o1, o2, o3⟩ := pCl_ok hE hp
      rw [pTp] at g1 g0
      refine cls_clause hL hk hp hw (fun fb code' hc' => ⟨fun _ => ⟨fun hlt => ?_, fun hlt => ?_⟩, fun z => by rw [nI1ne] at z; exact z.elim⟩) (fun fb code' w' => ⟨fun z => absurd (of_eq_true nI0eq) z, fun _ => ?_⟩)
      · rw [if_pos fb] at g1 g0
        obtain ⟨k1, k2, k3, k4⟩ := o3 fb
        rw [nI_natlt (by omega) (by omega)] at hlt
        rw [if_neg (by omega)] at g1 g0
        rw [nI_nateq (by omega) (by omega)]
        refine ⟨fun e8 => ?_, fun e8 => ?_⟩
        · rw [if_pos (Or.inl (by omega))] at g0
          exact g0 rfl _ _ _ _ _
        · refine cls_skip hL hk o2 (fun c => ⟨fun _ => ?_, fun z => by rw [nI1ne] at z; exact z.elim⟩) (fun c => ⟨fun z => absurd (of_eq_true nI0eq) z, fun _ => ?_⟩)
          · have nn : ¬ (n = 0 ∨ ¬ pk (pCl pk p).2.1 = nI 59) := fun z => z.elim (fun z => e8 (by omega)) (fun z => z c)
            rw [if_neg nn] at g1 g0
            rw [nI_add]
            refine ih (k + 1) _ _ code' (l ++ (pCl pk p).2.2.2.2) (by omega) (by omega) (by omega) (by rw [List.length_append, hwl]) (by omega) (appC_app ha (by rw [Nat.zero_add, ← hwl]; exact hc')) (fun fb2 c2 a e at' hc2 => ?_) g0
            rw [List.append_assoc] at hc2 ⊢
            exact g1 fb2 c2 a e at' hc2
          · rw [if_pos (Or.inr c)] at g0
            exact g0 rfl _ _ _ _ _
      · rw [if_pos fb] at g1
        obtain ⟨k1, k2, k3, k4⟩ := o3 fb
        rw [nI_natlt (by omega) (by omega)] at hlt
        rw [if_pos (by omega)] at g1
        have := g1 rfl code' (ad 13) (nI L) (nI (pCl pk p).2.1) (appC_app ha (by rw [Nat.zero_add, ← hwl]; exact hc'))
        rw [List.length_append, ← hwl] at this
        exact this
      · rw [if_neg (fun z => by rw [fb] at z; cases z)] at g0
        exact g0 rfl _ _ _ _ _
  unfold wp_X8_takeTape
  exact ⟨8, key 8 0 0 0 code0 [] (by omega) (by omega) (Nat.zero_le L) rfl (Nat.le_refl 0) appC_nil h1 h0⟩
