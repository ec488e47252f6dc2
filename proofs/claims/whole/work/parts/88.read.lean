theorem dig_cases {c : Int32} (h : isDig c = true) : ∃ v, v < 10 ∧ c = nI (48 + v) ∧ digV c = v := by
  unfold isDig at h
  rw [Bool.and_eq_true, decide_eq_true_eq, decide_eq_true_eq] at h
  have h0 : ¬ c < 0 := by
    have := h.1
    rw [Int32.le_iff_toInt_le, nI_toInt (by omega)] at this
    rw [Int32.lt_iff_toInt_lt]
    have b : (0 : Int32).toInt = 0 := by decide
    omega
  obtain ⟨k, hk, rfl⟩ := nI_of h0
  rw [nI_natle (by omega) (by omega), nI_natle (by omega) (by omega)] at h
  refine ⟨k - 48, by omega, by rw [show 48 + (k - 48) = k from by omega], ?_⟩
  unfold digV
  rw [nI_subL h.1, nI_clamp (by omega)]
theorem dig_no {c : Int32} (h : isDig c = false) : c < nI 48 ∨ ¬ c ≤ nI 57 := by
  unfold isDig at h
  apply Classical.byContradiction
  intro g
  have g1 : ¬ c < nI 48 := fun z => g (Or.inl z)
  have g2 : c ≤ nI 57 := Classical.byContradiction (fun z => g (Or.inr z))
  rw [Int32.not_lt] at g1
  rw [decide_eq_true g1, decide_eq_true g2] at h
  cases h
theorem dig_yes {v : Nat} (h : v < 10) : isDig (nI (48 + v)) = true := by
  unfold isDig
  rw [decide_eq_true (by rw [nI_natle (by omega) (by omega)]; omega), decide_eq_true (by rw [nI_natle (by omega) (by omega)]; omega)]
  rfl
/-- what the tape says at each place -/
def pkR (tape : Nat → Int32) (L : Nat) (pk : Nat → Int32) : Prop := ∀ p, pk p = if p < L then tape p &&& nI 255 else -1
/-- beyond its end it says nothing -/
def pkE (L : Nat) (pk : Nat → Int32) : Prop := ∀ p, L ≤ p → pk p = -1
theorem pkR_E {tape : Nat → Int32} {L : Nat} {pk : Nat → Int32} (h : pkR tape L pk) : pkE L pk := fun p hp => by rw [h p, if_neg (by omega)]
theorem pkr_lt {L : Nat} {pk : Nat → Int32} (h : pkE L pk) {p c : Nat} (hc : c < 2 ^ 31) (e : pk p = nI c) : p < L := by
  apply Classical.byContradiction
  intro g
  rw [h p (by omega)] at e
  exact m1_ne hc e
theorem pk_dig {L : Nat} {pk : Nat → Int32} (h : pkE L pk) {p : Nat} (e : isDig (pk p) = true) : p < L := by
  obtain ⟨v, hv, e2, -⟩ := dig_cases e
  exact pkr_lt h (by omega) e2
def okP (L : Nat) (F : Nat → ResT) : Prop := ∀ p, p ≤ L → p ≤ (F p).2.1 ∧ (F p).2.1 ≤ L ∧ ((F p).1 = true → p + (F p).2.2.1.length + 1 ≤ (F p).2.1)
theorem pNum_ok {L : Nat} {pk : Nat → Int32} (h : pkE L pk) {p : Nat} (hp : p ≤ L) : p ≤ (pNum pk p).2.1 ∧ (pNum pk p).2.1 ≤ L ∧ ((pNum pk p).1 = true → p + 1 ≤ (pNum pk p).2.1 ∧ (pNum pk p).2.2 < 100) := by
  unfold pNum
  by_cases c1 : isDig (pk p) = true
  · rw [if_pos c1]
    have l1 := pk_dig h c1
    obtain ⟨v, hv, -, e⟩ := dig_cases c1
    by_cases c2 : digV (pk p) ≠ 0 ∧ isDig (pk (p + 1)) = true
    · rw [if_pos c2]
      have l2 := pk_dig h c2.2
      obtain ⟨v2, hv2, -, e2⟩ := dig_cases c2.2
      rw [e, e2]
      show p ≤ p + 2 ∧ p + 2 ≤ L ∧ (true = true → p + 1 ≤ p + 2 ∧ v * 10 + v2 < 100)
      omega
    · rw [if_neg c2, e]
      show p ≤ p + 1 ∧ p + 1 ≤ L ∧ (true = true → p + 1 ≤ p + 1 ∧ v < 100)
      omega
  · rw [if_neg c1]
    exact ⟨Nat.le_refl p, hp, fun z => by cases z⟩
theorem pTail_ok {L : Nat} {pk : Nat → Int32} {F : Nat → ResT} {c : Nat} {op : Bool → Bool → Bool} (h : pkE L pk) (hc : c < 2 ^ 31) (hF : okP L F) : ∀ n (r : ResT) p0, p0 ≤ r.2.1 → r.2.1 ≤ L → (r.1 = true → p0 + r.2.2.1.length + 1 ≤ r.2.1) → p0 ≤ (pTail pk (nI c) op F n r).2.1 ∧ (pTail pk (nI c) op F n r).2.1 ≤ L ∧ ((pTail pk (nI c) op F n r).1 = true → p0 + (pTail pk (nI c) op F n r).2.2.1.length + 1 ≤ (pTail pk (nI c) op F n r).2.1) := by
  intro n
  induction n with
  | zero => intro r p0 h1 h2 h3; exact ⟨h1, h2, h3⟩
  | succ n ih =>
    intro r p0 h1 h2 h3
    rw [pTail]
    by_cases g : r.1 = true ∧ pk r.2.1 = nI c
    · rw [if_pos g]
      have l := pkr_lt h hc g.2
      obtain ⟨o1, o2, o3⟩ := hF (r.2.1 + 1) (by omega)
      refine ih _ p0 ?_ o2 (fun fb => ?_)
      · show p0 ≤ (F (r.2.1 + 1)).2.1
        omega
      · have fb2 : (F (r.2.1 + 1)).1 = true := fb
        have := o3 fb2
        have := h3 g.1
        show p0 + (r.2.2.1 ++ (F (r.2.1 + 1)).2.2.1 ++ [entry (nI c) 0]).length + 1 ≤ (F (r.2.1 + 1)).2.1
        rw [List.length_append, List.length_append, List.length_singleton]
        omega
    · rw [if_neg g]
      exact ⟨h1, h2, h3⟩
theorem pAll_ok {L : Nat} {pk : Nat → Int32} {F : Nat → ResT} (h : pkE L pk) (hF : okP L F) : okP L (pAllF pk F) := fun p hp => pTail_ok h (by omega) hF 120 (F p) p (hF p hp).1 (hF p hp).2.1 (hF p hp).2.2
theorem pAny_ok {L : Nat} {pk : Nat → Int32} {F : Nat → ResT} (h : pkE L pk) (hF : okP L F) : okP L (pAnyF pk F) := fun p hp => pTail_ok h (by omega) (pAll_ok h hF) 120 (pAllF pk F p) p (pAll_ok h hF p hp).1 (pAll_ok h hF p hp).2.1 (pAll_ok h hF p hp).2.2
theorem pFact_ok {L : Nat} {pk : Nat → Int32} (h : pkE L pk) : ∀ d o, okP L (pFact pk d o) := by
  intro d
  induction d with
  | zero => intro o p hp; exact ⟨Nat.le_refl p, hp, fun z => by cases z⟩
  | succ d ih =>
    intro o p hp
    rw [pFact]
    by_cases c1 : pk p = nI 33
    · rw [if_pos c1]
      have l := pkr_lt h (by omega) c1
      by_cases c2 : o = 6
      · rw [if_pos c2]; exact ⟨Nat.le_refl p, hp, fun z => by cases z⟩
      · rw [if_neg c2]
        obtain ⟨o1, o2, o3⟩ := ih (o + 1) (p + 1) (by omega)
        refine ⟨?_, o2, fun fb => ?_⟩
        · show p ≤ (pFact pk d (o + 1) (p + 1)).2.1
          omega
        · have := o3 fb
          show p + ((pFact pk d (o + 1) (p + 1)).2.2.1 ++ [entry (nI 33) 0]).length + 1 ≤ (pFact pk d (o + 1) (p + 1)).2.1
          rw [List.length_append, List.length_singleton]
          omega
    · rw [if_neg c1]
      by_cases c2 : pk p = nI 40
      · rw [if_pos c2]
        have l := pkr_lt h (by omega) c2
        by_cases c3 : o = 6
        · rw [if_pos c3]; exact ⟨Nat.le_refl p, hp, fun z => by cases z⟩
        · rw [if_neg c3]
          obtain ⟨o1, o2, o3⟩ := pAny_ok h (ih (o + 1)) (p + 1) (by omega)
          by_cases c4 : (pAnyF pk (pFact pk d (o + 1)) (p + 1)).1 = true
          · rw [if_pos c4]
            by_cases c5 : pk (pAnyF pk (pFact pk d (o + 1)) (p + 1)).2.1 = nI 41
            · rw [if_pos c5]
              have l2 := pkr_lt h (by omega) c5
              have := o3 c4
              show p ≤ (pAnyF pk (pFact pk d (o + 1)) (p + 1)).2.1 + 1 ∧ (pAnyF pk (pFact pk d (o + 1)) (p + 1)).2.1 + 1 ≤ L ∧ (true = true → p + (pAnyF pk (pFact pk d (o + 1)) (p + 1)).2.2.1.length + 1 ≤ (pAnyF pk (pFact pk d (o + 1)) (p + 1)).2.1 + 1)
              omega
            · rw [if_neg c5]
              refine ⟨?_, o2, fun z => by cases z⟩
              show p ≤ (pAnyF pk (pFact pk d (o + 1)) (p + 1)).2.1
              omega
          · rw [if_neg c4]
            refine ⟨?_, o2, fun z => by cases z⟩
            show p ≤ (pAnyF pk (pFact pk d (o + 1)) (p + 1)).2.1
            omega
      · rw [if_neg c2]
        have num : ∀ sg, p + 2 ≤ L → p ≤ (numRes sg (pNum pk (p + 2))).2.1 ∧ (numRes sg (pNum pk (p + 2))).2.1 ≤ L ∧ ((numRes sg (pNum pk (p + 2))).1 = true → p + (numRes sg (pNum pk (p + 2))).2.2.1.length + 1 ≤ (numRes sg (pNum pk (p + 2))).2.1) := by
          intro sg hl
          obtain ⟨o1, o2, o3⟩ := pNum_ok h hl
          refine ⟨?_, o2, fun fb => ?_⟩
          · show p ≤ (pNum pk (p + 2)).2.1
            omega
          · have := (o3 fb).1
            show p + 1 + 1 ≤ (pNum pk (p + 2)).2.1
            omega
        by_cases c3 : pk p = nI 104
        · rw [if_pos c3]
          have l := pkr_lt h (by omega) c3
          by_cases c4 : pk (p + 1) = nI 60
          · rw [if_pos c4]; exact num _ (pkr_lt h (by omega) c4)
          · rw [if_neg c4]
            by_cases c5 : pk (p + 1) = nI 62
            · rw [if_pos c5]; exact num _ (pkr_lt h (by omega) c5)
            · rw [if_neg c5]; exact ⟨Nat.le_succ p, (show p + 1 ≤ L by omega), fun z => by cases z⟩
        · rw [if_neg c3]
          by_cases c4 : pk p = nI 115 ∨ pk p = nI 103 ∨ pk p = nI 109 ∨ pk p = nI 112
          · rw [if_pos c4]
            have l : p < L := by
              rcases c4 with c | c | c | c <;> exact pkr_lt h (by omega) c
            by_cases c5 : pk (p + 1) = nI 61
            · rw [if_pos c5]; exact num _ (pkr_lt h (by omega) c5)
            · rw [if_neg c5]; exact ⟨Nat.le_succ p, (show p + 1 ≤ L by omega), fun z => by cases z⟩
          · rw [if_neg c4]; exact ⟨Nat.le_refl p, hp, fun z => by cases z⟩
/-- the code behind w is l, and what stood ahead stands -/
def appC (code : Nat → Int32) (w : Nat) (l : List Int32) (code' : Nat → Int32) : Prop := (∀ i, i < w → code' i = code i) ∧ ∀ i x, l[i]? = some x → code' (w + i) = x
theorem appC_nil {code : Nat → Int32} {w : Nat} : appC code w [] code := ⟨fun _ _ => rfl, fun i x h => by cases h⟩
theorem appC_app {code c1 c2 : Nat → Int32} {w : Nat} {l m : List Int32} (h1 : appC code w l c1) (h2 : appC c1 (w + l.length) m c2) : appC code w (l ++ m) c2 := by
  refine ⟨fun i hi => by rw [h2.1 i (by omega)]; exact h1.1 i hi, fun i x hx => ?_⟩
  rcases Nat.lt_or_ge i l.length with q | q
  · rw [List.getElem?_append_left q] at hx
    rw [h2.1 _ (by omega)]
    exact h1.2 i x hx
  · rw [List.getElem?_append_right q] at hx
    have := h2.2 _ x hx
    rw [show w + l.length + (i - l.length) = w + i from by omega] at this
    exact this
theorem appC_one {code : Nat → Int32} {w : Nat} {x : Int32} : appC code w [x] (upd code w x) := by
  refine ⟨fun i hi => updne (by omega), fun i y hy => ?_⟩
  cases i with
  | zero => rw [Nat.add_zero, upde]; cases hy; rfl
  | succ i => cases hy
theorem appC_snoc {code c1 : Nat → Int32} {w : Nat} {l m : List Int32} {x : Int32} (h : appC code w (l ++ m) c1) : appC code w (l ++ m ++ [x]) (upd c1 (w + l.length + m.length) x) := by
  refine appC_app h ?_
  rw [List.length_append, ← Nat.add_assoc]
  exact appC_one
def finR (Q : Int32 → (Nat → Int32) → Int32 → Int32 → Prop) (code : Nat → Int32) (w : Nat) (r : ResT) : Prop := (r.1 = true → ∀ code', appC code w r.2.2.1 code' → Q (nI 1) code' (nI (w + r.2.2.1.length)) (nI r.2.1)) ∧ (r.1 = false → ∀ code' w', Q (nI 0) code' w' (nI r.2.1))
def goodR (wF : fpR) (pk tape : Nat → Int32) (L o : Nat) (F : Nat → ResT) : Prop := ∀ p w code Q, p ≤ L → w ≤ p → finR Q code w (F p) → wF (nI o) tape code (nI w) (nI L) (nI p) Q
theorem cls_peek {pk tape : Nat → Int32} {L p : Nat} (hL : L ≤ 120) (hk : pkR tape L pk) (hp : p ≤ 200) : f_X8_peek tape (nI L) (nI p) = pk p ∧ ok_X8_peek tape (nI L) (nI p) := by
  refine ⟨?_, fun _ h1 h2 => ?_⟩
  · unfold f_X8_peek
    rw [if_neg (nI_pos (by omega)), hk p]
    have cN : (nI L ≤ nI p) = (L ≤ p) := nI_natle (by omega) (by omega)
    by_cases c : p < L
    · rw [if_pos c, if_neg (fun z => by have := Eq.mp cN z; omega), if_neg (by rw [nI_natle (by omega) (by omega)]; omega), nI_clamp (by omega)]
    · rw [if_neg c, if_pos (Eq.mpr cN (by omega))]
  · rw [nI_natle (by omega) (by omega)] at h1
    exact vp_in_nI (by omega) (by omega)
theorem cls_skip {pk tape : Nat → Int32} {L p : Nat} {c : Int32} {Q : Int32 → Int32 → Prop} (hL : L ≤ 120) (hk : pkR tape L pk) (hp : p ≤ L) (h1 : pk p = c → Q (nI 1) (nI (p + 1))) (h0 : ¬ pk p = c → Q (nI 0) (nI p)) : wp_X8_skip c tape (nI L) (nI p) Q := by
  obtain ⟨e, ok⟩ := cls_peek (p := p) hL hk (by omega)
  unfold wp_X8_skip
  rw [e, nI_add]
  exact ⟨ok, h1, h0⟩
theorem cls_write {code : Nat → Int32} {w : Nat} {c : Int32} {v : Nat} {Q : Int32 → (Nat → Int32) → Int32 → Prop} (hw : w < 120) (hQ : Q (nI 1) (upd code w (entry c v)) (nI (w + 1))) : wp_X8_write c (nI v) code (nI w) Q := by
  unfold wp_X8_write
  rw [nI_clamp (by omega), nI_add]
  exact ⟨fun _ => ⟨vp_in_nI (by omega) (by omega), hQ⟩, fun z => absurd (by rw [nI_natlt (by omega) (by omega)]; exact hw) z⟩
theorem cls_num {pk tape : Nat → Int32} {L p w : Nat} {sg : Int32} {code : Nat → Int32} {Q : Int32 → (Nat → Int32) → Int32 → Int32 → Prop} (hL : L ≤ 120) (hk : pkR tape L pk) (hp : p ≤ L) (hw : w ≤ p) (hQ : finR Q code w (numRes sg (pNum pk p))) : wp_X8_readNumber sg tape code (nI w) (nI L) (nI p) Q := by
  obtain ⟨e, ok⟩ := cls_peek (p := p) hL hk (by omega)
  obtain ⟨e', ok'⟩ := cls_peek (p := p + 1) hL hk (by omega)
  unfold wp_X8_readNumber
  rw [nI_add, e, e']
  refine ⟨ok, fun x hx => ?_⟩
  subst hx
  unfold pNum at hQ
  by_cases c1 : isDig (pk p) = true
  · rw [if_pos c1] at hQ
    have l1 := pk_dig (pkR_E hk) c1
    obtain ⟨v, hv, e1, e2⟩ := dig_cases c1
    rw [e2] at hQ
    rw [e1]
    refine ⟨fun z => ?_, fun _ => ⟨ok', fun x hx => ?_⟩⟩
    · rw [nI_natlt (by omega) (by omega), nI_natle (by omega) (by omega)] at z
      omega
    · subst hx
      rw [nI_subL (by omega), show 48 + v - 48 = v from by omega, nIz (by omega), nI_add]
      have wr : ∀ val pos, finR Q code w (true, pos, [entry sg val], factSem sg val) → wk_X8_readNumber_79 sg code (nI w) Q (nI val) (nI pos) := by
        intro val pos hf
        unfold wk_X8_readNumber_79
        exact cls_write (by omega) ⟨zb1, hf.1 rfl _ appC_one⟩
      by_cases c2 : v ≠ 0 ∧ isDig (pk (p + 1)) = true
      · rw [if_pos c2] at hQ
        obtain ⟨v2, hv2, e3, e4⟩ := dig_cases c2.2
        rw [e4] at hQ
        rw [e3]
        refine ⟨fun _ x hx => ?_, fun z => absurd ⟨c2.1, by rw [nI_natlt (by omega) (by omega)]; omega, by rw [nI_natlt (by omega) (by omega)]; omega⟩ z⟩
        rw [hx, nI_mul, nI_add, nI_subL (by omega), show v * 10 + (48 + v2) - 48 = v * 10 + v2 from by omega]
        exact wr _ _ hQ
      · rw [if_neg c2] at hQ
        refine ⟨fun z => absurd ⟨z.1, ?_⟩ c2, fun _ => wr _ _ hQ⟩
        apply Classical.byContradiction
        intro nd
        have nd2 : isDig (pk (p + 1)) = false := Bool.eq_false_iff.mpr nd
        rcases dig_no nd2 with q | q
        · exact z.2.1 q
        · exact q (Int32.not_lt.mp z.2.2)
  · rw [if_neg c1] at hQ
    have nd : isDig (pk p) = false := Bool.eq_false_iff.mpr c1
    exact ⟨fun _ => hQ.2 rfl _ _, fun z => absurd (dig_no nd) z⟩
