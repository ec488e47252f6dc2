/-- the last k below n of which it holds -/
def lastK (P : Nat → Bool) : Nat → Option Nat
  | 0 => none
  | n + 1 => if P n then some n else lastK P n
theorem lastK_lt {P : Nat → Bool} : ∀ n k, lastK P n = some k → k < n ∧ P k = true := by
  intro n
  induction n with
  | zero => intro k h; cases h
  | succ n ih =>
    intro k h
    rw [lastK] at h
    by_cases c : P n = true
    · rw [if_pos c] at h
      cases h
      exact ⟨by omega, c⟩
    · rw [if_neg c] at h
      have := ih k h
      exact ⟨by omega, this.2⟩
def lkS (s : Nat → Int32) (t a k : Nat) : Bool := (pSome (pkS s t) (s (4620 + (8 * t + k))).toNatClampNeg).2.2.2 (gS s) a
def cbS (s : Nat → Int32) (t k : Nat) : Bool := decide (s (4490 + (8 * t + k)) = nI 1)
def pickK (cb : Nat → Bool) : Option Nat → Bool
  | none => false
  | some k => cb k
/-- what the text of this slot lets -/
def slF (s : Nat → Int32) (t a : Nat) : Bool := pickK (cbS s t) (lastK (lkS s t a) (s (4470 + t)).toNatClampNeg)
def SlotOK (s : Nat → Int32) (t c : Nat) : Prop := c ≤ 8 ∧ s (4470 + t) = nI c ∧ (∃ L, L ≤ 120 ∧ s (4450 + t) = nI L) ∧ ∀ k, k < c → (∃ b : Bool, s (4490 + (8 * t + k)) = nI (if b then 1 else 0)) ∧ ∃ p, p ≤ 120 ∧ s (4620 + (8 * t + k)) = nI p ∧ (pSome (pkS s t) p).1 = true
theorem slF_c {s : Nat → Int32} {t c a : Nat} (h : SlotOK s t c) : slF s t a = pickK (cbS s t) (lastK (lkS s t a) c) := by
  unfold slF
  rw [h.2.1, nI_clamp (by have := h.1; omega)]
theorem cbS_b {s : Nat → Int32} {t k : Nat} {b : Bool} (h : s (4490 + (8 * t + k)) = nI (if b then 1 else 0)) : cbS s t k = b := by
  unfold cbS
  rw [h]
  cases b <;> decide
theorem lkS_p {s : Nat → Int32} {t k a p : Nat} (hp : p ≤ 120) (h : s (4620 + (8 * t + k)) = nI p) : lkS s t a k = (pSome (pkS s t) p).2.2.2 (gS s) a := by
  unfold lkS
  rw [h, nI_clamp (by omega)]
theorem SlotOK_T {s : Nat → Int32} {t len : Nat} {row : Nat → Int32} (h : TextOK s t len row) : ∃ c, SlotOK s t c := by
  obtain ⟨L, cl, h1, h2, h3, h4, h5, -⟩ := h
  refine ⟨cl.length, h3, h4, ⟨L, h1, h2⟩, fun k hk => ?_⟩
  have := h5 k (cl[k]).1 (cl[k]).2 (by rw [List.getElem?_eq_getElem hk])
  exact ⟨⟨_, this.1⟩, _, this.2.2.1, this.2.1, this.2.2.2⟩
theorem fold_last {s : Nat → Int32} {t a : Nat} {ll : List (Bool × Nat)} (h : ∀ k b p, ll[k]? = some (b, p) → s (4490 + (8 * t + k)) = nI (if b then 1 else 0) ∧ s (4620 + (8 * t + k)) = nI p ∧ p ≤ 120 ∧ (pSome (pkS s t) p).1 = true) : ∀ n, n ≤ ll.length → (ll.take n).foldl (fun x q => if (pSome (pkS s t) q.2).2.2.2 (gS s) a then q.1 else x) false = pickK (cbS s t) (lastK (lkS s t a) n) := by
  intro n
  induction n with
  | zero => intro _; rfl
  | succ n ih =>
    intro hn
    have e := List.getElem?_eq_getElem (l := ll) (i := n) (by omega)
    have := h n (ll[n]).1 (ll[n]).2 e
    rw [List.take_succ, List.foldl_append, ih (by omega), e]
    show (if (pSome (pkS s t) (ll[n]).2).2.2.2 (gS s) a = true then (ll[n]).1 else _) = _
    rw [lastK, lkS_p this.2.2.1 this.2.1]
    by_cases c : (pSome (pkS s t) (ll[n]).2).2.2.2 (gS s) a = true
    · rw [if_pos c, if_pos c]
      exact (cbS_b this.1).symm
    · rw [if_neg c, if_neg c]
theorem ICT_of {n : Nat} {letBy letStamp : Nat → Int32} {stamp : Int32} {s : Nat → Int32} : ICacheT n letBy letStamp stamp s ↔ ∃ z, z ≤ n + 1 ∧ 1 ≤ z ∧ stamp = nI z ∧ ∀ t, t < 16 → ∃ y, y ≤ z ∧ letStamp t = nI y ∧ (y = z → ∃ c, SlotOK s t c ∧ ∀ a, a < 10800 → letBy (10800 * t + a) = nI (if slF s t a then 1 else 0)) := by
  constructor
  · rintro ⟨z, h1, h2, h3, h4⟩
    refine ⟨z, h1, h2, h3, fun t ht => ?_⟩
    obtain ⟨y, g1, g2, g3⟩ := h4 t ht
    refine ⟨y, g1, g2, fun e => ?_⟩
    obtain ⟨c, ll, e1, e2, e3, e4, e5, e6⟩ := g3 e
    have ok : SlotOK s t c := by
      refine ⟨e2, e3, e4, fun k hk => ?_⟩
      rw [e1] at hk
      have := e5 k (ll[k]).1 (ll[k]).2 (by rw [List.getElem?_eq_getElem hk])
      exact ⟨⟨_, this.1⟩, _, this.2.2.1, this.2.1, this.2.2.2⟩
    refine ⟨c, ok, fun a ha => ?_⟩
    have f := fold_last (a := a) e5 ll.length (Nat.le_refl _)
    rw [List.take_length, ← e1, ← slF_c ok] at f
    rw [e6 a ha, f]
  · rintro ⟨z, h1, h2, h3, h4⟩
    refine ⟨z, h1, h2, h3, fun t ht => ?_⟩
    obtain ⟨y, g1, g2, g3⟩ := h4 t ht
    refine ⟨y, g1, g2, fun e => ?_⟩
    obtain ⟨c, ok, e6⟩ := g3 e
    have e5 : ∀ k b p, ((List.range c).map (fun k => (cbS s t k, (s (4620 + (8 * t + k))).toNatClampNeg)))[k]? = some (b, p) → s (4490 + (8 * t + k)) = nI (if b then 1 else 0) ∧ s (4620 + (8 * t + k)) = nI p ∧ p ≤ 120 ∧ (pSome (pkS s t) p).1 = true := by
      intro k b p hk
      rw [List.getElem?_map] at hk
      have kc : k < c := by
        apply Classical.byContradiction
        intro g
        rw [List.getElem?_eq_none (by rw [List.length_range]; omega)] at hk
        cases hk
      rw [List.getElem?_range kc] at hk
      cases hk
      obtain ⟨⟨b, x1⟩, p, x2, x3, x4⟩ := ok.2.2.2 k kc
      rw [cbS_b x1, x3, nI_clamp (by omega)]
      exact ⟨x1, rfl, x2, x4⟩
    have len : ((List.range c).map (fun k => (cbS s t k, (s (4620 + (8 * t + k))).toNatClampNeg))).length = c := by
      rw [List.length_map, List.length_range]
    refine ⟨c, _, len.symm, ok.1, ok.2.1, ok.2.2.1, e5, fun a ha => ?_⟩
    have f := fold_last (a := a) e5 _ (Nat.le_refl _)
    rw [List.take_length, len, ← slF_c ok] at f
    rw [e6 a ha, f]
theorem pTail_t {pk : Nat → Int32} {sep : Int32} {op : Bool → Bool → Bool} {F : Nat → ResT} : ∀ n (r : ResT), (pTail pk sep op F n r).1 = true → r.1 = true := by
  intro n
  induction n with
  | zero => intro r h; exact h
  | succ n ih =>
    intro r h
    rw [pTail] at h
    by_cases g : r.1 = true ∧ pk r.2.1 = sep
    · exact g.1
    · rw [if_neg g] at h; exact h
theorem pSome_lt {pk : Nat → Int32} {L p : Nat} (hE : pkE L pk) (h : (pSome pk p).1 = true) : p < L := by
  apply Classical.byContradiction
  intro g
  have e := hE p (by omega)
  have a := pTail_t _ _ (pTail_t _ _ h)
  rw [pFact, e, if_neg (by decide), if_neg (by decide), if_neg (by decide), if_neg (by decide)] at a
  cases a
def kR (t : Nat) : Option Nat → Int32
  | none => -1
  | some k => nI (8 * t + k)
theorem mod_clauseIn {s : Nat → Int32} {t c a : Nat} {Q : Int32 → Int32 → Int32 → Int32 → Int32 → Int32 → Prop} {r1 r2 r3 r4 r5 : Int32} (ht : t < 16) (hs : SlotOK s t c) (ha : a < 10800) (hQ : ∀ g1 g2 g3 g4 g5, Q (kR t (lastK (lkS s t a) c)) g1 g2 g3 g4 g5) : wp_X12_clauseIn (nI t) (nI a) s r1 r2 r3 r4 r5 Q := by
  unfold wp_X12_clauseIn
  obtain ⟨hc, h1, ⟨L, hL, h2⟩, h3⟩ := hs
  have hk := here_S ht hL h2
  have step : ∀ n k r1 r2 r3 r4 r5, k + n = c → wl_X12_clauseIn_5 (nI t) (nI a) s Q (n + 1) (kR t (lastK (lkS s t a) k)) (nI k) r1 r2 r3 r4 r5 := by
    intro n
    induction n with
    | zero =>
      intro k r1 r2 r3 r4 r5 hn
      rw [wl_X12_clauseIn_5]
      unfold wb_X12_clauseIn_5
      rw [nI_add, nI_clamp (by omega), h1, show k = c from by omega]
      exact ⟨vp_in_nI (by omega) (by omega), fun _ => hQ _ _ _ _ _, fun z => absurd (Int32.le_refl _) z⟩
    | succ n ih =>
      intro k r1 r2 r3 r4 r5 hn
      rw [wl_X12_clauseIn_5]
      unfold wb_X12_clauseIn_5
      obtain ⟨⟨b, x1⟩, p, x2, x3, x4⟩ := h3 k (by omega)
      have pl := pSome_lt (here_E hk) x4
      rw [nI_add, nI_clamp (by omega), h1, nI_mul, nI_add, nI_add, nI_clamp (by omega), Nat.add_assoc, x3, nI_add, nI_add]
      refine ⟨vp_in_nI (by omega) (by omega), fun z => absurd z (by rw [nI_natle (by omega) (by omega)]; omega), fun _ => ⟨vp_in_nI (by omega) (by omega), ?_⟩⟩
      refine mod_sm hk ha p _ (by omega) ⟨fun _ y hy => ?_, fun z => absurd (x4.symm.trans z) (by decide)⟩
      rw [hy]
      have e : (if nI (if (pSome (pkS s t) p).2.2.2 (gS s) a = true then 1 else 0) = 0 then kR t (lastK (lkS s t a) k) else nI (8 * t + k)) = kR t (lastK (lkS s t a) (k + 1)) := by
        rw [lastK, lkS_p x2 x3]
        by_cases cc : (pSome (pkS s t) p).2.2.2 (gS s) a = true
        · rw [if_pos cc, if_pos cc, if_neg (by rw [nI1ne]; exact id)]
          rfl
        · rw [if_neg cc, if_neg cc, if_pos (of_eq_true nI0eq)]
      rw [e]
      exact ih (k + 1) _ _ _ _ _ (by omega)
  exact ⟨_, step c 0 r1 r2 r3 r4 r5 (by omega)⟩
