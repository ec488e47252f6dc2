theorem o01 {c : Prop} [Decidable c] : (if c then nI 0 else nI 1) = nI 0 ∨ (if c then nI 0 else nI 1) = nI 1 := by
  by_cases g : c
  · rw [if_pos g]; exact Or.inl rfl
  · rw [if_neg g]; exact Or.inr rfl
theorem o10 {c : Prop} [Decidable c] : (if c then nI 1 else nI 0) = nI 0 ∨ (if c then nI 1 else nI 0) = nI 1 := by
  by_cases g : c
  · rw [if_pos g]; exact Or.inr rfl
  · rw [if_neg g]; exact Or.inl rfl
theorem e01 {c d : Prop} [Decidable c] [Decidable d] : (if c then nI 0 else if d then nI 0 else nI 1) = nI 0 ∨ (if c then nI 0 else if d then nI 0 else nI 1) = nI 1 := by
  by_cases g : c
  · rw [if_pos g]; exact Or.inl rfl
  · rw [if_neg g]; exact o01
theorem s01 {c d : Prop} [Decidable c] [Decidable d] : (if c then (if d then nI 0 else nI 1) else nI 1) = nI 0 ∨ (if c then (if d then nI 0 else nI 1) else nI 1) = nI 1 := by
  by_cases g : c
  · rw [if_pos g]; exact o01
  · rw [if_neg g]; exact Or.inr rfl
/-- what the row says of a text's places -/
def hereR (s : Nat → Int32) (t L : Nat) (pk : Nat → Int32) : Prop := t < 16 ∧ L ≤ 120 ∧ s (4450 + t) = nI L ∧ ∀ p, pk p = if p < L then s (4750 + 120 * t + p) else -1
theorem here_E {s pk : Nat → Int32} {t L : Nat} (h : hereR s t L pk) : pkE L pk := fun p hp => by rw [h.2.2.2 p, if_neg (by omega)]
theorem here_S {s : Nat → Int32} {t L : Nat} (ht : t < 16) (hL : L ≤ 120) (h : s (4450 + t) = nI L) : hereR s t L (pkS s t) := by
  refine ⟨ht, hL, h, fun p => ?_⟩
  unfold pkS
  rw [h, nI_clamp (by omega)]
theorem here_eq {s pk : Nat → Int32} {t L p : Nat} (h : hereR s t L pk) (hp : p ≤ 200) : f_X12_here s (nI t) (nI p) = pk p ∧ ok_X12_here s (nI t) (nI p) := by
  obtain ⟨ht, hL, e, hk⟩ := h
  unfold f_X12_here ok_X12_here
  rw [nI_add, nI_mul, nI_add, nI_add, nI_clamp (by omega), nI_clamp (by omega), e, hk p]
  have cN : (nI L ≤ nI p) = (L ≤ p) := nI_natle (by omega) (by omega)
  refine ⟨?_, vp_in_nI (by omega) (by omega), fun z => ?_⟩
  · by_cases c : p < L
    · rw [if_pos c, if_neg (fun z => by have := Eq.mp cN z; omega)]
    · rw [if_neg c, if_pos (Eq.mpr cN (by omega))]
  · have : ¬ L ≤ p := fun q => z (Eq.mpr cN q)
    exact vp_in_nI (by omega) (by omega)
theorem zb_b (b : Bool) : zb (nI (if b = true then 1 else 0)) := by
  cases b
  · exact zb0
  · exact zb1
def finT (Q : Int32 → Int32 → Int32 → Int32 → Prop) (s : Nat → Int32) (o a : Nat) (r : ResT) : Prop := (r.1 = true → Q (nI (if r.2.2.2 (gS s) a then 1 else 0)) (nI r.2.1) (nI 0) (nI o)) ∧ (r.1 = false → ∀ v w, (v = nI 0 ∨ v = nI 1) → Q v (nI r.2.1) (nI 1) w)
def goodT (wF : fpT) (s : Nat → Int32) (t L o a : Nat) (F : Nat → ResT) : Prop := ∀ p Q, p ≤ L → finT Q s o a (F p) → wF s (nI t) (nI p) (nI 0) (nI o) (nI a) Q
theorem mod_must {s pk : Nat → Int32} {t L p : Nat} {c : Int32} {Q : Int32 → Int32 → Prop} (h : hereR s t L pk) (hp : p ≤ L) (h1 : pk p = c → Q (nI (p + 1)) (nI 0)) (h0 : ¬ pk p = c → Q (nI p) (nI 1)) : wp_X12_must c s (nI t) (nI p) (nI 0) Q := by
  have hL := h.2.1
  obtain ⟨e, ok⟩ := here_eq h (p := p) (by omega)
  unfold wp_X12_must
  rw [e]
  refine ⟨fun _ => ok, fun y1 hy1 y2 hy2 => ?_⟩
  rw [if_pos (of_eq_true nI0eq)] at hy1
  by_cases c1 : pk p = c
  · rw [if_pos c1] at hy1
    rw [hy1, if_pos (of_eq_true nI0eq)] at hy2
    rw [hy1, hy2, nI_add]; exact h1 c1
  · rw [if_neg c1] at hy1
    rw [hy1, if_neg (by rw [nI1ne]; exact id)] at hy2
    rw [hy1, hy2, nI_add]; exact h0 c1
theorem mod_must1 {s : Nat → Int32} {c r : Int32} {p : Nat} {Q : Int32 → Int32 → Prop} (h1 : Q (nI p) (nI 1)) : wp_X12_must c s r (nI p) (nI 1) Q := by
  unfold wp_X12_must
  refine ⟨fun z => absurd z (by rw [nI1ne]; exact id), fun y1 hy1 y2 hy2 => ?_⟩
  rw [if_neg (by rw [nI1ne]; exact id)] at hy1
  rw [hy1, if_neg (by rw [nI1ne]; exact id)] at hy2
  rw [hy1, hy2, nI_add]; exact h1
theorem in_dig {c : Int32} : (f_X12_in c (nI 48) (nI 57) = 0) = (isDig c = false) := by
  rw [in_def]
  apply propext
  constructor
  · intro h
    apply Bool.eq_false_iff.mpr
    intro d
    obtain ⟨v, hv, rfl, -⟩ := dig_cases d
    rw [if_neg (by rw [nI_natlt (by omega) (by omega)]; omega), if_neg (by rw [nI_natlt (by omega) (by omega)]; omega)] at h
    rw [nI1ne] at h
    exact h
  · intro h
    rcases dig_no h with q | q
    · rw [if_pos q]; rfl
    · by_cases c1 : c < nI 48
      · rw [if_pos c1]; rfl
      · rw [if_neg c1, if_pos (Int32.not_le.mp q)]; rfl
theorem mod_num {s pk : Nat → Int32} {t L p : Nat} {Q : Int32 → Int32 → Int32 → Prop} (h : hereR s t L pk) (hp : p ≤ L) (h1 : (pNum pk p).1 = true → Q (nI (pNum pk p).2.2) (nI (pNum pk p).2.1) (nI 0)) (h0 : (pNum pk p).1 = false → Q (nI 0) (nI (pNum pk p).2.1) (nI 1)) : wp_X12_number s (nI t) (nI p) (nI 0) Q := by
  have hL := h.2.1
  obtain ⟨e, ok⟩ := here_eq h (p := p) (by omega)
  obtain ⟨e', ok'⟩ := here_eq h (p := p + 1) (by omega)
  obtain ⟨e'', ok''⟩ := here_eq h (p := p + 2) (by omega)
  unfold wp_X12_number
  rw [e]
  refine ⟨fun _ => ok, fun y1 hy1 => ⟨3, ?_⟩⟩
  rw [if_pos (of_eq_true nI0eq)] at hy1
  unfold pNum at h1 h0
  rw [wl_X12_number_34]
  unfold wb_X12_number_34
  rw [e]
  by_cases c1 : isDig (pk p) = true
  · have c1n : ¬ f_X12_in (pk p) (nI 48) (nI 57) = 0 := by rw [in_dig, c1]; decide
    rw [if_neg c1n] at hy1
    subst hy1
    rw [if_pos c1] at h1 h0
    obtain ⟨v, hv, e1, e2⟩ := dig_cases c1
    refine ⟨fun _ _ => ok, fun _ => ⟨fun _ => ⟨ok, fun x hx => ?_⟩, fun z => absurd (Or.inl (of_eq_true nI0eq)) z⟩, fun z => absurd ⟨by decide, of_eq_true nI0eq, c1n⟩ z⟩
    rw [e1, nI_mul, nI_add, nI_subL (by omega), show 10 * 0 + (48 + v) - 48 = v from by omega] at hx
    rw [hx, nI_add, nI_add, wl_X12_number_34]
    unfold wb_X12_number_34
    rw [e', le_0 (by omega)]
    rw [e2] at h1 h0
    refine ⟨fun _ _ => ok', fun z => ⟨fun z2 => ⟨ok', fun x hx => ?_⟩, fun z2 => ?_⟩, fun z => ?_⟩
    · have d2 : isDig (pk (p + 1)) = true := by
        cases hb : isDig (pk (p + 1))
        · exact absurd (by rw [in_dig]; exact hb) z.2.2
        · rfl
      have v0 : v ≠ 0 := z2.elim (fun q => absurd q (by decide)) id
      rw [if_pos ⟨v0, d2⟩] at h1 h0
      obtain ⟨v2, hv2, e3, e4⟩ := dig_cases d2
      rw [e4] at h1
      rw [e3, nI_mul, nI_add, nI_subL (by omega), show 10 * v + (48 + v2) - 48 = v * 10 + v2 from by omega] at hx
      rw [hx, nI_add, nI_add, wl_X12_number_34]
      unfold wb_X12_number_34
      exact ⟨fun q => absurd (by decide) q, fun q => absurd (by decide) q.1, fun _ => h1 rfl⟩
    · have v0 : v = 0 := Classical.byContradiction (fun q => z2 (Or.inr q))
      rw [if_neg (fun q => q.1 v0)] at h1
      exact h1 rfl
    · have nd : ¬ isDig (pk (p + 1)) = true := by
        intro d
        exact z ⟨by decide, of_eq_true nI0eq, by rw [in_dig, d]; decide⟩
      rw [if_neg (fun q => nd q.2)] at h1
      exact h1 rfl
  · have c1f : isDig (pk p) = false := Bool.eq_false_iff.mpr c1
    have c1n : f_X12_in (pk p) (nI 48) (nI 57) = 0 := by rw [in_dig]; exact c1f
    rw [if_pos c1n] at hy1
    subst hy1
    rw [if_neg c1] at h0
    exact ⟨fun _ z => absurd z (by rw [nI1ne]; exact id), fun z => absurd z.2.1 (by rw [nI1ne]; exact id), fun _ => h0 rfl⟩
theorem mod_num1 {s : Nat → Int32} {r : Int32} {p : Nat} {Q : Int32 → Int32 → Int32 → Prop} (h0 : Q (nI 0) (nI p) (nI 1)) : wp_X12_number s r (nI p) (nI 1) Q := by
  unfold wp_X12_number
  refine ⟨fun z => absurd z (by rw [nI1ne]; exact id), fun y1 hy1 => ⟨1, ?_⟩⟩
  rw [if_neg (by rw [nI1ne]; exact id)] at hy1
  subst hy1
  rw [wl_X12_number_34]
  unfold wb_X12_number_34
  exact ⟨fun _ z => absurd z (by rw [nI1ne]; exact id), fun z => absurd z.2.1 (by rw [nI1ne]; exact id), fun _ => h0⟩
theorem mod_tail_every {pk s : Nat → Int32} {t L o a : Nat} {F : Nat → ResT} {wF : fpT} {Q : Int32 → Int32 → Int32 → Int32 → Prop} (hk : hereR s t L pk) (hF : okP L F) (hg : goodT (wF) s t L o a F) : ∀ n (r : ResT) (v iw op : Int32), (r.1 = true → v = nI (if r.2.2.2 (gS s) a then 1 else 0) ∧ iw = nI 0 ∧ op = nI o) → (r.1 = false → (v = nI 0 ∨ v = nI 1) ∧ iw = nI 1) → 120 ≤ r.2.1 + n → r.2.1 ≤ L → finT Q s o a (pTail pk (nI 38) and F n r) → wl_X12_every_5 s (nI t) (nI a) wF Q (n + 1) v (nI r.2.1) iw op := by
  intro n
  induction n with
  | zero =>
    intro r v iw op h1 h2 h3 h4 hQ
    have hL := hk.2.1
    have e := here_eq hk (p := r.2.1) (by omega)
    have ne : pk r.2.1 ≠ nI 38 := fun z => by
      have := pkr_lt (here_E hk) (by omega) z
      omega
    rw [wl_X12_every_5]
    unfold wb_X12_every_5
    rw [e.1]
    refine ⟨fun _ => e.2, fun z => absurd z.2 ne, fun _ => ?_⟩
    cases hb : r.1
    · obtain ⟨g1, g2⟩ := h2 hb
      refine ⟨?_, ?_⟩
      · rcases g1 with g1 | g1 <;> rw [g1]
        · exact zb0
        · exact zb1
      · rw [g2]; exact hQ.2 hb v op g1
    · obtain ⟨g1, g2, g3⟩ := h1 hb
      rw [g1, g2, g3]
      exact ⟨zb_b _, hQ.1 hb⟩
  | succ n ih =>
    intro r v iw op h1 h2 h3 h4 hQ
    have hL := hk.2.1
    have e := here_eq hk (p := r.2.1) (by omega)
    rw [wl_X12_every_5]
    unfold wb_X12_every_5
    rw [e.1]
    cases hb : r.1
    · obtain ⟨g1, g2⟩ := h2 hb
      rw [pTail, if_neg (fun z => by rw [hb] at z; cases z.1)] at hQ
      refine ⟨fun _ => e.2, fun z => absurd z.1 (by rw [g2, nI1ne]; exact id), fun _ => ⟨?_, ?_⟩⟩
      · rcases g1 with g1 | g1 <;> rw [g1]
        · exact zb0
        · exact zb1
      · rw [g2]; exact hQ.2 hb v op g1
    · obtain ⟨g1, g2, g3⟩ := h1 hb
      subst g1 g2 g3
      refine ⟨fun _ => e.2, fun z => ?_, fun z => ?_⟩
      · rw [pTail, if_pos ⟨hb, z.2⟩] at hQ
        have hlt := pkr_lt (here_E hk) (by omega) z.2
        have hok := hF (r.2.1 + 1) (by omega)
        rw [nI_add]
        refine hg (r.2.1 + 1) _ (by omega) ⟨fun fb y hy => ?_, fun fb v' w' hv' y hy => ?_⟩
        · refine ih ((F (r.2.1 + 1)).1, (F (r.2.1 + 1)).2.1, r.2.2.1 ++ (F (r.2.1 + 1)).2.2.1 ++ [entry (nI 38) 0], fun g a => and (r.2.2.2 g a) ((F (r.2.1 + 1)).2.2.2 g a)) y (nI 0) (nI o) (fun _ => ⟨?_, rfl, rfl⟩) (fun z => absurd (fb.symm.trans z) (by decide)) (by show 120 ≤ (F (r.2.1 + 1)).2.1 + n; omega) hok.2.1 hQ
          rw [hy]
          show _ = nI (if and (r.2.2.2 (gS s) a) ((F (r.2.1 + 1)).2.2.2 (gS s) a) = true then 1 else 0)
          cases r.2.2.2 (gS s) a <;> cases (F (r.2.1 + 1)).2.2.2 (gS s) a <;> decide
        · refine ih ((F (r.2.1 + 1)).1, (F (r.2.1 + 1)).2.1, r.2.2.1 ++ (F (r.2.1 + 1)).2.2.1 ++ [entry (nI 38) 0], fun g a => and (r.2.2.2 g a) ((F (r.2.1 + 1)).2.2.2 g a)) y (nI 1) w' (fun z => absurd (fb.symm.trans z) (by decide)) (fun _ => ⟨?_, rfl⟩) (by show 120 ≤ (F (r.2.1 + 1)).2.1 + n; omega) hok.2.1 hQ
          rw [hy]
          first | exact e01 | exact s01
      · have ne : ¬ pk r.2.1 = nI 38 := fun q => z ⟨of_eq_true nI0eq, q⟩
        rw [pTail, if_neg (fun q => ne q.2)] at hQ
        exact ⟨zb_b _, hQ.1 hb⟩
theorem mod_every {pk s : Nat → Int32} {t L o a : Nat} {F : Nat → ResT} {wF : fpT} (hk : hereR s t L pk) (hF : okP L F) (hg : goodT (wF) s t L o a F) : goodT (wr_X12_every wF) s t L o a (fun p => pTail pk (nI 38) and F 120 (F p)) := by
  intro p Q hp hQ
  unfold wr_X12_every
  have hok := hF p hp
  refine hg p _ hp ⟨fun fb => ⟨121, ?_⟩, fun fb v w hv => ⟨121, ?_⟩⟩
  · exact mod_tail_every hk hF hg 120 (F p) _ (nI 0) (nI o) (fun _ => ⟨rfl, rfl, rfl⟩) (fun z => absurd (fb.symm.trans z) (by decide)) (by omega) hok.2.1 hQ
  · exact mod_tail_every hk hF hg 120 (F p) v (nI 1) w (fun z => absurd (fb.symm.trans z) (by decide)) (fun _ => ⟨hv, rfl⟩) (by omega) hok.2.1 hQ
theorem mod_tail_some {pk s : Nat → Int32} {t L o a : Nat} {F : Nat → ResT} {wF : fpT} {Q : Int32 → Int32 → Int32 → Int32 → Prop} (hk : hereR s t L pk) (hF : okP L F) (hg : goodT (wr_X12_every wF) s t L o a F) : ∀ n (r : ResT) (v iw op : Int32), (r.1 = true → v = nI (if r.2.2.2 (gS s) a then 1 else 0) ∧ iw = nI 0 ∧ op = nI o) → (r.1 = false → (v = nI 0 ∨ v = nI 1) ∧ iw = nI 1) → 120 ≤ r.2.1 + n → r.2.1 ≤ L → finT Q s o a (pTail pk (nI 124) or F n r) → wl_X12_some_5 s (nI t) (nI a) wF Q (n + 1) v (nI r.2.1) iw op := by
  intro n
  induction n with
  | zero =>
    intro r v iw op h1 h2 h3 h4 hQ
    have hL := hk.2.1
    have e := here_eq hk (p := r.2.1) (by omega)
    have ne : pk r.2.1 ≠ nI 124 := fun z => by
      have := pkr_lt (here_E hk) (by omega) z
      omega
    rw [wl_X12_some_5]
    unfold wb_X12_some_5
    rw [e.1]
    refine ⟨fun _ => e.2, fun z => absurd z.2 ne, fun _ => ?_⟩
    cases hb : r.1
    · obtain ⟨g1, g2⟩ := h2 hb
      refine ⟨?_, ?_⟩
      · rcases g1 with g1 | g1 <;> rw [g1]
        · exact zb0
        · exact zb1
      · rw [g2]; exact hQ.2 hb v op g1
    · obtain ⟨g1, g2, g3⟩ := h1 hb
      rw [g1, g2, g3]
      exact ⟨zb_b _, hQ.1 hb⟩
  | succ n ih =>
    intro r v iw op h1 h2 h3 h4 hQ
    have hL := hk.2.1
    have e := here_eq hk (p := r.2.1) (by omega)
    rw [wl_X12_some_5]
    unfold wb_X12_some_5
    rw [e.1]
    cases hb : r.1
    · obtain ⟨g1, g2⟩ := h2 hb
      rw [pTail, if_neg (fun z => by rw [hb] at z; cases z.1)] at hQ
      refine ⟨fun _ => e.2, fun z => absurd z.1 (by rw [g2, nI1ne]; exact id), fun _ => ⟨?_, ?_⟩⟩
      · rcases g1 with g1 | g1 <;> rw [g1]
        · exact zb0
        · exact zb1
      · rw [g2]; exact hQ.2 hb v op g1
    · obtain ⟨g1, g2, g3⟩ := h1 hb
      subst g1 g2 g3
      refine ⟨fun _ => e.2, fun z => ?_, fun z => ?_⟩
      · rw [pTail, if_pos ⟨hb, z.2⟩] at hQ
        have hlt := pkr_lt (here_E hk) (by omega) z.2
        have hok := hF (r.2.1 + 1) (by omega)
        rw [nI_add]
        refine hg (r.2.1 + 1) _ (by omega) ⟨fun fb y hy => ?_, fun fb v' w' hv' y hy => ?_⟩
        · refine ih ((F (r.2.1 + 1)).1, (F (r.2.1 + 1)).2.1, r.2.2.1 ++ (F (r.2.1 + 1)).2.2.1 ++ [entry (nI 124) 0], fun g a => or (r.2.2.2 g a) ((F (r.2.1 + 1)).2.2.2 g a)) y (nI 0) (nI o) (fun _ => ⟨?_, rfl, rfl⟩) (fun z => absurd (fb.symm.trans z) (by decide)) (by show 120 ≤ (F (r.2.1 + 1)).2.1 + n; omega) hok.2.1 hQ
          rw [hy]
          show _ = nI (if or (r.2.2.2 (gS s) a) ((F (r.2.1 + 1)).2.2.2 (gS s) a) = true then 1 else 0)
          cases r.2.2.2 (gS s) a <;> cases (F (r.2.1 + 1)).2.2.2 (gS s) a <;> decide
        · refine ih ((F (r.2.1 + 1)).1, (F (r.2.1 + 1)).2.1, r.2.2.1 ++ (F (r.2.1 + 1)).2.2.1 ++ [entry (nI 124) 0], fun g a => or (r.2.2.2 g a) ((F (r.2.1 + 1)).2.2.2 g a)) y (nI 1) w' (fun z => absurd (fb.symm.trans z) (by decide)) (fun _ => ⟨?_, rfl⟩) (by show 120 ≤ (F (r.2.1 + 1)).2.1 + n; omega) hok.2.1 hQ
          rw [hy]
          first | exact e01 | exact s01
      · have ne : ¬ pk r.2.1 = nI 124 := fun q => z ⟨of_eq_true nI0eq, q⟩
        rw [pTail, if_neg (fun q => ne q.2)] at hQ
        exact ⟨zb_b _, hQ.1 hb⟩
theorem mod_some {pk s : Nat → Int32} {t L o a : Nat} {F : Nat → ResT} {wF : fpT} (hk : hereR s t L pk) (hF : okP L F) (hg : goodT (wr_X12_every wF) s t L o a F) : goodT (wr_X12_some wF) s t L o a (fun p => pTail pk (nI 124) or F 120 (F p)) := by
  intro p Q hp hQ
  unfold wr_X12_some
  have hok := hF p hp
  refine hg p _ hp ⟨fun fb => ⟨121, ?_⟩, fun fb v w hv => ⟨121, ?_⟩⟩
  · exact mod_tail_some hk hF hg 120 (F p) _ (nI 0) (nI o) (fun _ => ⟨rfl, rfl, rfl⟩) (fun z => absurd (fb.symm.trans z) (by decide)) (by omega) hok.2.1 hQ
  · exact mod_tail_some hk hF hg 120 (F p) v (nI 1) w (fun z => absurd (fb.symm.trans z) (by decide)) (fun _ => ⟨hv, rfl⟩) (by omega) hok.2.1 hQ
theorem mod_any {pk s : Nat → Int32} {t L o a : Nat} {F : Nat → ResT} {wF : fpT} (hk : hereR s t L pk) (hF : okP L F) (hg : goodT wF s t L o a F) : goodT (wr_X12_some wF) s t L o a (pAnyF pk F) := mod_some hk (pAll_ok (here_E hk) hF) (mod_every hk hF hg)
theorem act_side {a : Nat} (ha : a < 10800) : f_X12_sideOf (nI a) = nI (a / 3600) := by
  unfold f_X12_sideOf
  rw [pk_div (by omega) (by omega) (by omega)]
theorem act_spot {a : Nat} (ha : a < 10800) : f_X12_spotOf (nI a) = nI (a / 120 % 30) := by
  unfold f_X12_spotOf
  rw [pk_div (a := a) (by omega) (by omega) (by omega), pk_rem (by omega) (by omega) (by omega)]
theorem act_matter {a : Nat} (ha : a < 10800) : f_X12_matterOf (nI a) = nI (a / 24 % 5) := by
  unfold f_X12_matterOf
  rw [pk_div (a := a) (by omega) (by omega) (by omega), pk_rem (by omega) (by omega) (by omega)]
theorem act_hour {a : Nat} (ha : a < 10800) : f_X12_hourOf (nI a) = nI (a % 24) := by
  unfold f_X12_hourOf
  rw [pk_rem (by omega) (by omega) (by omega)]
theorem b01 {c : Prop} [Decidable c] {b : Bool} (h : b = true ↔ c) : (if c then nI 1 else nI 0) = nI (if b = true then 1 else 0) := by
  by_cases g : c
  · rw [if_pos g, if_pos (h.mpr g)]
  · rw [if_neg g, if_neg (fun z => g (h.mp z))]
theorem mod_fact {pk s : Nat → Int32} {t L a : Nat} (hk : hereR s t L pk) (ha : a < 10800) : ∀ d o, o ≤ 6 → 7 ≤ o + d → goodT (wp_X12_factor d) s t L o a (pFact pk d o) := by
  intro d
  induction d with
  | zero => intro o h1 h2; omega
  | succ d ih =>
    intro o ho hod p Q hp hQ
    have hL := hk.2.1
    obtain ⟨e, ok⟩ := here_eq hk (p := p) (by omega)
    have hE := here_E hk
    show wr_X12_factor (wp_X12_factor d) s (nI t) (nI p) (nI 0) (nI o) (nI a) Q
    unfold wr_X12_factor
    rw [e, nI_add]
    refine ⟨fun _ => ⟨ok, fun hc => ?_, fun hc => ?_⟩, fun z => absurd (of_eq_true nI0eq) z⟩
    · have l : p < L := by rcases hc with c | c <;> exact pkr_lt hE (by omega) c
      rw [pFact] at hQ
      intro y1 hy1 y2 hy2
      have back : ∀ v w, (v = nI 0 ∨ v = nI 1) → ∀ sp, Q v (nI sp) (nI 1) (w - nI 1) → wk_X12_factor_111 s (nI t) (nI p) Q (nI sp) (nI 1) w v := by
        intro v w hv sp hq
        have zv : zb v := by rcases hv with rfl | rfl; exact zb0; exact zb1
        unfold wk_X12_factor_111 wk_X12_factor_124
        exact ⟨fun _ => ⟨zv, hq⟩, fun _ => mod_must1 ⟨zv, hq⟩⟩
      have cN : (nI o = nI 6) = (o = 6) := nI_nateq (by omega) (by omega)
      by_cases c6 : o = 6
      · rw [if_pos (Eq.mpr cN c6)] at hy1
        subst hy1
        rw [if_neg (by rw [nI1ne]; exact id)] at hy2
        subst hy2
        refine ⟨fun z => absurd z (by rw [nI1ne]; exact id), fun _ => ?_⟩
        rw [nI_add]
        refine back _ _ (Or.inl rfl) _ ?_
        by_cases c33 : pk p = nI 33
        · rw [if_pos c33, if_pos c6] at hQ
          exact hQ.2 rfl _ _ (Or.inl rfl)
        · rw [if_neg c33, if_pos (hc.elim (fun z => absurd z c33) id), if_pos c6] at hQ
          exact hQ.2 rfl _ _ (Or.inl rfl)
      · rw [if_neg (fun z => c6 (Eq.mp cN z))] at hy1
        subst hy1
        rw [if_pos (of_eq_true nI0eq)] at hy2
        subst hy2
        refine ⟨fun _ => ⟨fun c33 => ?_, fun c33 => ?_⟩, fun z => absurd (of_eq_true nI0eq) z⟩
        · have c40 : pk p = nI 40 := hc.elim (fun z => absurd z c33) id
          rw [if_neg c33, if_pos c40, if_neg c6] at hQ
          rw [nI_add]
          have hok := pAny_ok hE (pFact_ok hE d (o + 1)) (p + 1) (by omega)
          refine mod_any hk (pFact_ok hE d (o + 1)) (ih (o + 1) (by omega) (by omega)) (p + 1) _ (by omega) ⟨fun fb => ?_, fun fb v w hv => ?_⟩
          · rw [if_pos fb] at hQ
            unfold wk_X12_factor_111 wk_X12_factor_124
            rw [e]
            refine ⟨fun z => absurd c40 z, fun _ => ?_⟩
            have oo : nI (o + 1) - nI 1 = nI o := by rw [nI_subL (by omega), Nat.add_sub_cancel]
            by_cases c5 : pk (pAnyF pk (pFact pk d (o + 1)) (p + 1)).2.1 = nI 41
            · rw [if_pos c5] at hQ
              refine mod_must hk hok.2.1 (fun _ => ⟨zb_b _, ?_⟩) (fun z => absurd c5 z)
              rw [oo]
              exact hQ.1 rfl
            · rw [if_neg c5] at hQ
              refine mod_must hk hok.2.1 (fun z => absurd z c5) (fun _ => ⟨zb_b _, hQ.2 rfl _ _ ?_⟩)
              cases (pAnyF pk (pFact pk d (o + 1)) (p + 1)).2.2.2 (gS s) a
              · exact Or.inl rfl
              · exact Or.inr rfl
          · rw [if_neg (fun z => by rw [fb] at z; cases z)] at hQ
            exact back _ _ hv _ (hQ.2 rfl _ _ hv)
        · rw [if_pos c33, if_neg c6] at hQ
          rw [nI_add]
          have hok := pFact_ok hE d (o + 1) (p + 1) (by omega)
          refine ih (o + 1) (by omega) (by omega) (p + 1) _ (by omega) ⟨fun fb y hy => ?_, fun fb v w hv y hy => ?_⟩
          · unfold wk_X12_factor_111 wk_X12_factor_124
            rw [e]
            refine ⟨fun _ => ?_, fun z => absurd ((nI_eq (by omega) (by omega)).mp (c33.symm.trans z)) (by omega)⟩
            have oo : nI (o + 1) - nI 1 = nI o := by rw [nI_subL (by omega), Nat.add_sub_cancel]
            have q := hQ.1 fb
            have ey : y = nI (if (!((pFact pk d (o + 1) (p + 1)).2.2.2 (gS s) a)) = true then 1 else 0) := by
              rw [hy]
              cases (pFact pk d (o + 1) (p + 1)).2.2.2 (gS s) a <;> decide
            rw [oo, ey]
            exact ⟨zb_b _, q⟩
          · have hy' : y = nI 0 ∨ y = nI 1 := by rw [hy]; exact o10
            exact back _ _ hy' _ (hQ.2 fb _ _ hy')
    · rw [pFact, if_neg (fun z => hc (Or.inl z)), if_neg (fun z => hc (Or.inr z))] at hQ
      refine ⟨fun c104 y1 hy1 y2 hy2 => ?_, fun c104 => ?_⟩
      · rw [if_neg c104] at hQ
        by_cases c4 : pk p = nI 115 ∨ pk p = nI 103 ∨ pk p = nI 109 ∨ pk p = nI 112
        · have l : p < L := by rcases c4 with c | c | c | c <;> exact pkr_lt hE (by omega) c
          have e1 : y1 = nI 0 := by
            rw [hy1]
            by_cases d1 : pk p = nI 115
            · rw [if_pos d1]
            · rw [if_neg d1]
              by_cases d2 : pk p = nI 103
              · rw [if_pos d2]
              · rw [if_neg d2]
                by_cases d3 : pk p = nI 109
                · rw [if_pos d3]
                · rw [if_neg d3, if_pos ((c4.resolve_left d1).resolve_left d2 |>.resolve_left d3)]
          rw [e1, if_pos (of_eq_true nI0eq)] at hy2
          rw [e1, hy2, nI_add]
          rw [if_pos c4] at hQ
          have vin : vp_in (nI 20 + f_X12_spotOf (nI a)) 6700 := by
            rw [act_spot ha, nI_add]
            exact vp_in_nI (by omega) (by omega)
          by_cases c5 : pk (p + 1) = nI 61
          · have l2 := pkr_lt hE (by omega) c5
            rw [if_pos c5] at hQ
            refine mod_must hk (by omega) (fun _ => ?_) (fun z => absurd c5 z)
            refine mod_num (p := p + 2) hk (by omega) (fun fb => ⟨fun _ _ => vin, fun y0 hy0 y hy => ?_⟩) (fun fb => ⟨fun _ _ => vin, fun y0 hy0 y hy => ?_⟩)
            · have hv := ((pNum_ok hE (show p + 2 ≤ L by omega)).2.2 fb).2
              have q := hQ.1 fb
              have ey : y = nI (if factSem (pk p) (pNum pk (p + 2)).2.2 (gS s) a = true then 1 else 0) := by
                rw [hy]
                refine b01 ?_
                rw [hy0]
                unfold factSem
                by_cases d1 : pk p = nI 115
                · rw [if_pos d1, if_pos d1, decide_eq_true_eq, act_side ha, nI_nateq (by omega) (by omega)]
                · rw [if_neg d1, if_neg d1]
                  by_cases d2 : pk p = nI 103
                  · rw [if_pos d2, if_pos d2, decide_eq_true_eq, act_spot ha, nI_add, nI_clamp (by omega)]
                    unfold gS
                    rw [Nat.mod_mod]
                  · rw [if_neg d2, if_neg d2]
                    by_cases d3 : pk p = nI 109
                    · rw [if_pos d3, if_pos d3, decide_eq_true_eq, act_matter ha, nI_nateq (by omega) (by omega)]
                    · rw [if_neg d3, if_neg d3, if_pos ((c4.resolve_left d1).resolve_left d2 |>.resolve_left d3), decide_eq_true_eq, act_spot ha, nI_nateq (by omega) (by omega)]
              rw [ey]
              exact q
            · have hy' : y = nI 0 ∨ y = nI 1 := by rw [hy]; exact o10
              exact hQ.2 fb _ _ hy'
          · rw [if_neg c5] at hQ
            refine mod_must hk (by omega) (fun z => absurd z c5) (fun _ => mod_num1 ⟨fun _ _ => vin, fun y0 hy0 y hy => ?_⟩)
            have hy' : y = nI 0 ∨ y = nI 1 := by rw [hy]; exact o10
            exact hQ.2 rfl _ _ hy'
        · have e1 : y1 = nI 1 := by
            rw [hy1, if_neg (fun z => c4 (Or.inl z)), if_neg (fun z => c4 (Or.inr (Or.inl z))), if_neg (fun z => c4 (Or.inr (Or.inr (Or.inl z)))), if_neg (fun z => c4 (Or.inr (Or.inr (Or.inr z))))]
          rw [e1, if_neg (by rw [nI1ne]; exact id)] at hy2
          rw [e1, hy2, nI_add]
          rw [if_neg c4] at hQ
          refine mod_must1 (mod_num1 ⟨fun _ z => absurd (Or.inr (Or.inl z)) c4, fun y0 hy0 y hy => ?_⟩)
          have hy' : y = nI 0 ∨ y = nI 1 := by rw [hy]; exact o10
          exact hQ.2 rfl _ _ hy'
      · have l := pkr_lt hE (by omega) c104
        obtain ⟨e', ok'⟩ := here_eq hk (p := p + 1) (by omega)
        rw [if_pos c104] at hQ
        rw [nI_add, e']
        refine ⟨ok', fun x hx y1 hy1 y2 hy2 => ?_⟩
        subst hx
        have fin : ∀ sg, (sg = nI 60 ∧ pk (p + 1) = nI 60 ∨ sg = nI 62 ∧ ¬ pk (p + 1) = nI 60) → p + 2 ≤ L → finT Q s o a (numRes sg (pNum pk (p + 2))) → wp_X12_number s (nI t) (nI (p + 2)) (nI 0) (fun r sp iw => ∀ y, y = (if pk (p + 1) = nI 60 then (if r ≤ f_X12_hourOf (nI a) then nI 0 else nI 1) else (if f_X12_hourOf (nI a) ≤ r then nI 0 else nI 1)) → Q y sp iw (nI o)) := by
          intro sg hsg hl hQ
          refine mod_num hk hl (fun fb y hy => ?_) (fun fb y hy => ?_)
          · have hv := ((pNum_ok hE hl).2.2 fb).2
            have q := hQ.1 fb
            have ey : y = nI (if factSem sg (pNum pk (p + 2)).2.2 (gS s) a = true then 1 else 0) := by
              rw [hy, act_hour ha]
              have c1 : (nI (pNum pk (p + 2)).2.2 ≤ nI (a % 24)) = ((pNum pk (p + 2)).2.2 ≤ a % 24) := nI_natle (by omega) (by omega)
              have c2 : (nI (a % 24) ≤ nI (pNum pk (p + 2)).2.2) = (a % 24 ≤ (pNum pk (p + 2)).2.2) := nI_natle (by omega) (by omega)
              rcases hsg with ⟨rfl, g⟩ | ⟨rfl, g⟩
              · rw [if_pos g]
                have fs : factSem (nI 60) (pNum pk (p + 2)).2.2 (gS s) a = decide (a % 24 < (pNum pk (p + 2)).2.2) := by
                  unfold factSem
                  rw [if_neg (by decide), if_neg (by decide), if_neg (by decide), if_neg (by decide), if_pos rfl]
                rw [fs]
                by_cases z : nI (pNum pk (p + 2)).2.2 ≤ nI (a % 24)
                · have := Eq.mp c1 z
                  rw [if_pos z, if_neg (by rw [decide_eq_true_eq]; omega)]
                · have : ¬ (pNum pk (p + 2)).2.2 ≤ a % 24 := fun y => z (Eq.mpr c1 y)
                  rw [if_neg z, if_pos (by rw [decide_eq_true_eq]; omega)]
              · rw [if_neg g]
                have fs : factSem (nI 62) (pNum pk (p + 2)).2.2 (gS s) a = decide ((pNum pk (p + 2)).2.2 < a % 24) := by
                  unfold factSem
                  rw [if_neg (by decide), if_neg (by decide), if_neg (by decide), if_neg (by decide), if_neg (by decide)]
                rw [fs]
                by_cases z : nI (a % 24) ≤ nI (pNum pk (p + 2)).2.2
                · have := Eq.mp c2 z
                  rw [if_pos z, if_neg (by rw [decide_eq_true_eq]; omega)]
                · have : ¬ a % 24 ≤ (pNum pk (p + 2)).2.2 := fun y => z (Eq.mpr c2 y)
                  rw [if_neg z, if_pos (by rw [decide_eq_true_eq]; omega)]
            rw [ey]
            exact q
          · have hy' : y = nI 0 ∨ y = nI 1 := by
              rw [hy]
              split
              · exact o01
              · exact o01
            exact hQ.2 fb _ _ hy'
        by_cases c4 : pk (p + 1) = nI 60
        · have l2 := pkr_lt hE (by omega) c4
          rw [if_pos c4] at hy1
          rw [hy1, if_pos (of_eq_true nI0eq)] at hy2
          rw [hy1, hy2, nI_add]
          have hQ2 := hQ
          rw [if_pos c4] at hQ2
          exact fin _ (Or.inl ⟨rfl, c4⟩) (by omega) hQ2
        · rw [if_neg c4] at hy1
          have hQ2 := hQ
          rw [if_neg c4] at hQ2
          by_cases c5 : pk (p + 1) = nI 62
          · have l2 := pkr_lt hE (by omega) c5
            rw [if_pos c5] at hy1
            rw [hy1, if_pos (of_eq_true nI0eq)] at hy2
            rw [hy1, hy2, nI_add]
            rw [if_pos c5] at hQ2
            exact fin _ (Or.inr ⟨rfl, c4⟩) (by omega) hQ2
          · rw [if_neg c5] at hy1
            rw [hy1, if_neg (by rw [nI1ne]; exact id)] at hy2
            rw [hy1, hy2, nI_add]
            rw [if_neg c5] at hQ2
            refine mod_num1 (fun y hy => hQ2.2 rfl _ _ ?_)
            rw [hy]
            split
            · exact o01
            · exact o01
theorem mod_sm {pk s : Nat → Int32} {t L a : Nat} (hk : hereR s t L pk) (ha : a < 10800) : goodT wp_X12_some s t L 0 a (pSome pk) := mod_any hk (pFact_ok (here_E hk) 8 0) (mod_fact hk ha 8 0 (by omega) (by omega))
