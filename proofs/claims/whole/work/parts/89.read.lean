theorem cls_tail_All {pk tape : Nat → Int32} {L o : Nat} {F : Nat → ResT} {wF : fpR} {op : Bool → Bool → Bool} {Q : Int32 → (Nat → Int32) → Int32 → Int32 → Prop} {code0 : Nat → Int32} {w0 : Nat} (hL : L ≤ 120) (hk : pkR tape L pk) (hF : okP L F) (hg : goodR (wF) pk tape L o F) : ∀ n i (r : ResT) (code : Nat → Int32) (w : Int32), i + n = 120 → i ≤ r.2.1 → r.2.1 ≤ L → (r.1 = true → appC code0 w0 r.2.2.1 code ∧ w = nI (w0 + r.2.2.1.length) ∧ w0 + r.2.2.1.length + 1 ≤ r.2.1) → finR Q code0 w0 (pTail pk (nI 38) op F n r) → wl_X8_readAll_8 (nI o) tape (nI L) wF Q (n + 1) (nI (if r.1 then 1 else 0)) (nI i) code w (nI r.2.1) := by
  intro n
  induction n with
  | zero =>
    intro i r code w hi hir hrL hr hQ
    rw [wl_X8_readAll_8]
    unfold wb_X8_readAll_8
    refine ⟨fun z => absurd (by rw [nI_natle (by omega) (by omega)]; omega) z.1, fun _ => ?_⟩
    cases hb : r.1
    · exact ⟨zb0, hQ.2 hb code w⟩
    · obtain ⟨a1, a2, a3⟩ := hr hb
      rw [a2]
      exact ⟨zb1, hQ.1 hb code a1⟩
  | succ n ih =>
    intro i r code w hi hir hrL hr hQ
    rw [wl_X8_readAll_8]
    unfold wb_X8_readAll_8
    cases hb : r.1
    · refine ⟨fun z => absurd (of_eq_true nI0eq) z.2, fun _ => ⟨zb0, ?_⟩⟩
      rw [pTail, if_neg (fun z => by rw [hb] at z; cases z.1)] at hQ
      exact hQ.2 hb code w
    · obtain ⟨a1, a2, a3⟩ := hr hb
      refine ⟨fun _ => ?_, fun z => absurd ⟨by rw [nI_natle (by omega) (by omega)]; omega, by rw [if_pos rfl, nI1ne]; exact id⟩ z⟩
      refine cls_skip hL hk hrL (fun hs => ⟨fun z => by rw [nI1ne] at z; exact z.elim, fun _ => ?_⟩) (fun hs => ⟨fun _ => ⟨zb1, ?_⟩, fun z => absurd (of_eq_true nI0eq) z⟩)
      · rw [pTail, if_pos ⟨hb, hs⟩] at hQ
        have hlt := pkr_lt (pkR_E hk) (by omega) hs
        have hok := hF (r.2.1 + 1) (by omega)
        rw [a2]
        refine hg (r.2.1 + 1) (w0 + r.2.2.1.length) code _ (by omega) (by omega) ⟨fun fb code' hc' => ⟨fun z => by rw [nI1ne] at z; exact z.elim, fun _ => ?_⟩, fun fb code' w' => ⟨fun _ => ?_, fun z => absurd (of_eq_true nI0eq) z⟩⟩
        · have hlen := hok.2.2 fb
          refine cls_write (by omega) ?_
          intro y hy
          rw [if_neg (by rw [nI1ne]; exact id)] at hy
          rw [hy]
          unfold wk_X8_readAll_50
          rw [nI_add]
          have := ih (i + 1) ((F (r.2.1 + 1)).1, (F (r.2.1 + 1)).2.1, r.2.2.1 ++ (F (r.2.1 + 1)).2.2.1 ++ [entry (nI 38) 0], fun g a => op (r.2.2.2 g a) ((F (r.2.1 + 1)).2.2.2 g a)) (upd code' (w0 + r.2.2.1.length + (F (r.2.1 + 1)).2.2.1.length) (entry (nI 38) 0)) (nI (w0 + r.2.2.1.length + (F (r.2.1 + 1)).2.2.1.length + 1)) (by omega) (by show i + 1 ≤ (F (r.2.1 + 1)).2.1; omega) hok.2.1 (fun _ => ⟨?_, ?_, ?_⟩) hQ
          · rw [fb] at this
            exact this
          · exact appC_snoc (appC_app a1 hc')
          · rw [List.length_append, List.length_append, List.length_singleton]
            congr 1
            omega
          · rw [List.length_append, List.length_append, List.length_singleton]
            show _ ≤ (F (r.2.1 + 1)).2.1
            omega
        · unfold wk_X8_readAll_49 wk_X8_readAll_50
          rw [nI_add]
          have := ih (i + 1) ((F (r.2.1 + 1)).1, (F (r.2.1 + 1)).2.1, r.2.2.1 ++ (F (r.2.1 + 1)).2.2.1 ++ [entry (nI 38) 0], fun g a => op (r.2.2.2 g a) ((F (r.2.1 + 1)).2.2.2 g a)) code' w' (by omega) (by show i + 1 ≤ (F (r.2.1 + 1)).2.1; omega) hok.2.1 (fun z => absurd (fb.symm.trans z) (by decide)) hQ
          rw [fb] at this
          exact this
      · rw [pTail, if_neg (fun z => hs z.2)] at hQ
        rw [a2]
        exact hQ.1 hb code a1
theorem cls_All {pk tape : Nat → Int32} {L o : Nat} {F : Nat → ResT} {wF : fpR} (op : Bool → Bool → Bool) (hL : L ≤ 120) (hk : pkR tape L pk) (hF : okP L F) (hg : goodR (wF) pk tape L o F) : goodR (wr_X8_readAll wF) pk tape L o (fun p => pTail pk (nI 38) op F 120 (F p)) := by
  intro p w code Q hp hw hQ
  unfold wr_X8_readAll
  have hok := hF p hp
  refine hg p w code _ hp hw ⟨fun fb code' hc' => ⟨121, ?_⟩, fun fb code' w' => ⟨121, ?_⟩⟩
  · have := cls_tail_All (op := op) (w0 := w) (code0 := code) hL hk hF hg 120 0 (F p) code' (nI (w + (F p).2.2.1.length)) (by omega) (Nat.zero_le _) hok.2.1 (fun _ => ⟨hc', rfl, by have := hok.2.2 fb; omega⟩) hQ
    rw [fb] at this
    exact this
  · have := cls_tail_All (op := op) (w0 := w) (code0 := code) hL hk hF hg 120 0 (F p) code' w' (by omega) (Nat.zero_le _) hok.2.1 (fun z => absurd (fb.symm.trans z) (by decide)) hQ
    rw [fb] at this
    exact this
theorem cls_tail_Any {pk tape : Nat → Int32} {L o : Nat} {F : Nat → ResT} {wF : fpR} {op : Bool → Bool → Bool} {Q : Int32 → (Nat → Int32) → Int32 → Int32 → Prop} {code0 : Nat → Int32} {w0 : Nat} (hL : L ≤ 120) (hk : pkR tape L pk) (hF : okP L F) (hg : goodR (wr_X8_readAll wF) pk tape L o F) : ∀ n i (r : ResT) (code : Nat → Int32) (w : Int32), i + n = 120 → i ≤ r.2.1 → r.2.1 ≤ L → (r.1 = true → appC code0 w0 r.2.2.1 code ∧ w = nI (w0 + r.2.2.1.length) ∧ w0 + r.2.2.1.length + 1 ≤ r.2.1) → finR Q code0 w0 (pTail pk (nI 124) op F n r) → wl_X8_readAny_8 (nI o) tape (nI L) wF Q (n + 1) (nI (if r.1 then 1 else 0)) (nI i) code w (nI r.2.1) := by
  intro n
  induction n with
  | zero =>
    intro i r code w hi hir hrL hr hQ
    rw [wl_X8_readAny_8]
    unfold wb_X8_readAny_8
    refine ⟨fun z => absurd (by rw [nI_natle (by omega) (by omega)]; omega) z.1, fun _ => ?_⟩
    cases hb : r.1
    · exact ⟨zb0, hQ.2 hb code w⟩
    · obtain ⟨a1, a2, a3⟩ := hr hb
      rw [a2]
      exact ⟨zb1, hQ.1 hb code a1⟩
  | succ n ih =>
    intro i r code w hi hir hrL hr hQ
    rw [wl_X8_readAny_8]
    unfold wb_X8_readAny_8
    cases hb : r.1
    · refine ⟨fun z => absurd (of_eq_true nI0eq) z.2, fun _ => ⟨zb0, ?_⟩⟩
      rw [pTail, if_neg (fun z => by rw [hb] at z; cases z.1)] at hQ
      exact hQ.2 hb code w
    · obtain ⟨a1, a2, a3⟩ := hr hb
      refine ⟨fun _ => ?_, fun z => absurd ⟨by rw [nI_natle (by omega) (by omega)]; omega, by rw [if_pos rfl, nI1ne]; exact id⟩ z⟩
      refine cls_skip hL hk hrL (fun hs => ⟨fun z => by rw [nI1ne] at z; exact z.elim, fun _ => ?_⟩) (fun hs => ⟨fun _ => ⟨zb1, ?_⟩, fun z => absurd (of_eq_true nI0eq) z⟩)
      · rw [pTail, if_pos ⟨hb, hs⟩] at hQ
        have hlt := pkr_lt (pkR_E hk) (by omega) hs
        have hok := hF (r.2.1 + 1) (by omega)
        rw [a2]
        refine hg (r.2.1 + 1) (w0 + r.2.2.1.length) code _ (by omega) (by omega) ⟨fun fb code' hc' => ⟨fun z => by rw [nI1ne] at z; exact z.elim, fun _ => ?_⟩, fun fb code' w' => ⟨fun _ => ?_, fun z => absurd (of_eq_true nI0eq) z⟩⟩
        · have hlen := hok.2.2 fb
          refine cls_write (by omega) ?_
          intro y hy
          rw [if_neg (by rw [nI1ne]; exact id)] at hy
          rw [hy]
          unfold wk_X8_readAny_50
          rw [nI_add]
          have := ih (i + 1) ((F (r.2.1 + 1)).1, (F (r.2.1 + 1)).2.1, r.2.2.1 ++ (F (r.2.1 + 1)).2.2.1 ++ [entry (nI 124) 0], fun g a => op (r.2.2.2 g a) ((F (r.2.1 + 1)).2.2.2 g a)) (upd code' (w0 + r.2.2.1.length + (F (r.2.1 + 1)).2.2.1.length) (entry (nI 124) 0)) (nI (w0 + r.2.2.1.length + (F (r.2.1 + 1)).2.2.1.length + 1)) (by omega) (by show i + 1 ≤ (F (r.2.1 + 1)).2.1; omega) hok.2.1 (fun _ => ⟨?_, ?_, ?_⟩) hQ
          · rw [fb] at this
            exact this
          · exact appC_snoc (appC_app a1 hc')
          · rw [List.length_append, List.length_append, List.length_singleton]
            congr 1
            omega
          · rw [List.length_append, List.length_append, List.length_singleton]
            show _ ≤ (F (r.2.1 + 1)).2.1
            omega
        · unfold wk_X8_readAny_49 wk_X8_readAny_50
          rw [nI_add]
          have := ih (i + 1) ((F (r.2.1 + 1)).1, (F (r.2.1 + 1)).2.1, r.2.2.1 ++ (F (r.2.1 + 1)).2.2.1 ++ [entry (nI 124) 0], fun g a => op (r.2.2.2 g a) ((F (r.2.1 + 1)).2.2.2 g a)) code' w' (by omega) (by show i + 1 ≤ (F (r.2.1 + 1)).2.1; omega) hok.2.1 (fun z => absurd (fb.symm.trans z) (by decide)) hQ
          rw [fb] at this
          exact this
      · rw [pTail, if_neg (fun z => hs z.2)] at hQ
        rw [a2]
        exact hQ.1 hb code a1
theorem cls_Any {pk tape : Nat → Int32} {L o : Nat} {F : Nat → ResT} {wF : fpR} (op : Bool → Bool → Bool) (hL : L ≤ 120) (hk : pkR tape L pk) (hF : okP L F) (hg : goodR (wr_X8_readAll wF) pk tape L o F) : goodR (wr_X8_readAny wF) pk tape L o (fun p => pTail pk (nI 124) op F 120 (F p)) := by
  intro p w code Q hp hw hQ
  unfold wr_X8_readAny
  have hok := hF p hp
  refine hg p w code _ hp hw ⟨fun fb code' hc' => ⟨121, ?_⟩, fun fb code' w' => ⟨121, ?_⟩⟩
  · have := cls_tail_Any (op := op) (w0 := w) (code0 := code) hL hk hF hg 120 0 (F p) code' (nI (w + (F p).2.2.1.length)) (by omega) (Nat.zero_le _) hok.2.1 (fun _ => ⟨hc', rfl, by have := hok.2.2 fb; omega⟩) hQ
    rw [fb] at this
    exact this
  · have := cls_tail_Any (op := op) (w0 := w) (code0 := code) hL hk hF hg 120 0 (F p) code' w' (by omega) (Nat.zero_le _) hok.2.1 (fun z => absurd (fb.symm.trans z) (by decide)) hQ
    rw [fb] at this
    exact this
theorem one01 (x : Int32) (h : x = nI 0 ∨ x = nI 1) : (if x = 0 then nI 0 else nI 1) = x := by
  rcases h with rfl | rfl <;> decide
theorem cls_any {pk tape : Nat → Int32} {L o : Nat} {F : Nat → ResT} {wF : fpR} (hL : L ≤ 120) (hk : pkR tape L pk) (hF : okP L F) (hg : goodR wF pk tape L o F) : goodR (wr_X8_readAny wF) pk tape L o (pAnyF pk F) := cls_Any or hL hk (pAll_ok (pkR_E hk) hF) (cls_All and hL hk hF hg)
theorem cls_fact {pk tape : Nat → Int32} {L : Nat} (hL : L ≤ 120) (hk : pkR tape L pk) : ∀ d o, o ≤ 6 → 7 ≤ o + d → goodR (wp_X8_readFact d) pk tape L o (pFact pk d o) := by
  intro d
  induction d with
  | zero => intro o h1 h2; omega
  | succ d ih =>
    intro o ho hod p w code Q hp hw hQ
    obtain ⟨e, ok⟩ := cls_peek (p := p) hL hk (by omega)
    show wr_X8_readFact (wp_X8_readFact d) (nI o) tape code (nI w) (nI L) (nI p) Q
    unfold wr_X8_readFact
    rw [e, nI_add]
    have cN : (nI 6 ≤ nI o) = (6 ≤ o) := nI_natle (by omega) (by omega)
    rw [pFact] at hQ
    refine ⟨ok, fun x hx => ?_⟩
    have ne : ∀ {a b : Nat}, a < 200 → b < 200 → a ≠ b → ∀ {P : Prop}, x = nI a → x = nI b → P := fun ha hb hab _ h1 h2 => absurd ((nI_eq (by omega) (by omega)).mp (h1.symm.trans h2)) hab
    have eqs : ∀ sg, (pk p = nI 115 ∨ pk p = nI 103 ∨ pk p = nI 109 ∨ pk p = nI 112) → sg = pk p → wp_X8_skip sg tape (nI L) (nI p) (fun r at1 => (r = 0 → Q (nI 0) code (nI w) at1) ∧ (¬ r = 0 → wp_X8_skip (nI 61) tape (nI L) at1 (fun r2 at2 => (r2 = 0 → Q (nI 0) code (nI w) at2) ∧ (¬ r2 = 0 → wp_X8_readNumber sg tape code (nI w) (nI L) at2 (fun r3 c3 w3 at3 => ∀ y, y = (if r3 = 0 then nI 0 else nI 1) → Q y c3 w3 at3))))) := by
      intro sg hc hs
      have l : p < L := by
        rcases hc with c | c | c | c <;> exact pkr_lt (pkR_E hk) (by omega) c
      have n1 : ¬ pk p = nI 33 := fun z => by rcases hc with c | c | c | c <;> (rw [z] at c; exact absurd ((nI_eq (by omega) (by omega)).mp c) (by omega))
      have n2 : ¬ pk p = nI 40 := fun z => by rcases hc with c | c | c | c <;> (rw [z] at c; exact absurd ((nI_eq (by omega) (by omega)).mp c) (by omega))
      have n3 : ¬ pk p = nI 104 := fun z => by rcases hc with c | c | c | c <;> (rw [z] at c; exact absurd ((nI_eq (by omega) (by omega)).mp c) (by omega))
      rw [if_neg n1, if_neg n2, if_neg n3, if_pos hc] at hQ
      refine cls_skip hL hk hp (fun _ => ⟨fun z => by rw [nI1ne] at z; exact z.elim, fun _ => ?_⟩) (fun z => absurd hs.symm z)
      by_cases c5 : pk (p + 1) = nI 61
      · rw [if_pos c5] at hQ
        have l2 := pkr_lt (pkR_E hk) (by omega) c5
        refine cls_skip hL hk (by omega) (fun _ => ⟨fun z => by rw [nI1ne] at z; exact z.elim, fun _ => ?_⟩) (fun z => absurd c5 z)
        rw [hs]
        refine cls_num hL hk (by omega) (by omega) ⟨fun fb c' hc' y hy => ?_, fun fb c' w' y hy => ?_⟩
        · rw [if_neg (by rw [nI1ne]; exact id)] at hy
          rw [hy]; exact hQ.1 fb c' hc'
        · rw [if_pos (of_eq_true nI0eq)] at hy
          rw [hy]; exact hQ.2 fb c' w'
      · rw [if_neg c5] at hQ
        exact cls_skip hL hk (by omega) (fun z => absurd z c5) (fun _ => ⟨fun _ => hQ.2 rfl _ _, fun z => absurd (of_eq_true nI0eq) z⟩)
    refine ⟨fun h33 => ?_, fun h40 => ?_, fun h103 => ?_, fun h104 => ?_, fun h109 => ?_, fun h112 => ?_, fun h115 => ?_, fun a1 a2 a3 a4 a5 a6 a7 => ?_⟩
    · rw [hx] at h33
      rw [if_pos h33] at hQ
      have l := pkr_lt (pkR_E hk) (by omega) h33
      refine ⟨fun z => ?_, fun z => ?_⟩
      · rw [if_pos (show o = 6 by have := Eq.mp cN z; omega)] at hQ
        exact hQ.2 rfl _ _
      · have o6 : o < 6 := by
          apply Classical.byContradiction
          intro q
          exact z (Eq.mpr cN (by omega))
        rw [if_neg (by omega)] at hQ
        refine cls_skip hL hk hp (fun _ => ⟨fun z => by rw [nI1ne] at z; exact z.elim, fun _ => ?_⟩) (fun z => absurd h33 z)
        have hok := pFact_ok (pkR_E hk) d (o + 1) (p + 1) (by omega)
        refine ih (o + 1) (by omega) (by omega) (p + 1) w code _ (by omega) (by omega) ⟨fun fb c' hc' => ⟨fun z => by rw [nI1ne] at z; exact z.elim, fun _ => ?_⟩, fun fb c' w' => ⟨fun _ => hQ.2 fb c' w', fun z => absurd (of_eq_true nI0eq) z⟩⟩
        have hl := hok.2.2 fb
        refine cls_write (by omega) (fun y hy => ?_)
        rw [if_neg (by rw [nI1ne]; exact id)] at hy
        rw [hy]
        have := hQ.1 fb (upd c' (w + (pFact pk d (o + 1) (p + 1)).2.2.1.length) (entry (nI 33) 0)) (appC_app hc' appC_one)
        rw [List.length_append, List.length_singleton, ← Nat.add_assoc] at this
        exact this
    · rw [hx] at h40
      rw [if_neg (fun z => absurd ((nI_eq (by omega) (by omega)).mp (z.symm.trans h40)) (by omega)), if_pos h40] at hQ
      have l := pkr_lt (pkR_E hk) (by omega) h40
      refine ⟨fun z => ?_, fun z => ?_⟩
      · rw [if_pos (show o = 6 by have := Eq.mp cN z; omega)] at hQ
        exact hQ.2 rfl _ _
      · have o6 : o < 6 := by
          apply Classical.byContradiction
          intro q
          exact z (Eq.mpr cN (by omega))
        rw [if_neg (by omega)] at hQ
        refine cls_skip hL hk hp (fun _ => ⟨fun z => by rw [nI1ne] at z; exact z.elim, fun _ => ?_⟩) (fun z => absurd h40 z)
        have hok := pAny_ok (pkR_E hk) (pFact_ok (pkR_E hk) d (o + 1)) (p + 1) (by omega)
        refine cls_any hL hk (pFact_ok (pkR_E hk) d (o + 1)) (ih (o + 1) (by omega) (by omega)) (p + 1) w code _ (by omega) (by omega) ⟨fun fb c' hc' => ⟨fun z => by rw [nI1ne] at z; exact z.elim, fun _ => ?_⟩, fun fb c' w' => ⟨fun _ => ?_, fun z => absurd (of_eq_true nI0eq) z⟩⟩
        · rw [if_pos fb] at hQ
          by_cases c5 : pk (pAnyF pk (pFact pk d (o + 1)) (p + 1)).2.1 = nI 41
          · rw [if_pos c5] at hQ
            refine cls_skip hL hk hok.2.1 (fun _ y hy => ?_) (fun z => absurd c5 z)
            rw [if_neg (by rw [nI1ne]; exact id)] at hy
            rw [hy]
            exact hQ.1 rfl c' hc'
          · rw [if_neg c5] at hQ
            refine cls_skip hL hk hok.2.1 (fun z => absurd z c5) (fun _ y hy => ?_)
            rw [if_pos (of_eq_true nI0eq)] at hy
            rw [hy]
            exact hQ.2 rfl c' _
        · rw [if_neg (fun z => by rw [fb] at z; cases z)] at hQ
          exact hQ.2 rfl c' w'
    · exact eqs x (Or.inr (Or.inl (hx.symm.trans h103))) hx
    · rw [hx] at h104
      rw [if_neg (fun z => absurd ((nI_eq (by omega) (by omega)).mp (z.symm.trans h104)) (by omega)), if_neg (fun z => absurd ((nI_eq (by omega) (by omega)).mp (z.symm.trans h104)) (by omega)), if_pos h104] at hQ
      have l := pkr_lt (pkR_E hk) (by omega) h104
      refine cls_skip hL hk hp (fun _ => ⟨fun z => by rw [nI1ne] at z; exact z.elim, fun _ => ?_⟩) (fun z => absurd h104 z)
      by_cases c4 : pk (p + 1) = nI 60
      · rw [if_pos c4] at hQ
        have l2 := pkr_lt (pkR_E hk) (by omega) c4
        refine cls_skip hL hk (by omega) (fun _ => ⟨fun z => by rw [nI1ne] at z; exact z.elim, fun _ => ?_⟩) (fun z => absurd c4 z)
        refine cls_num hL hk (by omega) (by omega) ⟨fun fb c' hc' y hy => ?_, fun fb c' w' y hy => ?_⟩
        · rw [if_neg (by rw [nI1ne]; exact id)] at hy
          rw [hy]; exact hQ.1 fb c' hc'
        · rw [if_pos (of_eq_true nI0eq)] at hy
          rw [hy]; exact hQ.2 fb c' w'
      · rw [if_neg c4] at hQ
        refine cls_skip hL hk (by omega) (fun z => absurd z c4) (fun _ => ⟨fun _ => ?_, fun z => absurd (of_eq_true nI0eq) z⟩)
        by_cases c5 : pk (p + 1) = nI 62
        · rw [if_pos c5] at hQ
          have l2 := pkr_lt (pkR_E hk) (by omega) c5
          refine cls_skip hL hk (by omega) (fun _ => ⟨fun z => by rw [nI1ne] at z; exact z.elim, fun _ => ?_⟩) (fun z => absurd c5 z)
          refine cls_num hL hk (by omega) (by omega) ⟨fun fb c' hc' y hy => ?_, fun fb c' w' y hy => ?_⟩
          · rw [if_neg (by rw [nI1ne]; exact id)] at hy
            rw [hy]; exact hQ.1 fb c' hc'
          · rw [if_pos (of_eq_true nI0eq)] at hy
            rw [hy]; exact hQ.2 fb c' w'
        · rw [if_neg c5] at hQ
          exact cls_skip hL hk (by omega) (fun z => absurd z c5) (fun _ => ⟨fun _ => hQ.2 rfl _ _, fun z => absurd (of_eq_true nI0eq) z⟩)
    · exact eqs x (Or.inr (Or.inr (Or.inl (hx.symm.trans h109)))) hx
    · exact eqs x (Or.inr (Or.inr (Or.inr (hx.symm.trans h112)))) hx
    · exact eqs x (Or.inl (hx.symm.trans h115)) hx
    · rw [hx] at a1 a2 a3 a4 a5 a6 a7
      rw [if_neg a1, if_neg a2, if_neg a4, if_neg (fun z => z.elim a7 (fun z => z.elim a3 (fun z => z.elim a5 a6)))] at hQ
      exact hQ.2 rfl _ _
theorem cls_some {pk tape : Nat → Int32} {L : Nat} (hL : L ≤ 120) (hk : pkR tape L pk) : goodR wp_X8_readAny pk tape L 0 (pSome pk) := cls_any hL hk (pFact_ok (pkR_E hk) 8 0) (cls_fact hL hk 8 0 (by omega) (by omega))
