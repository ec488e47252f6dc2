def slotI (t j : Nat) : Prop := j = 4410 + t ∨ j = 4430 + t ∨ j = 4450 + t ∨ j = 4470 + t ∨ (4490 + 8 * t ≤ j ∧ j < 4490 + 8 * t + 8) ∨ (4620 + 8 * t ≤ j ∧ j < 4620 + 8 * t + 8) ∨ (4750 + 120 * t ≤ j ∧ j < 4750 + 120 * t + 120)
theorem slotI_ne {t u j : Nat} (ht : t < 16) (hu : u < 16) (ne : u ≠ t) (h : slotI u j) : ((20 ≤ j ∧ j < 50) ∨ (4410 ≤ j ∧ j < 6700)) ∧ ¬ slotI t j ∧ j ≠ 10 ∧ j ≠ 1 := by
  unfold slotI at h ⊢
  omega
theorem pkS_slot {s v : Nat → Int32} {i L : Nat} (hL : L ≤ 120) (h : s (4450 + i) = nI L) (e : ∀ j, slotI i j → v j = s j) : pkS v i = pkS s i := by
  funext p
  unfold pkS
  rw [e (4450 + i) (by unfold slotI; omega), h, nI_clamp (by omega)]
  by_cases hp : p < L
  · rw [if_pos hp, if_pos hp, e _ (by unfold slotI; omega)]
  · rw [if_neg hp, if_neg hp]
theorem TextOK_slot {s v : Nat → Int32} {i len : Nat} {row : Nat → Int32} (h : TextOK s i len row) (e : ∀ j, slotI i j → v j = s j) : TextOK v i len row := by
  obtain ⟨L, cl, hL, h1, h2, h3, h4, h5, h6⟩ := h
  have hp := pkS_slot hL h1 e
  refine ⟨L, cl, hL, by rw [e _ (by unfold slotI; omega)]; exact h1, h2, by rw [e _ (by unfold slotI; omega)]; exact h3, fun k b p hk => ?_, by rw [hp]; exact h5, h6⟩
  have hk8 : k < cl.length := (List.getElem?_eq_some_iff.mp hk).1
  rw [e _ (by unfold slotI; omega), e _ (by unfold slotI; omega), hp]
  exact h4 k b p hk
theorem ICacheT_slot {n t : Nat} {letBy letStamp : Nat → Int32} {stamp : Int32} {s v : Nat → Int32} (ht : t < 16) (h : ICacheT n letBy letStamp stamp s) (hv : ∀ j, (20 ≤ j ∧ j < 50) ∨ (4410 ≤ j ∧ j < 6700) → ¬ slotI t j → v j = s j) : ICacheT (n + 1) letBy (upd letStamp t (nI 0)) stamp v := by
  obtain ⟨z, h1, h2, h3, h4⟩ := h
  refine ⟨z, by omega, h2, h3, fun u hu => ?_⟩
  by_cases e : u = t
  · subst e
    exact ⟨0, by omega, by rw [upde], fun q => by omega⟩
  · obtain ⟨y, g1, g2, g3⟩ := h4 u hu
    refine ⟨y, g1, by rw [updne e]; exact g2, fun hy => ?_⟩
    obtain ⟨c, ll, k1, k2, k3, ⟨L, k4, k5⟩, k6, k7⟩ := g3 hy
    have es : ∀ j, slotI u j → v j = s j := fun j hj => hv j (slotI_ne ht hu e hj).1 (slotI_ne ht hu e hj).2.1
    have hp := pkS_slot k4 k5 es
    have hg : gS v = gS s := by
      funext i
      unfold gS
      exact hv _ (Or.inl (by omega)) (by unfold slotI; omega)
    refine ⟨c, ll, k1, k2, by rw [es _ (by unfold slotI; omega)]; exact k3, ⟨L, k4, by rw [es _ (by unfold slotI; omega)]; exact k5⟩, fun k b p hk => ?_, by rw [hp, hg]; exact k7⟩
    have hk8 : k < ll.length := (List.getElem?_eq_some_iff.mp hk).1
    rw [es _ (by unfold slotI; omega), es _ (by unfold slotI; omega), hp]
    exact k6 k b p hk
theorem rowL {c0 c' : Nat → Int32} {l : List Int32} (h : appC c0 0 l c') : (List.range l.length).map (va_cpy c' (fun _ => 0) 0 0 l.length) = l := by
  apply List.ext_getElem
  · rw [List.length_map, List.length_range]
  · intro i h1 h2
    rw [List.getElem_map, List.getElem_range, cpy_e i h2]
    have := h.2 i l[i] (List.getElem?_eq_getElem h2)
    rw [Nat.zero_add] at this
    exact this
/-- but for a text's slot, the texts' count and the tape's size, v is s -/
theorem upupg {α : Type} {f : Nat → α} {q : Nat} {x y : α} : va_up (va_up f q x) q y = va_up f q y := by
  funext j
  by_cases e : j = q
  · subst e; rw [upee, upee]
  · rw [upene e, upene e, upene e]
theorem slotT_out {t L : Nat} {tg dy : Int32} {s v : Nat → Int32} (h : slotT t L tg dy s v) (j : Nat) (h10 : j ≠ 10) (hj : ¬ slotI t j) : v j = s j := h.1 j h10 (by unfold slotI at hj; omega) (by unfold slotI at hj; omega) (by unfold slotI at hj; omega) (by unfold slotI at hj; omega) (by unfold slotI at hj; omega) (by unfold slotI at hj; omega) (by unfold slotI at hj; omega)
theorem ILand_slot {gr : Nat → Int32} {today : Int32} {tape : Nat → Int32} {bytes tc : Int32} {texts : Nat → Option Nat} {T_L : List Nat} {T_number T_tongue T_day : Nat → Int32} {T_code : Nat → Option Nat} {C_L : List Nat} {C_len : Nat → Nat} {C_row : Nat → Nat → Int32} {s v : Nat → Int32} {t L : Nat} {tg dy : Int32} (h : ILand gr today tape bytes texts tc T_L T_number T_tongue T_day T_code C_L C_len C_row s) (ht : s 1 = nI t) (ht2 : t ≤ 15) (hv : slotT t L tg dy s v) : ILand gr today tape (nI 0) texts tc T_L T_number T_tongue T_day T_code C_L C_len C_row v := by
  have e := fun j h1 h2 => slotT_out hv j h1 h2
  obtain ⟨h1, h2, h3, h4, h5, h6, t', ht', h7, h8, h9⟩ := h
  have et : t' = t := by rw [h8] at ht; exact (nI_eq (by omega) (by omega)).mp ht
  subst et
  refine ⟨fun i hi => ?_, ?_, ⟨hv.2.1.symm, by rw [hv.2.1]; exact ⟨0, by omega, rfl⟩⟩, h4, ?_, h6, t', ht', h7, ?_, fun i hi => ?_⟩
  · rw [e _ (by omega) (by unfold slotI; omega)]; exact h1 i hi
  · rw [e _ (by omega) (by unfold slotI; omega)]; exact h2
  · intro b hb hb2 i hi
    rw [hv.2.1] at hb
    have := (nI_eq (by omega) (by omega)).mp hb
    omega
  · rw [e _ (by omega) (by unfold slotI; omega)]; exact h8
  · obtain ⟨a, c, g1, g2, g3, g4, g5, g6, g7, g8, g9, g10⟩ := h9 i hi
    refine ⟨a, c, g1, g2, g3, ?_, ?_, ?_, ?_, g8, g9, TextOK_slot g10 (fun j hj => e j (by unfold slotI at hj; omega) (by unfold slotI at hj ⊢; omega))⟩
    · rw [e _ (by omega) (by unfold slotI; omega)]; exact g4
    · rw [e _ (by omega) (by unfold slotI; omega)]; exact g5
    · rw [e _ (by omega) (by unfold slotI; omega)]; exact g6
    · rw [e _ (by omega) (by unfold slotI; omega)]; exact g7
theorem TextOK_new {pk v : Nat → Int32} {t L : Nat} {c0 c' : Nat → Int32} (hL : L ≤ 120) (hE : pkE L pk) (hv : v (4450 + t) = nI L) (hp : pkS v t = pk) (fb : (pTp pk L 8 0).1 = true) (hr : recS v t (pTp pk L 8 0).2.2.1) (hc : appC c0 0 (pTp pk L 8 0).2.2.2 c') : TextOK v t (pTp pk L 8 0).2.2.2.length (va_cpy c' (fun _ => 0) 0 0 (pTp pk L 8 0).2.2.2.length) := by
  obtain ⟨o1, o2⟩ := pTp_ok hE 8 0 (Nat.zero_le L)
  obtain ⟨j1, j2, j3, j4, j5⟩ := o2 fb
  refine ⟨L, (pTp pk L 8 0).2.2.1, hL, hv, j3, hr.1, fun k b p hk => ?_, ?_, by omega⟩
  · obtain ⟨r1, r2⟩ := hr.2 k b p hk
    obtain ⟨q1, q2⟩ := j4 k b p hk
    exact ⟨r1, r2, by omega, by rw [hp]; exact q2⟩
  · rw [hp, ← j5, rowL hc]
/-- a tape's reading on both sides -/
theorem core_text {gr : Nat → Int32} {today : Int32} {tape : Nat → Int32} {bytes tc : Int32} {texts : Nat → Option Nat} {T_L : List Nat} {T_number T_tongue T_day : Nat → Int32} {T_code : Nat → Option Nat} {C_L : List Nat} {C_len : Nat → Nat} {C_row : Nat → Nat → Int32} {s : Nat → Int32} {code : Nat → Int32} {written end_ at_ kr ks kw ko ka p1 p2 stamp : Int32} {rt n : Nat} {ad : Nat → Nat} {letBy letStamp : Nat → Int32} {R : Int32 → (Nat → Option Nat) → Int32 → List Nat → (Nat → Int32) → (Nat → Int32) → (Nat → Int32) → (Nat → Option Nat) → List Nat → (Nat → Nat) → (Nat → Nat → Int32) → (Nat → Int32) → (Nat → Int32) → Prop} (h : ILand gr today tape bytes texts tc T_L T_number T_tongue T_day T_code C_L C_len C_row s) (hT : ICacheT n letBy letStamp stamp s) (h0 : R bytes texts tc T_L T_number T_tongue T_day T_code C_L C_len C_row s letStamp) (hR : ∀ b' tx' tc' X_L X_number X_tongue X_day X_code Y_L Y_len Y_row v ls, ILand gr today tape b' tx' tc' X_L X_number X_tongue X_day X_code Y_L Y_len Y_row v → ICacheT (n + 1) letBy ls stamp v → outS idxX s v → poolT T_L T_number T_tongue T_day T_code C_L C_len C_row X_L X_number X_tongue X_day X_code Y_L Y_len Y_row → R b' tx' tc' X_L X_number X_tongue X_day X_code Y_L Y_len Y_row v ls) : wp_X11_text p1 p2 tape bytes texts tc code written rt end_ at_ T_L T_number T_tongue T_day T_code C_L C_len C_row ad (fun r b' tx' tc' _ _ _ _ _ X_L X_number X_tongue X_day X_code Y_L Y_len Y_row => wp_X12_text p1 p2 s kr ks kw ko ka letStamp (fun r' v _ _ _ _ _ ls => r = r' ∧ R b' tx' tc' X_L X_number X_tongue X_day X_code Y_L Y_len Y_row v ls)) := by
  rcases in_cases p1 0 2 (by decide) (by decide) with ⟨g1, -⟩ | ⟨g1, tg, -, htg, rfl⟩
  · simp only [wp_X11_text, wp_X12_text, f_X11_isTongue, within_eq, g1, not_true_eq_false, not_false_eq_true, forall_const, true_implies, false_implies, implies_true, and_true, true_and, and_false, false_and, or_true, true_or, or_false, false_or, forall_eq, ↓reduceIte, ne_eq, nI1ne, nI0eq, Classical.not_not, eq_self, reduceCtorEq]
    exact h0
  rcases in_cases p2 0 999 (by decide) (by decide) with ⟨g2, -⟩ | ⟨g2, dy, -, hdy, rfl⟩
  · simp only [wp_X11_text, wp_X12_text, f_X11_isTongue, f_X11_isDay, f_X12_isDay, within_eq, g1, g2, nI1ne, not_true_eq_false, not_false_eq_true, forall_const, true_implies, false_implies, implies_true, and_true, true_and, and_false, false_and, or_true, true_or, or_false, false_or, forall_eq, ↓reduceIte, ne_eq, nI1ne, nI0eq, Classical.not_not, eq_self, reduceCtorEq]
    exact h0
  obtain ⟨h1, h2, ⟨rfl, L, hL, h10⟩, h4, h5, h6, t, ht, rfl, h8, h9⟩ := id h
  by_cases t15 : t = 15
  · subst t15
    simp (disch := omega) only [wp_X11_text, wp_X12_text, f_X11_isTongue, f_X11_isDay, f_X12_isDay, within_eq, g1, g2, h8, nI_natlt, Nat.lt_irrefl, nI1ne, not_true_eq_false, not_false_eq_true, forall_const, true_implies, false_implies, implies_true, and_true, true_and, and_false, false_and, or_true, true_or, or_false, false_or, forall_eq, ↓reduceIte, ne_eq, nI1ne, nI0eq, Classical.not_not, eq_self, reduceCtorEq]
    exact h0
  have t15' : t < 15 := by omega
  simp (disch := omega) only [wp_X11_text, f_X11_isTongue, f_X11_isDay, within_eq, g1, g2, nI_natlt, t15', nI1ne, not_true_eq_false, not_false_eq_true, forall_const, true_implies, false_implies, implies_true, and_true, true_and, and_false, false_and, or_true, true_or, or_false, false_or, forall_eq, ↓reduceIte, ne_eq, nI1ne, nI0eq, Classical.not_not, eq_self, reduceCtorEq]
  have tp := h5 L h10 hL
  let pk : Nat → Int32 := fun p => if p < L then tape p &&& nI 255 else -1
  have hk : pkR tape L pk := fun p => rfl
  have hpk : ∀ p, pk p = if p < L then s (1190 + p) else -1 := by
    intro p
    show (if p < L then tape p &&& nI 255 else -1) = _
    by_cases c : p < L
    · rw [if_pos c, if_pos c, tp p c]
    · rw [if_neg c, if_neg c]
  have hE := pkR_E hk
  have m1lt' : ((-1 : Int32) < 0) = True := m1lt
  have mod : ∀ K : Int32 → (Nat → Int32) → Int32 → Int32 → Int32 → Int32 → Int32 → (Nat → Int32) → Prop, wp_X12_readsText (nI t) (nI tg) (nI dy) s letStamp (fun r v a b c d e ls => (¬ r = 0 → K (((upd v 1 ((v 1) + (nI 1))) 1) - (nI 1)) (upd v 1 ((v 1) + (nI 1))) a b c d e ls) ∧ (r = 0 → K ((-10) - b) v a b c d e ls)) → wp_X12_text (nI tg) (nI dy) s kr ks kw ko ka letStamp K := by
    intro K hK
    simp (disch := omega) only [wp_X12_text, f_X12_isDay, g1, g2, h8, nI_nateq, t15, nI1ne, not_true_eq_false, not_false_eq_true, forall_const, true_implies, false_implies, implies_true, and_true, true_and, and_false, false_and, or_true, true_or, or_false, false_or, forall_eq, ↓reduceIte, ne_eq, nI1ne, nI0eq, Classical.not_not, eq_self, reduceCtorEq]
    exact hK
  rw [h10]
  refine cls_tape hL hk (fun fb code' a e at' hc => ?_) (fun fb code' w a e at' => ?_)
  · refine ⟨fun _ q hq => ?_, fun z => absurd (of_eq_true m1lt) z⟩
    obtain ⟨o1, o2⟩ := pTp_ok hE 8 0 (Nat.zero_le L)
    have hlen : (pTp pk L 8 0).2.2.2.length < 120 := by have := (o2 fb).2.1; omega
    refine ⟨(pTp pk L 8 0).2.2.2.length, hlen, rfl, fun q' hq' => ?_⟩
    unfold wp_X10_init
    refine ⟨memq, memq, memq, memq, ?_⟩
    unfold wp_X4_enact
    dsimp only
    rw [nI_natle (by omega) (by omega), nI_clamp (by omega), nI_add, upupg, upupg, upupg, upupg]
    refine ⟨fun z => absurd z (by omega), fun _ => ⟨vp_in_nI (by omega) (by omega), memq, ?_⟩⟩
    rw [nI_subL (by omega), Nat.add_sub_cancel]
    refine mod _ (mod_reads (pk := pk) (by omega) hL h10 hpk (fun _ v iw op hs hr => ⟨fun _ => ?_, fun z => by rw [nI1ne] at z; exact z.elim⟩) (fun z => absurd (fb.symm.trans z) (by decide)))
    have v1 : v 1 = nI t := by rw [slotT_out hs 1 (by omega) (by unfold slotI; omega)]; exact h8
    rw [v1, nI_add, upde, nI_subL (by omega), Nat.add_sub_cancel]
    refine ⟨rfl, hR _ _ _ _ _ _ _ _ _ _ _ _ _ ?_ ?_ (fun j hj => ?_) ⟨fun a ha => ?_, fun c hc => ?_⟩⟩
    · have hv := ILand_slot h h8 ht hs
      obtain ⟨l1, l2, l3, l4, l5, l6, t', ht', l7, l8, l9⟩ := hv
      have et : t' = t := ((nI_eq (by omega) (by omega)).mp l7).symm
      subst et
      refine ⟨fun i hi => ?_, ?_, ?_, l4, ?_, fun i hi y hy => ?_, t' + 1, by omega, rfl, upde, fun i hi => ?_⟩
      · rw [updne (by omega)]; exact l1 i hi
      · rw [updne (by omega)]; exact l2
      · rw [updne (by omega)]; exact l3
      · rw [updne (by omega)]
        intro b hb hb2 i hi
        rw [updne (by omega)]; exact l5 b hb hb2 i hi
      · by_cases e : i = t'
        · subst e
          rw [upee] at hy
          cases hy
          exact memq
        · rw [upene e] at hy
          exact List.mem_append.mpr (Or.inl (l6 i hi y hy))
      · by_cases e : i = t'
        · subst e
          refine ⟨q, q', upee, memq, upee, ?_, ?_, ?_, ?_, upee, memq, ?_⟩
          · rw [upee, updne (by omega), hs.2.2.1]
          · rw [updne (by omega), hs.2.2.1]; exact ⟨tg, htg, rfl⟩
          · rw [upee, updne (by omega), hs.2.2.2.1]
          · rw [updne (by omega), hs.2.2.2.1]; exact ⟨dy, hdy, rfl⟩
          · rw [upee, upee]
            have hp : pkS (upd v 1 (nI (i + 1))) i = pk := by
              funext p
              unfold pkS
              rw [updne (by omega), updne (by omega), hs.2.2.2.2.1, nI_clamp (by omega), hpk p]
              by_cases c : p < L
              · rw [if_pos c, if_pos c, hs.2.2.2.2.2 p c]
              · rw [if_neg c, if_neg c]
            refine TextOK_new hL hE (by rw [updne (by omega)]; exact hs.2.2.2.2.1) hp fb ⟨by rw [updne (by omega)]; exact hr.1, fun k b p hk => ?_⟩ hc
            have := hr.2 k b p hk
            rw [updne (by omega), updne (by omega)]
            exact this
        · obtain ⟨a, c, d1, d2, d3, d4, d5, d6, d7, d8, d9, d10⟩ := l9 i (by omega)
          have na := fresh_ne hq d2
          have nc := fresh_ne hq' d9
          refine ⟨a, c, by rw [upene e]; exact d1, List.mem_append.mpr (Or.inl d2), by rw [upene na]; exact d3, ?_, ?_, ?_, ?_, by rw [upene na]; exact d8, List.mem_append.mpr (Or.inl d9), ?_⟩
          · rw [upene na, updne (by omega)]; exact d4
          · rw [updne (by omega)]; exact d5
          · rw [upene na, updne (by omega)]; exact d6
          · rw [updne (by omega)]; exact d7
          · rw [upene nc, upene nc]
            exact TextOK_slot d10 (fun j hj => updne (by unfold slotI at hj; omega))
    · refine ICacheT_slot (by omega) hT (fun j hj ns => ?_)
      rw [updne (by omega)]
      exact slotT_out hs j (by omega) ns
    · unfold idxX at hj
      rw [updne (by omega)]
      exact slotT_out hs j (by omega) (by unfold slotI; omega)
    · have na := fresh_ne hq ha
      exact ⟨List.mem_append.mpr (Or.inl ha), upene na, upene na, upene na, upene na⟩
    · have nc := fresh_ne hq' hc
      exact ⟨List.mem_append.mpr (Or.inl hc), upene nc, upene nc⟩
  · obtain ⟨o1, -⟩ := pTp_ok hE 8 0 (Nat.zero_le L)
    refine ⟨fun z => absurd z (nI_pos (by omega)), fun _ => ?_⟩
    refine mod _ (mod_reads (pk := pk) (by omega) hL h10 hpk (fun z => absurd (fb.symm.trans z) (by decide)) (fun _ v iw op hs => ⟨fun z => absurd (of_eq_true nI0eq) z, fun _ => ?_⟩))
    refine ⟨rfl, hR _ _ _ _ _ _ _ _ _ _ _ _ _ (ILand_slot h h8 ht hs) ?_ (fun j hj => ?_) ⟨fun a ha => ⟨ha, rfl, rfl, rfl, rfl⟩, fun c hc => ⟨hc, rfl, rfl⟩⟩⟩
    · exact ICacheT_slot (by omega) hT (fun j hj ns => slotT_out hs j (by omega) ns)
    · unfold idxX at hj
      exact slotT_out hs j (by omega) (by unfold slotI; omega)
