theorem filt_pop (f : Nat → Bool) : ∀ n, ((List.range n).filter f).length = popS (fun i => if f i then 1 else 0) n := by
  intro n
  induction n with
  | zero => rfl
  | succ n ih =>
    rw [List.range_succ, List.filter_append, List.length_append, ih]
    have e : popS (fun i => if f i then 1 else 0) (n + 1) = popS (fun i => if f i then 1 else 0) n + (if f n then 1 else 0) := rfl
    rw [e]
    cases h : f n
    · rw [List.filter_cons_of_neg (by rw [h]; decide)]; rfl
    · rw [List.filter_cons_of_pos h]; rfl
def sgN (si : Nat → Int32) (p h : Nat) : Nat := if si (p * 24 + h) < 0 then 0 else 1
theorem popS_congr {a b : Nat → Nat} : ∀ n, (∀ i, i < n → a i = b i) → popS a n = popS b n := by
  intro n
  induction n with
  | zero => intro _; rfl
  | succ n ih =>
    intro h
    show popS a n + a n = popS b n + b n
    rw [ih (fun i hi => h i (by omega)), h n (by omega)]
theorem popS_up1 {a b : Nat → Nat} {j : Nat} : ∀ n, j < n → (∀ i, i < n → i ≠ j → b i = a i) → a j = 0 → b j = 1 → popS b n = popS a n + 1 := by
  intro n
  induction n with
  | zero => intro h; omega
  | succ n ih =>
    intro hj h h1 h2
    show popS b n + b n = popS a n + a n + 1
    by_cases e : j = n
    · subst e
      rw [popS_congr j (fun i hi => h i (by omega) (by omega)), h1, h2]
    · rw [ih (by omega) (fun i hi => h i (by omega)) h1 h2, h n (by omega) (fun z => e z.symm)]
      omega
theorem cnt_pop (si : Nat → Int32) (p : Nat) : cnt24 si p = popS (sgN si p) 24 := by
  unfold cnt24
  rw [filt_pop]
  refine popS_congr 24 (fun h _ => ?_)
  unfold sgN
  by_cases w : si (p * 24 + h) < 0
  · rw [if_pos w, if_neg (fun z => (of_decide_eq_true z) w)]
  · rw [if_neg w, if_pos (decide_eq_true w)]
theorem cls_sights {si : Nat → Int32} {p : Nat} {Q : Int32 → Prop} (hp : p < 8) (hQ : Q (nI (cnt24 si p))) : wp_X6_sightCount (nI p) si Q := by
  rw [cnt_pop] at hQ
  unfold wp_X6_sightCount
  refine run2 (F := wl_X6_sightCount_4 (nI p) si Q) 24 (fun k => nI (popS (sgN si p) k)) (fun k => nI k) ?_ ?_
  · intro k hk n ih
    rw [wl_X6_sightCount_4]
    simp (disch := omega) only [wb_X6_sightCount_4, nI_natle, show ¬ 24 ≤ k from by omega, nI_mul, nI_add, vpin, nI_clamp, not_true_eq_false, not_false_eq_true, forall_const, true_implies, false_implies, implies_true, and_true, true_and, and_false, false_and, or_true, true_or, or_false, false_or, forall_eq, ↓reduceIte, ne_eq, nI1ne, nI0eq, Classical.not_not, eq_self, reduceCtorEq]
    have e : popS (sgN si p) (k + 1) = popS (sgN si p) k + (if si (p * 24 + k) < 0 then 0 else 1) := rfl
    rw [e] at ih
    by_cases w : si (p * 24 + k) < 0
    · simp only [w, Nat.add_zero, not_true_eq_false, not_false_eq_true, forall_const, true_implies, false_implies, implies_true, and_true, true_and, and_false, false_and, or_true, true_or, or_false, false_or, forall_eq, ↓reduceIte, ne_eq, nI1ne, nI0eq, Classical.not_not, eq_self, reduceCtorEq] at ih ⊢; exact ih
    · simp only [w, not_true_eq_false, not_false_eq_true, forall_const, true_implies, false_implies, implies_true, and_true, true_and, and_false, false_and, or_true, true_or, or_false, false_or, forall_eq, ↓reduceIte, ne_eq, nI1ne, nI0eq, Classical.not_not, eq_self, reduceCtorEq] at ih ⊢; exact ih
  · intro n
    rw [wl_X6_sightCount_4]
    simp (disch := omega) only [wb_X6_sightCount_4, nI_natle, Nat.le_refl, not_true_eq_false, not_false_eq_true, forall_const, true_implies, false_implies, implies_true, and_true, true_and, and_false, false_and, or_true, true_or, or_false, false_or, forall_eq, ↓reduceIte, ne_eq, nI1ne, nI0eq, Classical.not_not, eq_self, reduceCtorEq]
    exact hQ
theorem mod_seen {s : Nat → Int32} {night : Int32} {p x h c : Nat} {ho sp : Nat → Nat} {K : Int32 → (Nat → Int32) → Int32 → Prop} (hp : p < 8) (hx : x < 30) (hh : h < 24) (hc : c ≤ 12) (e1 : s (250 + p) = nI c) (A : ∀ k, k < c → ho k < 24 ∧ sp k < 30 ∧ s (260 + 12 * p + k) = nI (sp k) ∧ s (356 + 12 * p + k) = nI (ho k))
    (k0 : ¬ (¬ s (20 + x) = nI 5 ∧ ∀ k, k < c → ho k = h → sp k = x) → K (-3) s night)
    (k1 : (¬ s (20 + x) = nI 5 ∧ ∀ k, k < c → ho k = h → sp k = x) → (∃ k, k < c ∧ ho k = h) → K (nI c) s night)
    (k2 : (¬ s (20 + x) = nI 5 ∧ ∀ k, k < c → ho k = h → sp k = x) → ¬ (∃ k, k < c ∧ ho k = h) → c = 12 → K (-4) s night)
    (k3 : (¬ s (20 + x) = nI 5 ∧ ∀ k, k < c → ho k = h → sp k = x) → ¬ (∃ k, k < c ∧ ho k = h) → c < 12 → K (nI (c + 1)) (upd (upd (upd s (260 + 12 * p + c) (nI x)) (356 + 12 * p + c) (nI h)) (250 + p) (nI (c + 1))) (night + nI 1)) : ∃ n, wl_X12_seen_52 (nI p) (nI x) (nI h) s night K n (if s (20 + x) = nI 5 then nI 0 else nI 1) (nI 0) (nI 0) := by
  refine meas3 (F := wl_X12_seen_52 (nI p) (nI x) (nI h) s night K) (fun v4 v5 v6 => ∃ i, i ≤ c ∧ v6 = nI i ∧ isB v4 (¬ s (20 + x) = nI 5 ∧ ∀ k, k < i → ho k = h → sp k = x) ∧ isB v5 (∃ k, k < i ∧ ho k = h)) (fun _ _ v6 => c - v6.toNatClampNeg) ?_ _ _ _ ⟨0, by omega, rfl, ?_, Or.inr ⟨fun ⟨k, hk, _⟩ => by omega, rfl⟩⟩
  · rintro v4 v5 v6 ⟨i, hi, rfl, b4, b5⟩ m ih
    rw [wl_X12_seen_52]
    have z4 := isB_0 b4
    have z5 := isB_0 b5
    by_cases w : i = c
    · subst w
      simp (disch := omega) only [wb_X12_seen_52, nI_add, nI_mul, nI_clamp, vpin, e1, nI_natle, Nat.le_refl, z4, z5, updne, upde, nI_nateq, not_true_eq_false, not_false_eq_true, forall_const, true_implies, false_implies, implies_true, and_true, true_and, and_false, false_and, or_true, true_or, or_false, false_or, forall_eq, ↓reduceIte, ne_eq, nI1ne, nI0eq, Classical.not_not, eq_self, reduceCtorEq]
      refine ⟨fun g => ⟨fun nw => ⟨fun n12 => ?_, fun e12 => ?_⟩, fun yw => ?_⟩, fun g => k0 g⟩
      · exact k3 g nw (by omega)
      · exact k2 g nw e12
      · exact k1 g yw
    · obtain ⟨l1, l2, a1, a2⟩ := A i (by omega)
      simp (disch := omega) only [wb_X12_seen_52, nI_add, nI_mul, nI_clamp, vpin, e1, nI_natle, show ¬ c ≤ i from by omega, a1, a2, nI_nateq, not_true_eq_false, not_false_eq_true, forall_const, true_implies, false_implies, implies_true, and_true, true_and, and_false, false_and, or_true, true_or, or_false, false_or, forall_eq, ↓reduceIte, ne_eq, nI1ne, nI0eq, Classical.not_not, eq_self, reduceCtorEq]
      refine ih _ _ _ ⟨i + 1, by omega, rfl, ?_, ?_⟩ (by rw [nI_clamp (by omega), nI_clamp (by omega)]; omega)
      · by_cases wh : ho i = h
        · simp only [wh, nI1ne, not_true_eq_false, not_false_eq_true, forall_const, true_implies, false_implies, implies_true, and_true, true_and, and_false, false_and, or_true, true_or, or_false, false_or, forall_eq, ↓reduceIte, ne_eq, nI1ne, nI0eq, Classical.not_not, eq_self, reduceCtorEq]
          rcases b4 with ⟨b, rfl⟩ | ⟨b, rfl⟩
          · rw [if_neg (by rw [nI1ne]; exact id)]
            by_cases ws : sp i = x
            · rw [if_pos ws]
              refine Or.inl ⟨⟨b.1, fun k hk hkh => ?_⟩, rfl⟩
              by_cases e : k = i
              · rw [e]; exact ws
              · exact b.2 k (by omega) hkh
            · rw [if_neg ws]
              exact Or.inr ⟨fun z => ws (z.2 i (by omega) wh), rfl⟩
          · rw [if_pos (of_eq_true nI0eq)]
            exact Or.inr ⟨fun z => b ⟨z.1, fun k hk => z.2 k (by omega)⟩, rfl⟩
        · simp only [wh, nI0eq, not_true_eq_false, not_false_eq_true, forall_const, true_implies, false_implies, implies_true, and_true, true_and, and_false, false_and, or_true, true_or, or_false, false_or, forall_eq, ↓reduceIte, ne_eq, nI1ne, nI0eq, Classical.not_not, eq_self, reduceCtorEq]
          rcases b4 with ⟨b, rfl⟩ | ⟨b, rfl⟩
          · rw [if_neg (by rw [nI1ne]; exact id)]
            refine Or.inl ⟨⟨b.1, fun k hk hkh => ?_⟩, rfl⟩
            by_cases e : k = i
            · rw [e] at hkh; exact absurd hkh wh
            · exact b.2 k (by omega) hkh
          · rw [if_pos (of_eq_true nI0eq)]
            exact Or.inr ⟨fun z => b ⟨z.1, fun k hk => z.2 k (by omega)⟩, rfl⟩
      · by_cases wh : ho i = h
        · have y : ∃ k, k < i + 1 ∧ ho k = h := ⟨i, by omega, wh⟩
          simp only [wh, nI1ne, not_true_eq_false, not_false_eq_true, forall_const, true_implies, false_implies, implies_true, and_true, true_and, and_false, false_and, or_true, true_or, or_false, false_or, forall_eq, ↓reduceIte, ne_eq, nI1ne, nI0eq, Classical.not_not, eq_self, reduceCtorEq]
          split
          · exact Or.inl ⟨y, rfl⟩
          · exact Or.inl ⟨y, rfl⟩
        · simp only [wh, nI0eq, not_true_eq_false, not_false_eq_true, forall_const, true_implies, false_implies, implies_true, and_true, true_and, and_false, false_and, or_true, true_or, or_false, false_or, forall_eq, ↓reduceIte, ne_eq, nI1ne, nI0eq, Classical.not_not, eq_self, reduceCtorEq]
          rcases b5 with ⟨⟨k, hk, b⟩, rfl⟩ | ⟨b, rfl⟩
          · rw [if_neg (by rw [nI1ne]; exact id)]
            exact Or.inl ⟨⟨k, by omega, b⟩, rfl⟩
          · rw [if_pos (of_eq_true nI0eq)]
            refine Or.inr ⟨fun ⟨k, hk, z⟩ => b ⟨k, ?_, z⟩, rfl⟩
            by_cases e : k = i
            · rw [e] at z; exact absurd z wh
            · omega
  · by_cases w : s (20 + x) = nI 5
    · rw [if_pos w]; exact Or.inr ⟨fun z => z.1 w, rfl⟩
    · rw [if_neg w]; exact Or.inl ⟨⟨w, fun k hk => by omega⟩, rfl⟩
theorem m1lt : ((-1 : Int32) < 0) = True := eq_true (by decide)
theorem m1le : ((0 : Int32) ≤ -1) = False := eq_false (by decide)
theorem core_seen {gr ds fh lh : Nat → Int32} {dc : Int32} {si s : Nat → Int32} {night p1 p2 p3 : Int32} {R : (Nat → Int32) → (Nat → Int32) → Int32 → Prop} (hgr : ∀ i, i < 30 → gr i = s (20 + i) ∧ isN (s (20 + i)) 5) (h : INight ds fh lh dc si s) (h0 : R si s night) (hR : ∀ w v, INight ds fh lh dc w v → outS idxN s v → R w v (night + nI 1)) : wp_X11_seen p1 p2 p3 gr si (fun r w => wp_X12_seen p1 p2 p3 s night (fun r' v y => r = r' ∧ R w v y)) := by
  obtain ⟨hd, h5⟩ := id h
  rcases in_cases p1 0 7 (by decide) (by decide) with ⟨g1, -⟩ | ⟨g1, p, -, hp, rfl⟩
  · simp only [wp_X11_seen, wp_X12_seen, f_X11_isPerson, f_X12_isPerson, within_eq, g1, not_true_eq_false, not_false_eq_true, forall_const, true_implies, false_implies, implies_true, and_true, true_and, and_false, false_and, or_true, true_or, or_false, false_or, forall_eq, ↓reduceIte, ne_eq, nI1ne, nI0eq, Classical.not_not, eq_self, reduceCtorEq]
    exact h0
  rcases in_cases p2 0 29 (by decide) (by decide) with ⟨g2, -⟩ | ⟨g2, x, -, hx, rfl⟩
  · simp only [wp_X11_seen, wp_X12_seen, f_X11_isPerson, f_X12_isPerson, f_X11_isSpot, f_X12_isSpot, within_eq, g1, g2, nI1ne, not_true_eq_false, not_false_eq_true, forall_const, true_implies, false_implies, implies_true, and_true, true_and, and_false, false_and, or_true, true_or, or_false, false_or, forall_eq, ↓reduceIte, ne_eq, nI1ne, nI0eq, Classical.not_not, eq_self, reduceCtorEq]
    exact h0
  rcases in_cases p3 0 23 (by decide) (by decide) with ⟨g3, -⟩ | ⟨g3, y, -, hy, rfl⟩
  · simp only [wp_X11_seen, wp_X12_seen, f_X11_isPerson, f_X12_isPerson, f_X11_isSpot, f_X12_isSpot, f_X11_isHour, f_X12_isHour, within_eq, g1, g2, g3, nI1ne, not_true_eq_false, not_false_eq_true, forall_const, true_implies, false_implies, implies_true, and_true, true_and, and_false, false_and, or_true, true_or, or_false, false_or, forall_eq, ↓reduceIte, ne_eq, nI1ne, nI0eq, Classical.not_not, eq_self, reduceCtorEq]
    exact h0
  obtain ⟨c, ho, sp, hc, e1, e2, A, B⟩ := h5 p (by omega)
  have A' : ∀ k, k < c → ho k < 24 ∧ sp k < 30 ∧ s (260 + 12 * p + k) = nI (sp k) ∧ s (356 + 12 * p + k) = nI (ho k) := fun k hk => ⟨(A k hk).1, (A k hk).2.1, (A k hk).2.2.1, (A k hk).2.2.2.1⟩
  have mo : ∀ K : Int32 → (Nat → Int32) → Int32 → Prop, (∃ n, wl_X12_seen_52 (nI p) (nI x) (nI y) s night K n (if s (20 + x) = nI 5 then nI 0 else nI 1) (nI 0) (nI 0)) → wp_X12_seen (nI p) (nI x) (nI y) s night K := by
    intro K hK
    simp (disch := omega) only [wp_X12_seen, f_X12_isPerson, f_X12_isSpot, f_X12_isHour, g1, g2, g3, nI_add, nI_clamp, vpin, nI1ne, not_true_eq_false, not_false_eq_true, forall_const, true_implies, false_implies, implies_true, and_true, true_and, and_false, false_and, or_true, true_or, or_false, false_or, forall_eq, ↓reduceIte, ne_eq, nI1ne, nI0eq, Classical.not_not, eq_self, reduceCtorEq]
    exact hK
  have mS : ¬ (¬ s (20 + x) = nI 5 ∧ ∀ k, k < c → ho k = y → sp k = x) → wp_X12_seen (nI p) (nI x) (nI y) s night (fun r' v z => (-3) = r' ∧ R si v z) := fun g => mo _ (mod_seen (by omega) (by omega) (by omega) hc e1 A' (fun _ => ⟨rfl, h0⟩) (fun z => absurd z g) (fun z => absurd z g) (fun z => absurd z g))
  simp (disch := omega) only [wp_X11_seen, f_X11_isPerson, f_X11_isSpot, f_X11_isHour, within_eq, g1, g2, g3, nI_mul, nI_add, vpin, nI_clamp, (hgr x (by omega)).1, nI1ne, not_true_eq_false, not_false_eq_true, forall_const, true_implies, false_implies, implies_true, and_true, true_and, and_false, false_and, or_true, true_or, or_false, false_or, forall_eq, ↓reduceIte, ne_eq, nI1ne, nI0eq, Classical.not_not, eq_self, reduceCtorEq]
  refine ⟨fun w5 => mS (fun z => z.1 w5), fun w5 => ?_⟩
  rcases B y (by omega) with em | ⟨k, hk, ek⟩
  · have nW : ¬ ∃ k, k < c ∧ ho k = y := by
      rintro ⟨k, hk, ek⟩
      have := (A k hk).2.2.2.2
      rw [ek, em] at this
      exact m1_ne (p := sp k) (by have := (A k hk).2.1; omega) this
    have gG : ¬ s (20 + x) = nI 5 ∧ ∀ k, k < c → ho k = y → sp k = x := ⟨w5, fun k hk e => absurd ⟨k, hk, e⟩ nW⟩
    simp only [em, m1lt, m1le, not_true_eq_false, not_false_eq_true, forall_const, true_implies, false_implies, implies_true, and_true, true_and, and_false, false_and, or_true, true_or, or_false, false_or, forall_eq, ↓reduceIte, ne_eq, nI1ne, nI0eq, Classical.not_not, eq_self, reduceCtorEq]
    refine cls_sights (by omega) ?_
    rw [e2, nI_natlt (by omega) (by omega)]
    refine ⟨fun hc2 => ?_, fun hc2 => ?_⟩
    · simp (disch := omega) only [wk_X11_seen_99, nI_mul, nI_add, vpin, nI_clamp, not_true_eq_false, not_false_eq_true, forall_const, true_implies, false_implies, implies_true, and_true, true_and, and_false, false_and, or_true, true_or, or_false, false_or, forall_eq, ↓reduceIte, ne_eq, nI1ne, nI0eq, Classical.not_not, eq_self, reduceCtorEq]
      have ec : cnt24 (upd si (p * 24 + y) (nI x)) p = c + 1 := by
        rw [cnt_pop, ← e2, cnt_pop]
        refine popS_up1 (j := y) 24 (by omega) (fun i hi hne => ?_) ?_ ?_
        · unfold sgN; rw [updne (by omega)]
        · unfold sgN; rw [em, if_pos (of_eq_true m1lt)]
        · unfold sgN; rw [upde, if_neg (nI_pos (by omega))]
      refine cls_sights (by omega) ?_
      rw [ec]
      refine mo _ (mod_seen (by omega) (by omega) (by omega) hc e1 A' (fun z => absurd gG z) (fun _ z => absurd z nW) (fun _ _ z => absurd z (by omega)) (fun _ _ _ => ⟨rfl, hR _ _ ⟨?_, fun q hq => ?_⟩ (fun j hj => ?_)⟩))
      · obtain ⟨d, hd1, hd2, hd3, hd4, hd5⟩ := hd
        refine ⟨d, hd1, hd2, ?_, fun i hi => ?_, fun i hi => ?_⟩
        · simp (disch := omega) only [updne]; exact hd3
        · simp (disch := omega) only [updne]; exact hd4 i hi
        · simp (disch := omega) only [updne]; exact hd5 i hi
      · by_cases e : q = p
        · subst e
          refine ⟨c + 1, fun k => if k = c then y else ho k, fun k => if k = c then x else sp k, by omega, upde, ec, fun k hk => ?_, fun i hi => ?_⟩
          · by_cases ek : k = c
            · subst ek
              simp (disch := omega) only [upde, updne, ↓reduceIte]
              exact ⟨by omega, by omega, trivial, trivial, trivial⟩
            · obtain ⟨a1, a2, a3, a4, a5⟩ := A k (by omega)
              have hne : ho k ≠ y := fun z => nW ⟨k, by omega, z⟩
              simp (disch := omega) only [ek, updne, ↓reduceIte]
              exact ⟨a1, a2, a3, a4, a5⟩
          · by_cases e3 : i = y
            · exact Or.inr ⟨c, by omega, by show (if c = c then y else ho c) = i; rw [if_pos rfl]; exact e3.symm⟩
            · rcases B i hi with z | ⟨k, hk, z⟩
              · left; rw [updne (by omega)]; exact z
              · exact Or.inr ⟨k, by omega, by show (if k = c then y else ho k) = i; rw [if_neg (by omega)]; exact z⟩
        · obtain ⟨c', ho', sp', f1, f2, f3, f4, f5⟩ := h5 q hq
          refine ⟨c', ho', sp', f1, by simp (disch := omega) only [updne]; exact f2, ?_, fun k hk => ?_, fun i hi => ?_⟩
          · rw [← f3, cnt_pop, cnt_pop]
            refine popS_congr 24 (fun i hi => ?_)
            unfold sgN
            rw [updne (by omega)]
          · have l1 := (f4 k hk).1
            simp (disch := omega) only [updne]
            exact f4 k hk
          · rw [updne (by omega)]
            exact f5 i hi
      · unfold idxN at hj
        simp (disch := omega) only [updne]
    · exact mo _ (mod_seen (by omega) (by omega) (by omega) hc e1 A' (fun z => absurd gG z) (fun _ z => absurd z nW) (fun _ _ _ => ⟨rfl, h0⟩) (fun _ _ z => absurd z (by omega)))
  · have a5 := (A k hk).2.2.2.2
    have a2 := (A k hk).2.1
    rw [ek] at a5
    have yW : ∃ k, k < c ∧ ho k = y := ⟨k, hk, ek⟩
    simp (disch := omega) only [a5, nI_pos, nI_pos', nI_nateq, not_true_eq_false, not_false_eq_true, forall_const, true_implies, false_implies, implies_true, and_true, true_and, and_false, false_and, or_true, true_or, or_false, false_or, forall_eq, ↓reduceIte, ne_eq, nI1ne, nI0eq, Classical.not_not, eq_self, reduceCtorEq]
    refine ⟨fun w => mS (fun z => w (z.2 k hk ek)), fun w => ?_⟩
    have gG : ¬ s (20 + x) = nI 5 ∧ ∀ k, k < c → ho k = y → sp k = x := by
      refine ⟨w5, fun k2 hk2 e => ?_⟩
      have b5 := (A k2 hk2).2.2.2.2
      have b2 := (A k2 hk2).2.1
      rw [e, a5] at b5
      rw [← w]
      exact ((nI_eq (by omega) (by omega)).mp b5).symm
    have same : upd si (p * 24 + y) (nI x) = si := by
      funext j
      by_cases e : j = p * 24 + y
      · subst e; rw [upde, a5, w]
      · rw [updne e]
    simp (disch := omega) only [wk_X11_seen_99, nI_mul, nI_add, vpin, nI_clamp, same, not_true_eq_false, not_false_eq_true, forall_const, true_implies, false_implies, implies_true, and_true, true_and, and_false, false_and, or_true, true_or, or_false, false_or, forall_eq, ↓reduceIte, ne_eq, nI1ne, nI0eq, Classical.not_not, eq_self, reduceCtorEq]
    refine cls_sights (by omega) ?_
    rw [e2]
    exact mo _ (mod_seen (by omega) (by omega) (by omega) hc e1 A' (fun z => absurd gG z) (fun _ _ => ⟨rfl, h0⟩) (fun _ z => absurd yW z) (fun _ z => absurd yW z))
