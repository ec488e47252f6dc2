def nbY (k : Nat) : Int32 := if k = 0 then nI 1 else if k = 1 then -1 else if k = 2 then nI 6 else -6
def nbr (a k : Nat) : Nat := if k = 0 then a + 1 else if k = 1 then (if a = 0 then 30 else a - 1) else if k = 2 then a + 6 else (if a < 6 then 30 else a - 6)
theorem nbF : ∀ a, a < 30 → ∀ k, k < 4 → f_X12_isSpot (nI a + nbY k) = nI (if nbr a k < 30 then 1 else 0) ∧ (nbr a k < 30 → nI a + nbY k = nI (nbr a k)) := by decide +kernel
theorem nbB {a b : Nat} (hb : b < 30) (h : besideN a b = true) : ∃ k, k < 4 ∧ nbr a k = b := by
  unfold besideN at h
  rw [decide_eq_true_eq] at h
  have : b = a + 1 ∨ a = b + 1 ∨ b = a + 6 ∨ a = b + 6 := by omega
  rcases this with e | e | e | e
  · exact ⟨0, by omega, by unfold nbr; rw [if_pos rfl]; exact e.symm⟩
  · refine ⟨1, by omega, ?_⟩
    unfold nbr
    rw [if_neg (by omega), if_pos rfl, if_neg (by omega)]
    omega
  · refine ⟨2, by omega, ?_⟩
    unfold nbr
    rw [if_neg (by omega), if_neg (by omega), if_pos rfl]
    exact e.symm
  · refine ⟨3, by omega, ?_⟩
    unfold nbr
    rw [if_neg (by omega), if_neg (by omega), if_neg (by omega), if_neg (by omega)]
    omega
theorem nbV : ∀ k, k < 4 → (if nI k = 0 then nI 1 else if nI k = nI 1 then (-1 : Int32) else if nI k = nI 2 then nI 6 else -6) = nbY k := by decide +kernel
/-- a table of ways: spots by sets of doors -/
def MA (A : Nat → Int32) (M : Nat → Nat → Bool) (T : Nat) : Prop := ∀ a t, a < 30 → t < T → A (64 * a + t) = nI (if M a t then 1 else 0)
theorem nIb0 (b : Bool) : (nI (if b = true then 1 else 0) = 0) = (b = false) := by
  cases b
  · exact (eq_true (by decide)).trans (eq_true rfl).symm
  · exact (eq_false (by decide)).trans (eq_false (by decide)).symm
theorem isB_b {x : Int32} {P : Prop} {b : Bool} (h : isB x P) (e : P ↔ b = true) : x = nI (if b then 1 else 0) := by
  rcases h with ⟨h1, rfl⟩ | ⟨h1, rfl⟩
  · rw [e.mp h1]; rfl
  · have : b = false := Bool.eq_false_iff.mpr (fun z => h1 (e.mpr z))
    rw [this]; rfl
theorem nar_b (b : Bool) : vp_nar .boolean (nI (if b = true then 1 else 0)) = nI (if b = true then 1 else 0) := by cases b <;> decide
theorem mod_can {s : Nat → Int32} {p a h c : Nat} {Q : Int32 → Prop} (hp : p < 8) (ha : a < 30) (hh : h < 24) (hc : c ≤ 12) (e : s (250 + p) = nI c) (hQ : Q (nI (if canN s p h a then 1 else 0))) : wp_X12_canBe (nI p) (nI a) (nI h) s Q := by
  unfold wp_X12_canBe
  rw [nI_add, nI_clamp (by omega)]
  refine ⟨vp_in_nI (by omega) (by omega), fun y hy => ?_⟩
  refine meas2 (F := wl_X12_canBe_23 (nI p) (nI a) (nI h) s Q) (fun v4 v5 => ∃ i, i ≤ c ∧ v5 = nI i ∧ isB v4 (¬ s (20 + a) = nI 5 ∧ ∀ k, k < i → s (356 + 12 * p + k) = nI h → s (260 + 12 * p + k) = nI a)) (fun _ v5 => c - v5.toNatClampNeg) ?_ _ _ ⟨0, by omega, rfl, ?_⟩
  · rintro v4 v5 ⟨i, hi, rfl, hB⟩ m ih
    rw [wl_X12_canBe_23]
    by_cases w : i = c
    · subst w
      simp (disch := omega) only [wb_X12_canBe_23, nI_add, nI_clamp, vpin, e, nI_natle, Nat.le_refl, not_true_eq_false, not_false_eq_true, forall_const, true_implies, false_implies, implies_true, and_true, true_and, and_false, false_and, or_true, true_or, or_false, false_or, forall_eq, ↓reduceIte, ne_eq, nI1ne, nI0eq, Classical.not_not, eq_self, reduceCtorEq]
      refine ⟨?_, ?_⟩
      · rcases hB with ⟨-, e⟩ | ⟨-, e⟩
        · rw [e]; exact zb1
        · rw [e]; exact zb0
      · rw [isB_b hB (b := canN s p h a) (by rw [canN_iff hc e]; exact ⟨fun z => ⟨ha, z.1, z.2⟩, fun z => ⟨z.2.1, z.2.2⟩⟩)]
        exact hQ
    · simp (disch := omega) only [wb_X12_canBe_23, nI_add, nI_mul, nI_clamp, vpin, e, nI_natle, show ¬ c ≤ i from by omega, not_true_eq_false, not_false_eq_true, forall_const, true_implies, false_implies, implies_true, and_true, true_and, and_false, false_and, or_true, true_or, or_false, false_or, forall_eq, ↓reduceIte, ne_eq, nI1ne, nI0eq, Classical.not_not, eq_self, reduceCtorEq]
      refine ih _ _ ⟨i + 1, by omega, rfl, ?_⟩ (by rw [nI_clamp (by omega), nI_clamp (by omega)]; omega)
      rcases hB with ⟨hB, rfl⟩ | ⟨hB, rfl⟩
      · rw [if_neg (by rw [nI1ne]; exact id)]
        by_cases c1 : s (356 + 12 * p + i) = nI h
        · rw [if_pos c1]
          by_cases c2 : s (260 + 12 * p + i) = nI a
          · rw [if_pos c2]
            refine Or.inl ⟨⟨hB.1, fun k hk z => ?_⟩, rfl⟩
            by_cases ek : k = i
            · rw [ek]; exact c2
            · exact hB.2 k (by omega) z
          · rw [if_neg c2]
            exact Or.inr ⟨fun z => c2 (z.2 i (by omega) c1), rfl⟩
        · rw [if_neg c1]
          refine Or.inl ⟨⟨hB.1, fun k hk z => ?_⟩, rfl⟩
          by_cases ek : k = i
          · rw [ek] at z; exact absurd z c1
          · exact hB.2 k (by omega) z
      · rw [if_pos (of_eq_true nI0eq)]
        exact Or.inr ⟨fun z => hB ⟨z.1, fun k hk => z.2 k (by omega)⟩, rfl⟩
  · rw [hy]
    by_cases w : s (20 + a) = nI 5
    · rw [if_pos w]; exact Or.inr ⟨fun z => z.1 w, rfl⟩
    · rw [if_neg w]; exact Or.inl ⟨⟨w, fun k hk => by omega⟩, rfl⟩
theorem mod_116 {s may next : Nat → Int32} {p h a t T : Nat} {M : Nat → Nat → Bool} {L : Int32 → (Nat → Int32) → Prop} (hh : h < 24) (ha : a < 30) (ht : t < T) (hT : T ≤ 64) (hm : MA may M T) (hL : L (nI (t + 1)) (upd next (64 * a + t) (nI (if nxN s p h M a t then 1 else 0)))) : ∃ n, wl_X12_walks_116 (nI h) may (nI a) (nI (if canN s p h a then 1 else 0)) (nI t) next L n (may (64 * a + t)) (nI 0) := by
  refine meas2 (F := wl_X12_walks_116 (nI h) may (nI a) (nI (if canN s p h a then 1 else 0)) (nI t) next L) (fun v6 v7 => ∃ k, k ≤ 4 ∧ v7 = nI k ∧ (h = 0 → k = 0) ∧ isB v6 (M a t = true ∨ ∃ j, j < k ∧ nbr a j < 30 ∧ besideN a (nbr a j) = true ∧ M (nbr a j) t = true)) (fun _ v7 => 4 - v7.toNatClampNeg) ?_ _ _ ⟨0, by omega, rfl, fun _ => rfl, ?_⟩
  · rintro v6 v7 ⟨k, hk, rfl, hk0, hB⟩ m ih
    rw [wl_X12_walks_116]
    unfold wb_X12_walks_116
    rw [nI_natle (by omega) (by omega), le_0 (by omega)]
    refine ⟨?_, fun g => ?_⟩
    · rintro ⟨g1, g2, g3⟩
      have hk4 : k < 4 := by omega
      have nX : ¬ (M a t = true ∨ ∃ j, j < k ∧ nbr a j < 30 ∧ besideN a (nbr a j) = true ∧ M (nbr a j) t = true) := by
        rw [isB_0 hB] at g3; exact g3
      obtain ⟨f1, f2⟩ := nbF a ha k hk4
      intro y1 hy1
      rw [nbV k hk4] at hy1
      subst hy1
      rw [f1, nI_add]
      by_cases c1 : nbr a k < 30
      · rw [f2 c1, beside_eq a ha _ c1, if_pos c1, nI_mul, nI_add, nI_clamp (by omega)]
        refine ⟨fun _ _ => vp_in_nI (by omega) (by omega), fun y0 hy0 => ?_⟩
        rw [if_neg (by rw [nI1ne]; exact id)] at hy0
        refine ih _ _ ⟨k + 1, by omega, rfl, fun z => by omega, ?_⟩ (by rw [nI_clamp (by omega), nI_clamp (by omega)]; omega)
        by_cases c2z : nI (if besideN a (nbr a k) = true then 1 else 0) = 0
        · have c2 : besideN a (nbr a k) = false := Eq.mp (nIb0 _) c2z
          rw [if_pos c2z] at hy0
          refine Or.inr ⟨?_, hy0⟩
          rintro (z | ⟨j, j1, j2, j3, j4⟩)
          · exact nX (Or.inl z)
          · by_cases ej : j = k
            · rw [ej, c2] at j3; cases j3
            · exact nX (Or.inr ⟨j, by omega, j2, j3, j4⟩)
        · have c2' : besideN a (nbr a k) = true := by
            cases hb : besideN a (nbr a k)
            · exact absurd (Eq.mpr (nIb0 _) hb) c2z
            · rfl
          rw [if_neg c2z, hm _ t c1 ht] at hy0
          by_cases c3 : M (nbr a k) t = true
          · rw [c3, if_pos rfl, if_neg (by rw [nI1ne]; exact id)] at hy0
            exact Or.inl ⟨Or.inr ⟨k, by omega, c1, c2', c3⟩, hy0⟩
          · have c3' : M (nbr a k) t = false := Bool.eq_false_iff.mpr c3
            rw [c3', show nI (if false = true then 1 else 0) = nI 0 from rfl, if_pos (of_eq_true nI0eq)] at hy0
            refine Or.inr ⟨?_, hy0⟩
            rintro (z | ⟨j, j1, j2, j3, j4⟩)
            · exact nX (Or.inl z)
            · by_cases ej : j = k
              · rw [ej, c3'] at j4; cases j4
              · exact nX (Or.inr ⟨j, by omega, j2, j3, j4⟩)
      · rw [if_neg c1]
        refine ⟨fun z => absurd (of_eq_true nI0eq) z, fun y0 hy0 => ?_⟩
        rw [if_pos (of_eq_true nI0eq)] at hy0
        refine ih _ _ ⟨k + 1, by omega, rfl, fun z => by omega, Or.inr ⟨?_, hy0⟩⟩ (by rw [nI_clamp (by omega), nI_clamp (by omega)]; omega)
        rintro (z | ⟨j, j1, j2, j3, j4⟩)
        · exact nX (Or.inl z)
        · by_cases ej : j = k
          · rw [ej] at j2; exact c1 j2
          · exact nX (Or.inr ⟨j, by omega, j2, j3, j4⟩)
    · intro y2 hy2
      have full : isB v6 (M a t = true ∨ 0 < h ∧ ∃ b, b < 30 ∧ besideN a b = true ∧ M b t = true) := by
        refine isB_iff hB ⟨?_, ?_⟩
        · rintro (z | ⟨j, j1, j2, j3, j4⟩)
          · exact Or.inl z
          · refine Or.inr ⟨?_, _, j2, j3, j4⟩
            apply Classical.byContradiction
            intro h0
            have := hk0 (by omega)
            omega
        · rintro (z | ⟨h0, b, b1, b2, b3⟩)
          · exact Or.inl z
          · apply Classical.byContradiction
            intro nX
            have v0 : v6 = 0 := by rw [isB_0 hB]; exact nX
            have k4 : k = 4 := by
              apply Classical.byContradiction
              intro ne
              exact g ⟨by omega, by omega, v0⟩
            obtain ⟨j, j1, j2⟩ := nbB b1 b2
            exact nX (Or.inr ⟨j, by omega, by rw [j2]; exact b1, by rw [j2]; exact b2, by rw [j2]; exact b3⟩)
      have ey : y2 = nI (if nxN s p h M a t then 1 else 0) := by
        rw [hy2]
        cases hc : canN s p h a
        · have : nxN s p h M a t = false := Bool.eq_false_iff.mpr (fun z => by
            have := ((nxN_iff s p h M a t).mp z).1
            rw [hc] at this
            cases this)
          rw [this]
          split
          · rfl
          · rfl
        · rw [if_neg (show ¬ nI (if true = true then 1 else 0) = 0 by decide)]
          rcases full with ⟨z, rfl⟩ | ⟨z, rfl⟩
          · rw [if_neg (by rw [nI1ne]; exact id), (nxN_iff s p h M a t).mpr ⟨hc, z⟩]; rfl
          · have : nxN s p h M a t = false := Bool.eq_false_iff.mpr (fun y => z ((nxN_iff s p h M a t).mp y).2)
            rw [if_pos (of_eq_true nI0eq), this]; rfl
      rw [ey, nI_mul, nI_add, nI_clamp (by omega), nI_add, nar_b]
      exact ⟨vp_in_nI (by omega) (by omega), hL⟩
  · rw [hm a t ha ht]
    cases hb : M a t
    · exact Or.inr ⟨fun z => z.elim (fun z => by cases z) (fun ⟨j, j1, _⟩ => by omega), rfl⟩
    · exact Or.inl ⟨Or.inl rfl, rfl⟩
theorem mod_85 {s may next0 : Nat → Int32} {p h a d : Nat} {M : Nat → Nat → Bool} {L : Int32 → (Nat → Int32) → Prop} (hh : h < 24) (ha : a < 30) (hd : d ≤ 6) (e6 : s 6 = nI d) (hm : MA may M (2 ^ d)) (hL : ∀ next, (∀ t, t < 2 ^ d → next (64 * a + t) = nI (if nxN s p h M a t then 1 else 0)) → (∀ j, ¬ (64 * a ≤ j ∧ j < 64 * a + 64) → next j = next0 j) → L (nI (a + 1)) next) : ∃ n, wl_X12_walks_85 s (nI h) may (nI a) L (nI (if canN s p h a then 1 else 0)) n (nI 0) next0 := by
  obtain ⟨q1, q2, q3⟩ := shlF d (by omega)
  refine meas2 (F := wl_X12_walks_85 s (nI h) may (nI a) L (nI (if canN s p h a then 1 else 0))) (fun v5 next => ∃ t, t ≤ 2 ^ d ∧ v5 = nI t ∧ (∀ u, u < t → next (64 * a + u) = nI (if nxN s p h M a u then 1 else 0)) ∧ ∀ j, ¬ (64 * a ≤ j ∧ j < 64 * a + 64) → next j = next0 j) (fun v5 _ => 2 ^ d - v5.toNatClampNeg) ?_ _ _ ⟨0, by omega, rfl, fun u hu => by omega, fun _ _ => rfl⟩
  rintro v5 next ⟨t, ht, rfl, i1, i2⟩ m ih
  rw [wl_X12_walks_85]
  unfold wb_X12_walks_85
  rw [e6, q1, nI_natle (by omega) (by omega)]
  refine ⟨fun z => ?_, fun z => ?_⟩
  · have e : t = 2 ^ d := by omega
    subst e
    rw [nI_add]
    exact hL next i1 i2
  · rw [nI_mul, nI_add, nI_clamp (by omega)]
    refine ⟨vp_in_nI (by omega) (by omega), fun x hx => ?_⟩
    rw [hx]
    refine mod_116 hh ha (show t < 2 ^ d by omega) q2 hm (ih _ _ ⟨t + 1, by omega, rfl, fun u hu => ?_, fun j hj => ?_⟩ (by rw [nI_clamp (by omega), nI_clamp (by omega)]; omega))
    · by_cases e : u = t
      · subst e; rw [upde]
      · rw [updne (by omega)]; exact i1 u (by omega)
    · rw [updne (by omega)]; exact i2 j hj
theorem mod_294 {s next may0 : Nat → Int32} {h a t d : Nat} {N : Nat → Nat → Bool} {L : Int32 → (Nat → Int32) → Prop} {b : Bool} (hh : h < 24) (ha : a < 30) (hd : d ≤ 6) (ht : t < 2 ^ d) (e6 : s 6 = nI d) (hf : ∀ i, i < d → ∃ q f l, q < 30 ∧ f < 24 ∧ l < 24 ∧ s (230 + i) = nI q ∧ s (236 + i) = nI f ∧ s (242 + i) = nI l) (hn : MA next N (2 ^ d)) (hb : b = true ↔ N a t = true ∨ ∃ i, i < d ∧ padS (fun i => s (230 + i)) (fun i => s (236 + i)) (fun i => s (242 + i)) h t a i ∧ N a (t - 2 ^ i) = true) (hL : L (nI (t + 1)) (upd may0 (64 * a + t) (nI (if b then 1 else 0)))) : ∃ n, wl_X12_walks_294 s (nI h) next (nI a) (nI t) may0 L n (next (64 * a + t)) (nI 0) := by
  obtain ⟨q1, q2, q3⟩ := shlF d (by omega)
  refine meas2 (F := wl_X12_walks_294 s (nI h) next (nI a) (nI t) may0 L) (fun v5 v6 => ∃ k, k ≤ d ∧ v6 = nI k ∧ isB v5 (N a t = true ∨ ∃ i, i < k ∧ padS (fun i => s (230 + i)) (fun i => s (236 + i)) (fun i => s (242 + i)) h t a i ∧ N a (t - 2 ^ i) = true)) (fun _ v6 => d - v6.toNatClampNeg) ?_ _ _ ⟨0, by omega, rfl, ?_⟩
  · rintro v5 v6 ⟨k, hk, rfl, hB⟩ m ih
    rw [wl_X12_walks_294]
    unfold wb_X12_walks_294
    rw [e6, nI_natle (by omega) (by omega)]
    refine ⟨?_, fun g => ?_⟩
    · rintro ⟨g1, g2⟩
      have nX : ¬ (N a t = true ∨ ∃ i, i < k ∧ padS (fun i => s (230 + i)) (fun i => s (236 + i)) (fun i => s (242 + i)) h t a i ∧ N a (t - 2 ^ i) = true) := by
        rw [isB_0 hB] at g2; exact g2
      obtain ⟨s1, s2, s3, s4⟩ := setF t (by omega) k (by omega)
      obtain ⟨q, f, l, hq, hf24, hl, f1, f2, f3⟩ := hf k (by omega)
      have mu : d - (nI (k + 1)).toNatClampNeg < d - (nI k).toNatClampNeg := by rw [nI_clamp (by omega), nI_clamp (by omega)]; omega
      rw [s4, nI_add, nI_add, nI_add, nI_add, nI_clamp (by omega), nI_clamp (by omega), nI_clamp (by omega), f1, f2, f3]
      refine ⟨fun _ => ⟨vp_in_nI (by omega) (by omega), fun _ => ⟨vp_in_nI (by omega) (by omega), vp_in_nI (by omega) (by omega)⟩⟩, fun y1 hy1 => ?_⟩
      have hy : isB y1 (padS (fun i => s (230 + i)) (fun i => s (236 + i)) (fun i => s (242 + i)) h t a k) := by
        rw [hy1]
        unfold padS
        show isB _ (t.testBit k = true ∧ s (230 + k) = nI a ∧ s (236 + k) ≤ nI h ∧ nI h ≤ s (242 + k))
        rw [f1, f2, f3, nI_natle (by omega) (by omega), nI_natle (by omega) (by omega)]
        by_cases c1 : t.testBit k = true
        · rw [if_pos c1, if_pos rfl]
          by_cases c2 : nI q = nI a
          · rw [if_pos c2, in_def]
            have cN1 : (nI h < nI f) = (h < f) := nI_natlt (by omega) (by omega)
            have cN2 : (nI l < nI h) = (l < h) := nI_natlt (by omega) (by omega)
            by_cases c3 : nI h < nI f
            · have c3' : h < f := cN1 ▸ c3
              rw [if_pos c3, if_pos (of_eq_true nI0eq)]
              exact Or.inr ⟨fun z => by omega, rfl⟩
            · have c3' : ¬ h < f := cN1 ▸ c3
              rw [if_neg c3]
              by_cases c4 : nI l < nI h
              · have c4' : l < h := cN2 ▸ c4
                rw [if_pos c4, if_pos (of_eq_true nI0eq)]
                exact Or.inr ⟨fun z => by omega, rfl⟩
              · have c4' : ¬ l < h := cN2 ▸ c4
                rw [if_neg c4, if_neg (by rw [nI1ne]; exact id)]
                exact Or.inl ⟨⟨c1, c2, by omega, by omega⟩, rfl⟩
          · rw [if_neg c2]
            exact Or.inr ⟨fun z => c2 z.2.1, rfl⟩
        · rw [if_neg c1, if_neg (by decide)]
          exact Or.inr ⟨fun z => c1 z.1, rfl⟩
      rcases hy with ⟨hP, rfl⟩ | ⟨hP, rfl⟩
      · obtain ⟨s5, s6, s7⟩ := s3 hP.1
        have tl : t - 2 ^ k < 2 ^ d := by omega
        rw [s7, nI_mul, nI_add, nI_clamp (by omega), hn a _ ha tl]
        refine ⟨fun _ => vp_in_nI (by omega) (by omega), fun y0 hy0 => ?_⟩
        rw [if_neg (by rw [nI1ne]; exact id)] at hy0
        refine ih _ _ ⟨k + 1, by omega, rfl, ?_⟩ mu
        by_cases c3 : N a (t - 2 ^ k) = true
        · rw [c3, if_pos rfl, if_neg (by rw [nI1ne]; exact id)] at hy0
          exact Or.inl ⟨Or.inr ⟨k, by omega, hP, c3⟩, hy0⟩
        · have c3' : N a (t - 2 ^ k) = false := Bool.eq_false_iff.mpr c3
          rw [c3', show nI (if false = true then 1 else 0) = nI 0 from rfl, if_pos (of_eq_true nI0eq)] at hy0
          refine Or.inr ⟨?_, hy0⟩
          rintro (z | ⟨j, j1, j2, j3⟩)
          · exact nX (Or.inl z)
          · by_cases ej : j = k
            · rw [ej, c3'] at j3; cases j3
            · exact nX (Or.inr ⟨j, by omega, j2, j3⟩)
      · refine ⟨fun z => absurd (of_eq_true nI0eq) z, fun y0 hy0 => ?_⟩
        rw [if_pos (of_eq_true nI0eq)] at hy0
        refine ih _ _ ⟨k + 1, by omega, rfl, Or.inr ⟨?_, hy0⟩⟩ mu
        rintro (z | ⟨j, j1, j2, j3⟩)
        · exact nX (Or.inl z)
        · by_cases ej : j = k
          · rw [ej] at j2; exact hP j2
          · exact nX (Or.inr ⟨j, by omega, j2, j3⟩)
    · have full : isB v5 (b = true) := by
        refine isB_iff hB ⟨?_, ?_⟩
        · rintro (z | ⟨j, j1, j2⟩)
          · exact hb.mpr (Or.inl z)
          · exact hb.mpr (Or.inr ⟨j, by omega, j2⟩)
        · intro z
          rcases hb.mp z with z | ⟨j, j1, j2⟩
          · exact Or.inl z
          · apply Classical.byContradiction
            intro nX
            have v0 : v5 = 0 := by rw [isB_0 hB]; exact nX
            have kd : k = d := by
              apply Classical.byContradiction
              intro ne
              exact g ⟨by omega, v0⟩
            exact nX (Or.inr ⟨j, by omega, j2⟩)
      rw [isB_b full Iff.rfl, nI_mul, nI_add, nI_clamp (by omega), nI_add, nar_b]
      exact ⟨vp_in_nI (by omega) (by omega), hL⟩
  · rw [hn a t ha ht]
    cases hbb : N a t
    · exact Or.inr ⟨fun z => z.elim (fun z => by cases z) (fun ⟨j, j1, _⟩ => by omega), rfl⟩
    · exact Or.inl ⟨Or.inl rfl, rfl⟩
theorem mod_254 {s next may0 : Nat → Int32} {p h d : Nat} {M : Nat → Nat → Bool} {L : Int32 → (Nat → Int32) → (Nat → Int32) → Prop} (hh : h < 24) (hd : d ≤ 6) (e6 : s 6 = nI d) (hf : ∀ i, i < d → ∃ q f l, q < 30 ∧ f < 24 ∧ l < 24 ∧ s (230 + i) = nI q ∧ s (236 + i) = nI f ∧ s (242 + i) = nI l) (hn : MA next (nxN s p h M) (2 ^ d)) (hL : ∀ may, MA may (stepN s p h M) (2 ^ d) → L (nI (h + 1)) may next) : ∃ n, wl_X12_walks_254 s (nI h) L next n (nI 0) may0 := by
  obtain ⟨q1, q2, q3⟩ := shlF d (by omega)
  refine meas2 (F := wl_X12_walks_254 s (nI h) L next) (fun v3 may => ∃ a, a ≤ 30 ∧ v3 = nI a ∧ ∀ b t, b < a → t < 2 ^ d → may (64 * b + t) = nI (if stepN s p h M b t then 1 else 0)) (fun v3 _ => 30 - v3.toNatClampNeg) ?_ _ _ ⟨0, by omega, rfl, fun b t hb => by omega⟩
  rintro v3 may ⟨a, ha, rfl, i1⟩ m ih
  rw [wl_X12_walks_254]
  unfold wb_X12_walks_254
  rw [nI_natle (by omega) (by omega)]
  refine ⟨fun z => ?_, fun z => ?_⟩
  · have e : a = 30 := by omega
    subst e
    rw [nI_add]
    exact hL may (fun b t hb ht => i1 b t hb ht)
  · refine meas2 (F := wl_X12_walks_263 s (nI h) next (nI a) (wl_X12_walks_254 s (nI h) L next m)) (fun v4 may' => ∃ t, t ≤ 2 ^ d ∧ v4 = nI t ∧ (∀ b u, b < a → u < 2 ^ d → may' (64 * b + u) = nI (if stepN s p h M b u then 1 else 0)) ∧ ∀ u, u < t → may' (64 * a + u) = nI (if stepN s p h M a u then 1 else 0)) (fun v4 _ => 2 ^ d - v4.toNatClampNeg) ?_ _ _ ⟨0, by omega, rfl, i1, fun u hu => by omega⟩
    rintro v4 may' ⟨t, ht, rfl, j1, j2⟩ m2 ih2
    rw [wl_X12_walks_263]
    unfold wb_X12_walks_263
    rw [e6, q1, nI_natle (by omega) (by omega)]
    refine ⟨fun z => ?_, fun z => ?_⟩
    · have e : t = 2 ^ d := by omega
      subst e
      rw [nI_add]
      refine ih _ _ ⟨a + 1, by omega, rfl, fun b u hb hu => ?_⟩ (by rw [nI_clamp (by omega), nI_clamp (by omega)]; omega)
      by_cases e : b = a
      · rw [e]; exact j2 u hu
      · exact j1 b u (by omega) hu
    · rw [nI_mul, nI_add, nI_clamp (by omega)]
      refine ⟨vp_in_nI (by omega) (by omega), fun x hx => ?_⟩
      rw [hx]
      refine mod_294 (N := nxN s p h M) hh (by omega) hd (by omega) e6 hf hn (stepN_iff hd e6 p h M a t) (ih2 _ _ ⟨t + 1, by omega, rfl, fun b u hb hu => ?_, fun u hu => ?_⟩ (by rw [nI_clamp (by omega), nI_clamp (by omega)]; omega))
      · rw [updne (by omega)]; exact j1 b u hb hu
      · by_cases e : u = t
        · subst e; rw [upde]
        · rw [updne (by omega)]; exact j2 u (by omega)
theorem mod_find {may could : Nat → Int32} {p t : Nat} {Q : (Nat → Int32) → Prop} (hp : p < 8) (ht : t < 64) (hQ : ∀ v, isB v (∃ b, b < 30 ∧ ¬ may (64 * b + t) = 0) → Q (upd could (64 * p + t) v)) : wp_X12_finds_ (nI p) (nI t) may could Q := by
  unfold wp_X12_finds_
  refine meas2 (F := wl_X12_finds__5 (nI p) (nI t) may could Q) (fun v3 v4 => ∃ a, a ≤ 30 ∧ v4 = nI a ∧ isB v3 (∃ b, b < a ∧ ¬ may (64 * b + t) = 0)) (fun _ v4 => 30 - v4.toNatClampNeg) ?_ _ _ ⟨0, by omega, rfl, Or.inr ⟨fun ⟨b, hb, _⟩ => by omega, rfl⟩⟩
  rintro v3 v4 ⟨a, ha, rfl, hB⟩ m ih
  rw [wl_X12_finds__5]
  unfold wb_X12_finds__5
  rw [nI_natle (by omega) (by omega), nI_mul, nI_add, nI_mul, nI_add, nI_clamp (by omega), nI_clamp (by omega)]
  refine ⟨fun z => ⟨vp_in_nI (by omega) (by omega), ?_⟩, fun z => ⟨fun _ => vp_in_nI (by omega) (by omega), fun y hy => ?_⟩⟩
  · have e : a = 30 := by omega
    subst e
    exact hQ _ (narB hB)
  · rw [nI_add]
    refine ih _ _ ⟨a + 1, by omega, rfl, ?_⟩ (by rw [nI_clamp (by omega), nI_clamp (by omega)]; omega)
    rcases hB with ⟨⟨b, b1, b2⟩, rfl⟩ | ⟨hB, rfl⟩
    · rw [if_neg (by rw [nI1ne]; exact id)] at hy
      exact Or.inl ⟨⟨b, by omega, b2⟩, hy⟩
    · rw [if_pos (of_eq_true nI0eq)] at hy
      by_cases c : may (64 * a + t) = 0
      · rw [if_pos c] at hy
        refine Or.inr ⟨fun ⟨b, b1, b2⟩ => ?_, hy⟩
        by_cases e : b = a
        · rw [e] at b2; exact b2 c
        · exact hB ⟨b, by omega, b2⟩
      · rw [if_neg c] at hy
        exact Or.inl ⟨⟨a, by omega, c⟩, hy⟩
theorem mod_walks {ds fh lh : Nat → Int32} {dc : Int32} {si s may0 next0 could cn : Nat → Int32} {night : Int32} {n p d : Nat} {Q : (Nat → Int32) → (Nat → Int32) → (Nat → Int32) → (Nat → Int32) → Prop} (h : INight ds fh lh dc si s) (hC : ICacheN n could cn night s) (hn : n < 512) (hp : p < 8) (hd : d ≤ 6) (e6 : s 6 = nI d) (hQ : ∀ may next could' cn', ICacheN n could' cn' night s → (∀ t, t < 2 ^ d → could' (64 * p + t) = nI (if couldN s p t then 1 else 0)) → Q may next could' cn') : wp_X12_walks (nI p) s may0 next0 could cn night Q := by
  obtain ⟨q1, q2, q3⟩ := shlF d (by omega)
  have hf : ∀ i, i < d → ∃ q f l, q < 30 ∧ f < 24 ∧ l < 24 ∧ s (230 + i) = nI q ∧ s (236 + i) = nI f ∧ s (242 + i) = nI l := by
    obtain ⟨⟨d', hd', -, e6', -, g2⟩, -⟩ := h
    have ed : d' = d := by rw [e6'] at e6; exact (nI_eq (by omega) (by omega)).mp e6
    subst ed
    intro i hi
    obtain ⟨q, f, l, h1, h2, h3, h4, h5, h6⟩ := g2 i hi
    exact ⟨q, f, l, h1, by omega, h3, h4, h5, h6⟩
  obtain ⟨c, -, -, hc, ec, -⟩ := h.2 p hp
  obtain ⟨z, z1, z2, z3, z4⟩ := id hC
  unfold wp_X12_walks
  rw [nI_clamp (by omega)]
  refine ⟨vp_in_nI (by omega) (by omega), fun _ => ⟨vp_in_nI (by omega) (by omega), ?_⟩, fun hit => ?_⟩
  · refine meas2 (F := wl_X12_walks_26 (nI p) s next0 could cn night Q) (fun v may => ∃ k, k ≤ 1920 ∧ v = nI k ∧ ∀ j, j < k → may j = nI (if j % 64 = 0 then 1 else 0)) (fun v _ => 1920 - v.toNatClampNeg) ?_ _ _ ⟨0, by omega, rfl, fun j hj => by omega⟩
    rintro v may ⟨k, hk, rfl, hm0⟩ m ih
    rw [wl_X12_walks_26]
    unfold wb_X12_walks_26
    rw [nI_natle (by omega) (by omega)]
    refine ⟨fun w => ?_, fun w => ?_⟩
    · have ek : k = 1920 := by omega
      subst ek
      clear ih
      refine meas3 (F := wl_X12_walks_59 (nI p) s could cn night Q) (fun v may _ => ∃ hr, hr ≤ 24 ∧ v = nI hr ∧ MA may (mayN s p hr) (2 ^ d)) (fun v _ _ => 24 - v.toNatClampNeg) ?_ _ _ _ ⟨0, by omega, rfl, fun a t ha ht => ?_⟩
      · rintro v may next ⟨hr, hhr, rfl, hm⟩ m ih
        rw [wl_X12_walks_59]
        unfold wb_X12_walks_59
        rw [nI_natle (by omega) (by omega)]
        refine ⟨fun w => ?_, fun w => ?_⟩
        · have eh : hr = 24 := by omega
          subst eh
          refine meas2 (F := wl_X12_walks_447 (nI p) cn night Q may next) (fun v co => ∃ t, t ≤ 64 ∧ v = nI t ∧ (∀ u, u < t → u < 2 ^ d → co (64 * p + u) = nI (if couldN s p u then 1 else 0)) ∧ ∀ j, ¬ (64 * p ≤ j ∧ j < 64 * p + 64) → co j = could j) (fun v _ => 64 - v.toNatClampNeg) ?_ _ _ ⟨0, by omega, rfl, fun u hu => by omega, fun _ _ => rfl⟩
          rintro v co ⟨t, ht, rfl, j1, j2⟩ m2 ih2
          rw [wl_X12_walks_447]
          unfold wb_X12_walks_447
          rw [nI_natle (by omega) (by omega)]
          refine ⟨fun w => ?_, fun w => ?_⟩
          · have et : t = 64 := by omega
            subst et
            rw [nI_clamp (by omega)]
            have good : ∀ t, t < 2 ^ d → co (64 * p + t) = nI (if couldN s p t then 1 else 0) := fun t ht => j1 t (by omega) ht
            refine hQ _ _ _ _ ⟨z, z1, z2, z3, fun q hq => ?_⟩ good
            by_cases e : q = p
            · subst e
              refine ⟨z, Nat.le_refl z, by rw [upde]; exact z3, fun _ d' hd' hd6 t ht => ?_⟩
              have ed : d' = d := by rw [e6] at hd'; exact ((nI_eq (by omega) (by omega)).mp hd').symm
              rw [ed] at ht
              exact good t ht
            · obtain ⟨y, y1, y2, y3⟩ := z4 q hq
              refine ⟨y, y1, by rw [updne e]; exact y2, fun ey d' hd' hd6 t ht => ?_⟩
              have : 2 ^ d' ≤ 64 := (shlF d' (by omega)).2.1
              rw [j2 _ (by omega)]
              exact y3 ey d' hd' hd6 t ht
          · refine mod_find hp (by omega) (fun v hv => ?_)
            rw [nI_add]
            refine ih2 _ _ ⟨t + 1, by omega, rfl, fun u hu hu2 => ?_, fun j hj => ?_⟩ (by rw [nI_clamp (by omega), nI_clamp (by omega)]; omega)
            · by_cases e : u = t
              · subst e
                rw [upde]
                refine isB_b hv ?_
                unfold couldN
                rw [List.any_eq_true]
                constructor
                · rintro ⟨b, b1, b2⟩
                  refine ⟨b, List.mem_range.mpr b1, ?_⟩
                  rw [hm b u b1 hu2, nIb0] at b2
                  cases hb : mayN s p 24 b u
                  · exact absurd hb b2
                  · rfl
                · rintro ⟨b, b1, b2⟩
                  have b1' := List.mem_range.mp b1
                  refine ⟨b, b1', ?_⟩
                  rw [hm b u b1' hu2, nIb0, b2]
                  decide
              · rw [updne (by omega)]; exact j1 u (by omega) hu2
            · rw [updne (by omega)]; exact j2 j hj
        · refine meas2 (F := wl_X12_walks_67 (nI p) s (nI hr) may (wl_X12_walks_59 (nI p) s could cn night Q m)) (fun v next => ∃ a, a ≤ 30 ∧ v = nI a ∧ ∀ b t, b < a → t < 2 ^ d → next (64 * b + t) = nI (if nxN s p hr (mayN s p hr) b t then 1 else 0)) (fun v _ => 30 - v.toNatClampNeg) ?_ _ _ ⟨0, by omega, rfl, fun b t hb => by omega⟩
          rintro v next ⟨a, ha, rfl, i1⟩ m2 ih2
          rw [wl_X12_walks_67]
          unfold wb_X12_walks_67
          rw [nI_natle (by omega) (by omega)]
          refine ⟨fun w => ?_, fun w => ?_⟩
          · have ea : a = 30 := by omega
            subst ea
            exact mod_254 (by omega) hd e6 hf (fun b t hb ht => i1 b t hb ht) (fun may' hm' => ih _ _ _ ⟨hr + 1, by omega, rfl, hm'⟩ (by rw [nI_clamp (by omega), nI_clamp (by omega)]; omega))
          · refine mod_can hp (by omega) (by omega) hc ec (mod_85 (by omega) (by omega) hd e6 hm (fun next' h1 h2 => ih2 _ _ ⟨a + 1, by omega, rfl, fun b t hb ht => ?_⟩ (by rw [nI_clamp (by omega), nI_clamp (by omega)]; omega)))
            by_cases e : b = a
            · rw [e]; exact h1 t ht
            · rw [h2 _ (by omega)]; exact i1 b t (by omega) ht
      · rw [hm0 _ (by omega)]
        have e1 : (64 * a + t) % 64 = t := by omega
        rw [e1]
        show _ = nI (if decide (t = 0) = true then 1 else 0)
        by_cases e : t = 0
        · rw [if_pos e, if_pos (decide_eq_true e)]
        · rw [if_neg e, decide_eq_false e]; rfl
    · rw [pk_rem (by omega) (by omega) (by omega), nI_clamp (by omega), nI_add]
      have cN : (nI (k % 64) = 0) = (k % 64 = 0) := nIz (by omega)
      intro y hy
      refine ⟨vp_in_nI (by omega) (by omega), ih _ _ ⟨k + 1, by omega, rfl, fun j hj => ?_⟩ (by rw [nI_clamp (by omega), nI_clamp (by omega)]; omega)⟩
      by_cases e : j = k
      · subst e
        rw [upde, hy]
        by_cases e2 : j % 64 = 0
        · rw [if_pos (Eq.mpr cN e2), if_pos e2]; decide
        · rw [if_neg (fun q => e2 (Eq.mp cN q)), if_neg e2]; decide
      · rw [updne e]; exact hm0 j (by omega)
  · refine hQ _ _ _ _ hC (fun t ht => ?_)
    obtain ⟨y, y1, y2, y3⟩ := z4 p hp
    have : y = z := (nI_eq (by omega) (by omega)).mp (by rw [← y2, ← z3]; exact hit)
    exact y3 this d e6 hd t ht
