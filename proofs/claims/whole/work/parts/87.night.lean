theorem couldW {s : Nat → Int32} {p t : Nat} {x : Int32} (h1 : spo x) (h2 : ∀ a, a < 30 → (b32 x a = true ↔ mayN s p 24 a t = true)) : (x = 0) = (couldN s p t = false) := by
  apply propext
  rw [b32_z]
  constructor
  · intro h
    apply Bool.eq_false_iff.mpr
    unfold couldN
    rw [ne_eq, List.any_eq_true]
    rintro ⟨a, a1, a2⟩
    have a1' := List.mem_range.mp a1
    have := (h2 a a1').mpr a2
    rw [h a (by omega)] at this
    cases this
  · intro h i hi
    rcases Nat.lt_or_ge i 30 with q | q
    · apply Bool.eq_false_iff.mpr
      intro z
      have := (h2 i q).mp z
      have : couldN s p t = true := by
        unfold couldN
        rw [List.any_eq_true]
        exact ⟨i, List.mem_range.mpr q, this⟩
      rw [h] at this
      cases this
    · exact h1 i q
theorem cls_could {gr ds fh lh : Nat → Int32} {dc : Int32} {si s W : Nat → Int32} {p S d : Nat} {y : Int32} {Q : Int32 → (Nat → Int32) → Prop} (h : INight ds fh lh dc si s) (hp : p < 8) (hd : d ≤ 6) (e6 : s 6 = nI d) (hS : S < 64) (hy : ∀ i, b32 y i = true ↔ i < 30 ∧ ¬ s (20 + i) = nI 5) (hQ : ∀ W', Q (nI (if couldN s p S then 1 else 0)) W') : wp_X6_couldPaint (nI p) (nI S) y ds fh lh dc si W Q := by
  unfold wp_X6_couldPaint
  refine cls_roam (gr := gr) h hp hd e6 hS hy (fun W' hW => ⟨vp_in_nI (by omega) (by omega), fun y0 hy0 => ?_⟩)
  obtain ⟨w1, w2⟩ := hW S (Nat.le_refl S)
  have e := couldW w1 (w2 sub_self)
  rw [nI_clamp (by omega)] at hy0
  have : y0 = nI (if couldN s p S then 1 else 0) := by
    rw [hy0]
    by_cases c : W' S = 0
    · rw [if_pos c, Eq.mp e c]; rfl
    · have : couldN s p S = true := by
        cases hb : couldN s p S
        · exact absurd (Eq.mpr e hb) c
        · rfl
      rw [if_neg c, this]; rfl
  rw [this]
  exact hQ W'
theorem allD {d : Nat} (hd : d ≤ 6) : (nI 1 <<< (nI d &&& 31)) - nI 1 = nI (2 ^ d - 1) := by
  obtain ⟨q1, q2, q3⟩ := shlF d (by omega)
  rw [q1, nI_subL q3]
theorem open_s {gr s : Nat → Int32} {y : Int32} (hgr : ∀ i, i < 30 → gr i = s (20 + i) ∧ isN (s (20 + i)) 5) (hy : ∀ i, b32 y i = true ↔ i < 30 ∧ ¬ gr i = nI 5) (i : Nat) : b32 y i = true ↔ i < 30 ∧ ¬ s (20 + i) = nI 5 := by
  rw [hy]
  constructor
  · rintro ⟨h1, h2⟩; exact ⟨h1, by rw [← (hgr i h1).1]; exact h2⟩
  · rintro ⟨h1, h2⟩; exact ⟨h1, by rw [(hgr i h1).1]; exact h2⟩
theorem asIntb (b : Bool) : f_X11_asInt (nI (if b = true then 1 else 0)) = nI (if b = true then 1 else 0) := by cases b <;> decide
theorem bnz (b : Bool) : (if nI (if b = true then 1 else 0) = 0 then nI 0 else nI 1) = nI (if b = true then 1 else 0) := by cases b <;> decide
theorem core_who {gr ds fh lh : Nat → Int32} {dc : Int32} {si s W may next could cn : Nat → Int32} {night p1 p2 : Int32} {n : Nat} {R : (Nat → Int32) → (Nat → Int32) → Prop} (hgr : ∀ i, i < 30 → gr i = s (20 + i) ∧ isN (s (20 + i)) 5) (h : INight ds fh lh dc si s) (hC : ICacheN n could cn night s) (hn : n < 512) (hR : ∀ co cn', ICacheN n co cn' night s → R co cn') : wp_X11_who p1 p2 gr ds fh lh dc si W (fun r _ => wp_X12_who p1 p2 s may next could cn night (fun r' _ _ co cn' => r = r' ∧ R co cn')) := by
  have h0 := hR could cn hC
  obtain ⟨⟨d, hd, rfl, e6, -⟩, -⟩ := id h
  obtain ⟨q1, q2, q3⟩ := shlF d (by omega)
  rcases in_cases p1 0 7 (by decide) (by decide) with ⟨g1, -⟩ | ⟨g1, p, -, hp, rfl⟩
  · simp only [wp_X11_who, wp_X12_who, f_X11_isPerson, f_X12_isPerson, within_eq, g1, not_true_eq_false, not_false_eq_true, forall_const, true_implies, false_implies, implies_true, and_true, true_and, and_false, false_and, or_true, true_or, or_false, false_or, forall_eq, ↓reduceIte, ne_eq, nI1ne, nI0eq, Classical.not_not, eq_self, reduceCtorEq]
    exact h0
  rcases in_cases p2 0 (2 ^ d - 1) (by omega) (by omega) with ⟨g2, -⟩ | ⟨g2, S, -, hS, rfl⟩
  · simp (disch := omega) only [wp_X11_who, wp_X12_who, f_X11_isPerson, f_X12_isPerson, f_X6_allDoors, allD, e6, within_eq, g1, g2, nI1ne, not_true_eq_false, not_false_eq_true, forall_const, true_implies, false_implies, implies_true, and_true, true_and, and_false, false_and, or_true, true_or, or_false, false_or, forall_eq, ↓reduceIte, ne_eq, nI1ne, nI0eq, Classical.not_not, eq_self, reduceCtorEq]
    exact h0
  simp (disch := omega) only [wp_X11_who, f_X11_isPerson, f_X6_allDoors, allD, within_eq, g1, g2, nI1ne, not_true_eq_false, not_false_eq_true, forall_const, true_implies, false_implies, implies_true, and_true, true_and, and_false, false_and, or_true, true_or, or_false, false_or, forall_eq, ↓reduceIte, ne_eq, nI1ne, nI0eq, Classical.not_not, eq_self, reduceCtorEq]
  refine cls_open (fun y hy => cls_could (gr := gr) h (by omega) hd e6 (by omega) (open_s hgr hy) (fun W' => ?_))
  simp (disch := omega) only [wp_X12_who, f_X12_isPerson, allD, e6, g1, g2, nI1ne, not_true_eq_false, not_false_eq_true, forall_const, true_implies, false_implies, implies_true, and_true, true_and, and_false, false_and, or_true, true_or, or_false, false_or, forall_eq, ↓reduceIte, ne_eq, nI1ne, nI0eq, Classical.not_not, eq_self, reduceCtorEq]
  refine mod_walks h hC hn (by omega) hd e6 (fun may' next' co cn' hC' hg => ?_)
  rw [nI_mul, nI_add, nI_clamp (by omega), hg S (by omega), bnz, asIntb]
  exact ⟨vp_in_nI (by omega) (by omega), rfl, hR co cn' hC'⟩
/-- the least of the greatest sets, among the first ones -/
def mostD (s : Nat → Int32) (p : Nat) : Nat → Nat
  | 0 => 0
  | k + 1 => if couldN s p (k + 1) = true ∧ popN 20 (mostD s p k) < popN 20 (k + 1) then k + 1 else mostD s p k
theorem mostD_le (s : Nat → Int32) (p : Nat) : ∀ k, mostD s p k ≤ k := by
  intro k
  induction k with
  | zero => exact Nat.le_refl 0
  | succ k ih =>
    unfold mostD
    split <;> omega
theorem core_night {gr ds fh lh : Nat → Int32} {dc : Int32} {si s W may next could cn : Nat → Int32} {night p1 p2 : Int32} {n : Nat} {R : (Nat → Int32) → (Nat → Int32) → Prop} (hgr : ∀ i, i < 30 → gr i = s (20 + i) ∧ isN (s (20 + i)) 5) (h : INight ds fh lh dc si s) (hC : ICacheN n could cn night s) (hn : n < 512) (hR : ∀ co cn', ICacheN n co cn' night s → R co cn') : wp_X11_night p1 p2 gr ds fh lh dc si W (fun r _ => wp_X12_night p1 p2 s may next could cn night (fun r' _ _ co cn' => r = r' ∧ R co cn')) := by
  have h0 := hR could cn hC
  obtain ⟨⟨d, hd, rfl, e6, -⟩, -⟩ := id h
  obtain ⟨q1, q2, q3⟩ := shlF d (by omega)
  rcases in_cases p1 0 7 (by decide) (by decide) with ⟨g1, -⟩ | ⟨g1, p, -, hp, rfl⟩
  · simp only [wp_X11_night, wp_X12_night, f_X11_isPerson, f_X12_isPerson, within_eq, g1, not_true_eq_false, not_false_eq_true, forall_const, true_implies, false_implies, implies_true, and_true, true_and, and_false, false_and, or_true, true_or, or_false, false_or, forall_eq, ↓reduceIte, ne_eq, nI1ne, nI0eq, Classical.not_not, eq_self, reduceCtorEq]
    exact h0
  rcases in_cases p2 0 1 (by omega) (by omega) with ⟨g2, -⟩ | ⟨g2, what, -, hw, rfl⟩
  · simp only [wp_X11_night, wp_X12_night, f_X11_isPerson, f_X12_isPerson, within_eq, g1, g2, nI1ne, not_true_eq_false, not_false_eq_true, forall_const, true_implies, false_implies, implies_true, and_true, true_and, and_false, false_and, or_true, true_or, or_false, false_or, forall_eq, ↓reduceIte, ne_eq, nI1ne, nI0eq, Classical.not_not, eq_self, reduceCtorEq]
    exact h0
  simp only [wp_X11_night, f_X11_isPerson, within_eq, g1, g2, nI1ne, not_true_eq_false, not_false_eq_true, forall_const, true_implies, false_implies, implies_true, and_true, true_and, and_false, false_and, or_true, true_or, or_false, false_or, forall_eq, ↓reduceIte, ne_eq, nI1ne, nI0eq, Classical.not_not, eq_self, reduceCtorEq]
  have fin : ∀ r, r = (if what = 0 then nI (popN 20 (mostD s p (2 ^ d - 1))) else nI (mostD s p (2 ^ d - 1))) → wp_X12_night (nI p) (nI what) s may next could cn night (fun r' _ _ co cn' => r = r' ∧ R co cn') := by
    intro r hr
    simp only [wp_X12_night, f_X12_isPerson, g1, g2, nI1ne, not_true_eq_false, not_false_eq_true, forall_const, true_implies, false_implies, implies_true, and_true, true_and, and_false, false_and, or_true, true_or, or_false, false_or, forall_eq, ↓reduceIte, ne_eq, nI1ne, nI0eq, Classical.not_not, eq_self, reduceCtorEq]
    refine mod_walks h hC hn (by omega) hd e6 (fun may' next' co cn' hC' hg => ?_)
    refine meas2 (F := wl_X12_night_28 (nI p) (nI what) s _ may' next' co cn') (fun v3 v4 => ∃ k, k ≤ 2 ^ d ∧ v4 = nI k ∧ v3 = nI (mostD s p (k - 1))) (fun _ v4 => 2 ^ d - v4.toNatClampNeg) ?_ _ _ ⟨0, by omega, rfl, rfl⟩
    rintro v3 v4 ⟨k, hk, rfl, rfl⟩ m ih
    have ml := mostD_le s p (k - 1)
    rw [wl_X12_night_28]
    unfold wb_X12_night_28
    rw [e6, q1, nI_natle (by omega) (by omega)]
    refine ⟨fun z => ?_, fun z => ?_⟩
    · have e : k = 2 ^ d := by omega
      subst e
      rw [nIz (by omega)]
      refine ⟨fun w => ?_, fun w => many (by omega) ?_⟩
      · rw [hr, if_neg w]; exact ⟨rfl, hR co cn' hC'⟩
      · rw [hr, if_pos w]; exact ⟨rfl, hR co cn' hC'⟩
    · rw [nI_mul, nI_add, nI_clamp (by omega), hg k (by omega), nIb0]
      have mu : 2 ^ d - (nI (k + 1)).toNatClampNeg < 2 ^ d - (nI k).toNatClampNeg := by rw [nI_clamp (by omega), nI_clamp (by omega)]; omega
      refine ⟨vp_in_nI (by omega) (by omega), fun w => ?_, fun w => many (by omega) (many (by omega) (fun y hy => ?_))⟩
      · unfold wk_X12_night_74 wk_X12_night_75
        rw [nI_add]
        refine ih _ _ ⟨k + 1, by omega, rfl, ?_⟩ mu
        rw [Nat.add_sub_cancel]
        cases k with
        | zero => rfl
        | succ k =>
          rw [Nat.add_sub_cancel]
          show _ = nI (if couldN s p (k + 1) = true ∧ popN 20 (mostD s p k) < popN 20 (k + 1) then k + 1 else mostD s p k)
          rw [if_neg (fun z => by rw [w] at z; cases z.1)]
      · unfold wk_X12_night_75
        rw [nI_add]
        refine ih _ _ ⟨k + 1, by omega, rfl, ?_⟩ mu
        rw [Nat.add_sub_cancel]
        have b1 := (bc_pop k (by omega)).2
        have b2 := (bc_pop (mostD s p (k - 1)) (by omega)).2
        have cN : (nI (popN 20 k) ≤ nI (popN 20 (mostD s p (k - 1)))) = (popN 20 k ≤ popN 20 (mostD s p (k - 1))) := nI_natle (by omega) (by omega)
        have w' : couldN s p k = true := by
          cases hb : couldN s p k
          · exact absurd hb w
          · rfl
        cases k with
        | zero =>
          rw [hy]
          show (if _ then nI 0 else nI 0) = nI 0
          split <;> rfl
        | succ k =>
          rw [Nat.add_sub_cancel] at hy cN
          show y = nI (if couldN s p (k + 1) = true ∧ popN 20 (mostD s p k) < popN 20 (k + 1) then k + 1 else mostD s p k)
          by_cases c : nI (popN 20 (k + 1)) ≤ nI (popN 20 (mostD s p k))
          · have c' : popN 20 (k + 1) ≤ popN 20 (mostD s p k) := Eq.mp cN c
            rw [if_pos c] at hy
            rw [hy, if_neg (fun z => by omega)]
          · have c' : ¬ popN 20 (k + 1) ≤ popN 20 (mostD s p k) := fun z => c (Eq.mpr cN z)
            rw [if_neg c] at hy
            rw [hy, if_pos ⟨w', by omega⟩]
  refine cls_open (fun y hy => ?_)
  unfold wp_X6_mostPainted
  have ad : f_X6_allDoors (nI d) = nI (2 ^ d - 1) := allD hd
  rw [ad]
  refine cls_roam (gr := gr) h (by omega) hd e6 (by omega) (open_s hgr hy) (fun W' hW => ?_)
  refine meas2 (F := wl_X6_mostPainted_18 (nI d) _ W') (fun v4 v5 => ∃ k, k ≤ 2 ^ d - 1 ∧ v5 = nI (k + 1) ∧ v4 = nI (mostD s p k)) (fun _ v5 => 2 ^ d - v5.toNatClampNeg) ?_ _ _ ⟨0, by omega, rfl, rfl⟩
  rintro v4 v5 ⟨k, hk, rfl, rfl⟩ m ih
  have ml := mostD_le s p k
  rw [wl_X6_mostPainted_18]
  unfold wb_X6_mostPainted_18
  rw [ad, nI_natlt (by omega) (by omega)]
  refine ⟨fun z => ?_, fun z => ⟨vp_in_nI (by omega) (by omega), fun x hx => ?_⟩⟩
  · have e : k = 2 ^ d - 1 := by omega
    subst e
    refine fin (if nI what = 0 then f_J6_bitCount_0f7a4 (nI (mostD s p (2 ^ d - 1))) else nI (mostD s p (2 ^ d - 1))) ?_
    have cN : (nI what = 0) = (what = 0) := nIz (by omega)
    rw [(bc_pop _ (by omega)).1]
    by_cases c : what = 0
    · rw [if_pos c, if_pos (Eq.mpr cN c)]
    · rw [if_neg c, if_neg (fun z => c (Eq.mp cN z))]
  · rw [nI_add]
    refine ih _ _ ⟨k + 1, by omega, rfl, ?_⟩ (by rw [nI_clamp (by omega), nI_clamp (by omega)]; omega)
    obtain ⟨w1, w2⟩ := hW (k + 1) (by omega)
    have cw := couldW w1 (w2 (sub_all (by omega)))
    obtain ⟨b1, b2⟩ := bc_pop (k + 1) (by omega)
    obtain ⟨b3, b4⟩ := bc_pop (mostD s p k) (by omega)
    rw [nI_clamp (by omega), b1, b3] at hx
    have cN : (nI (popN 20 (k + 1)) ≤ nI (popN 20 (mostD s p k))) = (popN 20 (k + 1) ≤ popN 20 (mostD s p k)) := nI_natle (by omega) (by omega)
    rw [hx]
    show _ = nI (if couldN s p (k + 1) = true ∧ popN 20 (mostD s p k) < popN 20 (k + 1) then k + 1 else mostD s p k)
    by_cases c1 : W' (k + 1) = 0
    · have := Eq.mp cw c1
      rw [if_pos c1, if_neg (fun z => by rw [this] at z; cases z.1)]
    · have c1' : couldN s p (k + 1) = true := by
        cases hb : couldN s p (k + 1)
        · exact absurd (Eq.mpr cw hb) c1
        · rfl
      rw [if_neg c1]
      by_cases c : nI (popN 20 (k + 1)) ≤ nI (popN 20 (mostD s p k))
      · have c' : popN 20 (k + 1) ≤ popN 20 (mostD s p k) := Eq.mp cN c
        rw [if_pos c, if_neg (fun z => by omega)]
      · have c' : ¬ popN 20 (k + 1) ≤ popN 20 (mostD s p k) := fun z => c (Eq.mpr cN z)
        rw [if_neg c, if_pos ⟨c1', by omega⟩]
/-- how many of the first could have painted a door, and the last of them -/
def sureC (f : Nat → Bool) : Nat → Nat := popS (fun q => if f q then 1 else 0)
def sureL (f : Nat → Bool) : Nat → Nat
  | 0 => 0
  | k + 1 => if f k then k else sureL f k
theorem sureC_s (f : Nat → Bool) (k : Nat) : sureC f (k + 1) = sureC f k + if f k then 1 else 0 := rfl
theorem sureC_le (f : Nat → Bool) (k : Nat) : sureC f k ≤ k := popS_le (fun i => by show (if f i then 1 else 0) ≤ 1; split <;> omega) k
theorem sureC_mono (f : Nat → Bool) {a b : Nat} (h : a ≤ b) : sureC f a ≤ sureC f b := by
  induction h with
  | refl => exact Nat.le_refl _
  | step _ ih => rw [sureC_s]; omega
theorem sureL_lt (f : Nat → Bool) : ∀ k, sureL f k ≤ k := by
  intro k
  induction k with
  | zero => exact Nat.le_refl 0
  | succ k ih =>
    unfold sureL
    split <;> omega
theorem core_sure {gr ds fh lh : Nat → Int32} {dc : Int32} {si s W may next could cn : Nat → Int32} {night p1 : Int32} {n : Nat} {R : (Nat → Int32) → (Nat → Int32) → Prop} (hgr : ∀ i, i < 30 → gr i = s (20 + i) ∧ isN (s (20 + i)) 5) (h : INight ds fh lh dc si s) (hC : ICacheN n could cn night s) (hn : n < 512) (hR : ∀ co cn', ICacheN n co cn' night s → R co cn') : wp_X11_sure p1 gr ds fh lh dc si W (fun r _ => wp_X12_sure p1 s may next could cn night (fun r' _ _ co cn' => r = r' ∧ R co cn')) := by
  have h0 := hR could cn hC
  obtain ⟨⟨d, hd, rfl, e6, -⟩, -⟩ := id h
  rcases in_cases1 p1 d (by omega) with ⟨g1, -⟩ | ⟨g1, q, hq, rfl⟩
  · simp only [wp_X11_sure, wp_X12_sure, within_eq, e6, g1, not_true_eq_false, not_false_eq_true, forall_const, true_implies, false_implies, implies_true, and_true, true_and, and_false, false_and, or_true, true_or, or_false, false_or, forall_eq, ↓reduceIte, ne_eq, nI1ne, nI0eq, Classical.not_not, eq_self, reduceCtorEq]
    exact h0
  obtain ⟨q1, q2, q3⟩ := shlF q (by omega)
  have q4 : 2 ^ q < 2 ^ d := Nat.pow_lt_pow_right (by omega) hq
  have q5 : 2 ^ d ≤ 64 := (shlF d (by omega)).2.1
  simp only [wp_X11_sure, within_eq, g1, nI1ne, q1, not_true_eq_false, not_false_eq_true, forall_const, true_implies, false_implies, implies_true, and_true, true_and, and_false, false_and, or_true, true_or, or_false, false_or, forall_eq, ↓reduceIte, ne_eq, nI1ne, nI0eq, Classical.not_not, eq_self, reduceCtorEq]
  have fin : ∀ r, r = (if sureC (fun p => couldN s p (2 ^ q)) 8 = 1 then nI (sureL (fun p => couldN s p (2 ^ q)) 8) else -5) → wp_X12_sure (nI q) s may next could cn night (fun r' _ _ co cn' => r = r' ∧ R co cn') := by
    intro r hr
    simp only [wp_X12_sure, e6, g1, nI1ne, not_true_eq_false, not_false_eq_true, forall_const, true_implies, false_implies, implies_true, and_true, true_and, and_false, false_and, or_true, true_or, or_false, false_or, forall_eq, ↓reduceIte, ne_eq, nI1ne, nI0eq, Classical.not_not, eq_self, reduceCtorEq]
    refine meas7 (F := wl_X12_sure_27 (nI q) s night _) (fun v2 v3 v4 _ _ co cn' => ∃ k, k ≤ 8 ∧ v4 = nI k ∧ v3 = nI (sureC (fun p => couldN s p (2 ^ q)) k) ∧ v2 = (if sureC (fun p => couldN s p (2 ^ q)) k = 0 then -5 else nI (sureL (fun p => couldN s p (2 ^ q)) k)) ∧ ICacheN n co cn' night s) (fun _ _ v4 _ _ _ _ => 8 - v4.toNatClampNeg) ?_ _ _ _ _ _ _ _ ⟨0, by omega, rfl, rfl, rfl, hC⟩
    rintro v2 v3 v4 may' next' co cn' ⟨k, hk, rfl, rfl, rfl, hC'⟩ m ih
    have cl := sureC_le (fun p => couldN s p (2 ^ q)) k
    rw [wl_X12_sure_27]
    unfold wb_X12_sure_27
    rw [nI_natle (by omega) (by omega)]
    refine ⟨fun z y hy => ?_, fun z => ?_⟩
    · have e : k = 8 := by omega
      subst e
      refine ⟨?_, hR co cn' hC'⟩
      rw [hr, hy]
      have cN : (nI (sureC (fun p => couldN s p (2 ^ q)) 8) = nI 1) = (sureC (fun p => couldN s p (2 ^ q)) 8 = 1) := nI_nateq (by omega) (by omega)
      by_cases c : sureC (fun p => couldN s p (2 ^ q)) 8 = 1
      · rw [if_pos c, if_pos (Eq.mpr cN c), if_neg (by omega)]
      · rw [if_neg c, if_neg (fun z => c (Eq.mp cN z))]
    · refine mod_walks h hC' hn (by omega) hd e6 (fun may2 next2 co2 cn2 hC2 hg => ?_)
      rw [q1, nI_mul, nI_add, nI_clamp (by omega), hg _ q4, nI_add]
      refine ⟨vp_in_nI (by omega) (by omega), fun x hx y0 hy0 y1 hy1 => ?_⟩
      refine ih _ _ _ _ _ _ _ ⟨k + 1, by omega, rfl, ?_, ?_, hC2⟩ (by rw [nI_clamp (by omega), nI_clamp (by omega)]; omega)
      · rw [sureC_s]
        cases hb : couldN s k (2 ^ q)
        · rw [hx, hb, if_pos (by decide)] at hy1
          rw [hy1, nI_add]; rfl
        · rw [hx, hb, if_neg (by decide)] at hy1
          rw [hy1, nI_add]; rfl
      · rw [sureC_s]
        cases hb : couldN s k (2 ^ q)
        · rw [hx, hb, if_pos (by decide)] at hy0
          rw [hy0]
          show _ = if sureC _ k + 0 = 0 then -5 else nI (if couldN s k (2 ^ q) = true then k else sureL _ k)
          rw [hb, Nat.add_zero]
          rfl
        · rw [hx, hb, if_neg (by decide)] at hy0
          rw [hy0]
          show _ = if sureC _ k + 1 = 0 then -5 else nI (if couldN s k (2 ^ q) = true then k else sureL _ k)
          rw [hb, if_neg (by omega)]
          rfl
  refine cls_open (fun y hy => ?_)
  refine meas3 (F := wl_X11_sure_39 (nI q) ds fh lh (nI d) si _ y) (fun v3 v4 _ => ∃ k, k ≤ 8 ∧ v4 = nI k ∧ sureC (fun p => couldN s p (2 ^ q)) k ≤ 1 ∧ v3 = (if sureC (fun p => couldN s p (2 ^ q)) k = 1 then nI (sureL (fun p => couldN s p (2 ^ q)) k) else -5)) (fun _ v4 _ => 8 - v4.toNatClampNeg) ?_ _ _ _ ⟨0, by omega, rfl, Nat.zero_le 1, rfl⟩
  rintro v3 v4 W' ⟨k, hk, rfl, hc, rfl⟩ m ih
  rw [wl_X11_sure_39]
  unfold wb_X11_sure_39
  rw [nI_natle (by omega) (by omega)]
  refine ⟨fun z => ?_, fun z => ?_⟩
  · have e : k = 8 := by omega
    subst e
    exact fin _ rfl
  · rw [q1]
    have ll := sureL_lt (fun p => couldN s p (2 ^ q)) k
    have mu : 8 - (nI (k + 1)).toNatClampNeg < 8 - (nI k).toNatClampNeg := by rw [nI_clamp (by omega), nI_clamp (by omega)]; omega
    refine cls_could (gr := gr) h (by omega) hd e6 (by omega) (open_s hgr hy) (fun W2 => ?_)
    rw [nI_add]
    cases hb : couldN s k (2 ^ q)
    · refine ⟨fun _ => ih _ _ _ ⟨k + 1, by omega, rfl, ?_, ?_⟩ mu, fun w => absurd (by decide) w⟩
      · rw [sureC_s, hb]; exact hc
      · rw [sureC_s]
        show _ = if sureC _ k + (if couldN s k (2 ^ q) = true then 1 else 0) = 1 then nI (if couldN s k (2 ^ q) = true then k else sureL _ k) else -5
        rw [hb]
        rfl
    · refine ⟨fun w => absurd w (by decide), fun _ => ⟨fun w => ih _ _ _ ⟨k + 1, by omega, rfl, ?_, ?_⟩ mu, fun w => ?_⟩⟩
      · have c0 : ¬ sureC (fun p => couldN s p (2 ^ q)) k = 1 := by
          intro c
          rw [if_pos c] at w
          rw [nm5 (by omega)] at w
          exact w
        rw [sureC_s, hb]
        show sureC _ k + 1 ≤ 1
        omega
      · have c0 : ¬ sureC (fun p => couldN s p (2 ^ q)) k = 1 := by
          intro c
          rw [if_pos c] at w
          rw [nm5 (by omega)] at w
          exact w
        rw [sureC_s]
        show _ = if sureC _ k + (if couldN s k (2 ^ q) = true then 1 else 0) = 1 then nI (if couldN s k (2 ^ q) = true then k else sureL _ k) else -5
        rw [hb]
        show nI k = if sureC _ k + 1 = 1 then nI k else -5
        rw [if_pos (by omega)]
      · have c1 : sureC (fun p => couldN s p (2 ^ q)) k = 1 := by
          apply Classical.byContradiction
          intro c
          rw [if_neg c] at w
          exact w rfl
        refine fin _ ?_
        have c2 : sureC (fun p => couldN s p (2 ^ q)) (k + 1) = 2 := by
          rw [sureC_s, hb, c1]; rfl
        have := sureC_mono (fun p => couldN s p (2 ^ q)) (show k + 1 ≤ 8 by omega)
        rw [if_neg (by omega)]
