/-- a walk of n leans by none below f -/
def Vw (r : Nat) (M : Nat → Nat → Bool) (f : Nat) : Nat → Nat → Nat → Prop
  | 0 => fun x y => x = y ∧ f ≤ x
  | n + 1 => fun x y => f ≤ x ∧ ∃ z, (x < r ∧ M x z = true) ∧ Vw r M f n z y
theorem Vw_W {r : Nat} {M : Nat → Nat → Bool} {f : Nat} : ∀ {n x y : Nat}, Vw r M f n x y → Wk r M n x y := by
  intro n
  induction n with
  | zero => intro x y h; exact h.1
  | succ n ih =>
    rintro x y ⟨-, z, h1, h2⟩
    exact ⟨z, h1, ih h2⟩
theorem Vw_ge {r : Nat} {M : Nat → Nat → Bool} {f n x y : Nat} (h : Vw r M f n x y) : f ≤ x := by
  cases n with
  | zero => exact h.2
  | succ n => exact h.1
/-- the row of the ways home is sound -/
def awS (r : Nat) (M : Nat → Nat → Bool) (f : Nat) (d : Nat → Nat) : Prop := d f = 0 ∧ ∀ p, p < 50 → d p ≤ 99 ∧ (d p < 99 → Vw r M f (d p) p f)
theorem awS_up {r : Nat} {M : Nat → Nat → Bool} {f : Nat} {d : Nat → Nat} {p q : Nat} (h : awS r M f d) (hp : p < 50) (hq : q < r) (hr : r ≤ 50) (hf : f ≤ q) (hm : M q p = true) (hl : d p + 1 < d q) : awS r M f (va_up d q (d p + 1)) := by
  have h99 := (h.2 q (by omega)).1
  refine ⟨?_, fun x hx => ?_⟩
  · rw [upene (fun z => by rw [← z, h.1] at hl; omega)]; exact h.1
  · by_cases e : x = q
    · subst e
      rw [upee]
      exact ⟨by omega, fun _ => ⟨hf, p, ⟨hq, hm⟩, (h.2 p hp).2 (by omega)⟩⟩
    · rw [upene e]; exact h.2 x hx
theorem mod_rounds {s aw : Nat → Int32} {r f : Nat} {M : Nat → Nat → Bool} {K : (Nat → Int32) → Prop} (hr : r ≤ 50) (hf : f < r) (h2 : s 2 = nI r) (hM : ∀ i, i < r → ∀ j, j < 50 → s (1910 + 50 * i + j) = nI (if M i j then 1 else 0)) (hMr : ∀ i j, i < r → M i j = true → j < r) (hK : ∀ aw' d, (∀ p, p < 50 → aw' p = nI (d p)) → awS r M f d → (∀ n p, Vw r M f n p f → d p ≤ n) → K aw') : wp_X12_roundsTo (nI f) s aw K := by
  unfold wp_X12_roundsTo
  refine meas2 (F := wl_X12_roundsTo_2 (nI f) s K) (fun v u => ∃ k, k ≤ 50 ∧ v = nI k ∧ ∀ p, p < k → u p = nI (if p = f then 0 else 99)) (fun v _ => 50 - v.toNatClampNeg) ?_ _ _ ⟨0, by omega, rfl, fun p hp => by omega⟩
  rintro v u ⟨k, hk, rfl, hu⟩ m ih
  rw [wl_X12_roundsTo_2]
  by_cases w : k = 50
  · subst w
    simp (disch := omega) only [wb_X12_roundsTo_2, nI_natle, Nat.le_refl, not_true_eq_false, not_false_eq_true, forall_const, true_implies, false_implies, implies_true, and_true, true_and, and_false, false_and, or_true, true_or, or_false, false_or, forall_eq, ↓reduceIte, ne_eq, nI1ne, nI0eq, Classical.not_not, eq_self, reduceCtorEq]
    clear ih
    have s0 : awS r M f (fun p => if p = f then 0 else 99) := by
      refine ⟨if_pos rfl, fun p hp => ?_⟩
      show (if p = f then 0 else 99) ≤ 99 ∧ ((if p = f then 0 else 99) < 99 → Vw r M f (if p = f then 0 else 99) p f)
      by_cases e : p = f
      · rw [if_pos e]; exact ⟨by omega, fun _ => ⟨e, by omega⟩⟩
      · rw [if_neg e]; exact ⟨by omega, fun z => by omega⟩
    refine meas2 (F := wl_X12_roundsTo_33 (nI f) s K) (fun c t => ∃ d, (∀ p, p < 50 → t p = nI (d p)) ∧ awS r M f d ∧ (c = nI 1 ∨ c = nI 0 ∧ ∀ p q, f < p → p < r → f ≤ q → q < r → M p q = true → d p ≤ d q + 1)) (fun c t => 2 * popS (fun p => (t p).toNatClampNeg) 50 + if c = 0 then 0 else 1) ?_ _ _ ⟨_, hu, s0, Or.inl rfl⟩
    rintro c t ⟨d, hd, hs, hc⟩ m ih
    have clamp : ∀ (t : Nat → Int32) (d : Nat → Nat), (∀ p, p < 50 → t p = nI (d p)) → awS r M f d → popS (fun p => (t p).toNatClampNeg) 50 = popS d 50 := fun t d h1 h2 => popS_congr 50 (fun p hp => by rw [h1 p hp, nI_clamp (by have := (h2.2 p hp).1; omega)])
    rw [wl_X12_roundsTo_33]
    unfold wb_X12_roundsTo_33
    rcases hc with rfl | ⟨rfl, cl⟩
    · refine ⟨fun z => by rw [nI1ne] at z; exact z.elim, fun _ => ?_⟩
      rw [nI_add]
      refine meas3 (F := wl_X12_roundsTo_43 (nI f) s _) (fun c v t' => ∃ i d', f < i ∧ i ≤ r ∧ v = nI i ∧ (∀ p, p < 50 → t' p = nI (d' p)) ∧ awS r M f d' ∧ (c = nI 0 ∧ (∀ p, p < 50 → d' p = d p) ∧ (∀ p q, f < p → p < i → f ≤ q → q < r → M p q = true → d p ≤ d q + 1) ∨ c = nI 1 ∧ popS d' 50 < popS d 50)) (fun _ v _ => r - v.toNatClampNeg) ?_ _ _ _ ⟨f + 1, d, by omega, by omega, rfl, hd, hs, Or.inl ⟨rfl, fun _ _ => rfl, fun p q h1 h2 => by omega⟩⟩
      rintro c v t' ⟨i, d', hfi, hi, rfl, hd', hs', hJ⟩ m2 ih2
      rw [wl_X12_roundsTo_43]
      unfold wb_X12_roundsTo_43
      rw [h2, nI_natle (by omega) (by omega)]
      refine ⟨fun q => ?_, fun q => ?_⟩
      · have e : i = r := by omega
        subst e
        rcases hJ with ⟨rfl, e1, e2⟩ | ⟨rfl, e1⟩
        · refine ih _ _ ⟨d', hd', hs', Or.inr ⟨rfl, fun p q hp1 hp hq1 hq h1 => ?_⟩⟩ ?_
          · rw [e1 p (by omega), e1 q (by omega)]; exact e2 p q hp1 hp hq1 hq h1
          · rw [clamp t' d' hd' hs', clamp t d hd hs, popS_congr 50 e1, if_pos (of_eq_true nI0eq), if_neg (by rw [nI1ne]; exact id)]
            omega
        · refine ih _ _ ⟨d', hd', hs', Or.inl rfl⟩ ?_
          rw [clamp t' d' hd' hs', clamp t d hd hs, if_neg (by rw [nI1ne]; exact id)]
          omega
      · have hi2 : i < r := by omega
        refine meas3 (F := wl_X12_roundsTo_56 s (nI i) _) (fun c v t' => ∃ j d', f ≤ j ∧ j ≤ r ∧ v = nI j ∧ (∀ p, p < 50 → t' p = nI (d' p)) ∧ awS r M f d' ∧ (c = nI 0 ∧ (∀ p, p < 50 → d' p = d p) ∧ (∀ p q, f < p → (p < i ∨ p = i ∧ q < j) → f ≤ q → q < r → M p q = true → d p ≤ d q + 1) ∨ c = nI 1 ∧ popS d' 50 < popS d 50)) (fun _ v _ => r - v.toNatClampNeg) ?_ _ _ _ ⟨f, d', Nat.le_refl f, by omega, rfl, hd', hs', ?_⟩
        · rintro c v t' ⟨j, d', hfj, hj, rfl, hd', hs', hJ⟩ m3 ih3
          rw [wl_X12_roundsTo_56]
          unfold wb_X12_roundsTo_56
          rw [h2, nI_natle (by omega) (by omega)]
          refine ⟨fun q => ?_, fun q => ?_⟩
          · have e : j = r := by omega
            subst e
            rw [nI_add]
            refine ih2 _ _ _ ⟨i + 1, d', by omega, by omega, rfl, hd', hs', ?_⟩ (by rw [nI_clamp (by omega), nI_clamp (by omega)]; omega)
            rcases hJ with ⟨rfl, e1, e2⟩ | h
            · exact Or.inl ⟨rfl, e1, fun p q h1 hp h3 hq => e2 p q h1 (by omega) h3 hq⟩
            · exact Or.inr h
          · have hj2 : j < r := by omega
            have mu : r - (nI (j + 1)).toNatClampNeg < r - (nI j).toNatClampNeg := by rw [nI_clamp (by omega), nI_clamp (by omega)]; omega
            have b1 := (hs'.2 i (by omega)).1
            have b2 := (hs'.2 j (by omega)).1
            have hrow := hM i hi2 j (by omega)
            have lz : (f_X12_leans s (nI i) (nI j) = 0) = (M i j = false) := by
              unfold f_X12_leans
              rw [nI_mul, nI_add, nI_add, nI_clamp (by omega), hrow]
              cases M i j
              · exact (eq_true (by decide)).trans (eq_true rfl).symm
              · exact (eq_false (by decide)).trans (eq_false (by decide)).symm
            have ok : ok_X12_leans s (nI i) (nI j) := by
              unfold ok_X12_leans
              rw [nI_mul, nI_add, nI_add]
              exact vp_in_nI (by omega) (by omega)
            rw [lz, nI_add, nI_clamp (by omega), nI_clamp (by omega), hd' i (by omega), hd' j (by omega), nI_add, nI_natle (by omega) (by omega)]
            refine ⟨ok, fun _ => ⟨vp_in_nI (by omega) (by omega), vp_in_nI (by omega) (by omega)⟩, fun z => ⟨vp_in_nI (by omega) (by omega), vp_in_nI (by omega) (by omega), ?_⟩, fun z => ?_⟩
            · obtain ⟨z1, z3⟩ := z
              have z1' : M i j = true := by
                cases h : M i j
                · exact absurd h z1
                · rfl
              refine ih3 _ _ _ ⟨j + 1, va_up d' i (d' j + 1), by omega, by omega, rfl, fun p hp => ?_, awS_up hs' (by omega) hi2 hr (by omega) z1' (by omega), Or.inr ⟨rfl, ?_⟩⟩ mu
              · by_cases e : p = i
                · subst e; rw [upde, upee]
                · rw [updne e, upene e]; exact hd' p hp
              · have := popS_upd (d := d') (q := i) (v := d' j + 1) 50 (by omega)
                rcases hJ with ⟨rfl, e1, e2⟩ | ⟨-, e1⟩
                · rw [popS_congr 50 e1] at this
                  omega
                · omega
            · refine ih3 _ _ _ ⟨j + 1, d', by omega, by omega, rfl, hd', hs', ?_⟩ mu
              rcases hJ with ⟨rfl, e1, e2⟩ | h
              · refine Or.inl ⟨rfl, e1, fun p' q' hp1 hp hq1 hq h1 => ?_⟩
                by_cases e : p' = i ∧ q' = j
                · obtain ⟨ea, eb⟩ := e
                  rw [ea, eb] at h1
                  rw [ea, eb, ← e1 i (by omega), ← e1 j (by omega)]
                  apply Classical.byContradiction
                  intro g
                  exact z ⟨by rw [h1]; decide, g⟩
                · exact e2 p' q' hp1 (by omega) hq1 hq h1
              · exact Or.inr h
        · rcases hJ with ⟨rfl, e1, e2⟩ | h
          · exact Or.inl ⟨rfl, e1, fun p q h1 hp h3 hq => e2 p q h1 (by omega) h3 hq⟩
          · exact Or.inr h
    · refine ⟨fun _ => ?_, fun z => absurd (of_eq_true nI0eq) z⟩
      have comp : ∀ n q, Vw r M f n q f → d q ≤ n := by
        intro n
        induction n with
        | zero => rintro q ⟨h, -⟩; rw [h, hs.1]; exact Nat.le_refl 0
        | succ n ihn =>
          rintro q ⟨h1, z, ⟨h2, h3⟩, h4⟩
          by_cases e : q = f
          · rw [e, hs.1]; omega
          · have a1 := ihn z h4
            have a2 := cl q z (by omega) h2 (Vw_ge h4) (hMr q z h2 h3) h3
            omega
      exact hK t d hd hs comp
  · simp (disch := omega) only [wb_X12_roundsTo_2, nI_natle, show ¬ 50 ≤ k from by omega, vpin, nI_clamp, nI_add, nI_nateq, not_true_eq_false, not_false_eq_true, forall_const, true_implies, false_implies, implies_true, and_true, true_and, and_false, false_and, or_true, true_or, or_false, false_or, forall_eq, ↓reduceIte, ne_eq, nI1ne, nI0eq, Classical.not_not, eq_self, reduceCtorEq]
    refine ih _ _ ⟨k + 1, by omega, rfl, fun p hp => ?_⟩ (by rw [nI_clamp (by omega), nI_clamp (by omega)]; omega)
    by_cases e : p = k
    · subst e
      rw [upde]
      by_cases e2 : p = f
      · rw [if_pos e2, if_pos e2]
      · rw [if_neg e2, if_neg e2]
    · rw [updne e]; exact hu p (by omega)
/-- one that a lean leads to and that leads home -/
def okN (M : Nat → Nat → Bool) (d : Nat → Nat) (x f b : Nat) : Prop := M x b = true ∧ d b < 99 ∧ ¬ (b = f ∧ x = f)
/-- the best of those from m on -/
def bestN (M : Nat → Nat → Bool) (d : Nat → Nat) (x f r m : Nat) (v : Int32) : Prop := v = -1 ∧ (∀ b, m ≤ b → b < r → ¬ okN M d x f b) ∨ ∃ c, m ≤ c ∧ c < r ∧ v = nI c ∧ okN M d x f c ∧ ∀ b, m ≤ b → b < r → okN M d x f b → d c ≤ d b ∧ (d b = d c → c ≤ b)
theorem mod_soon {s aw : Nat → Int32} {r f x : Nat} {M : Nat → Nat → Bool} {d : Nat → Nat} {Q : Int32 → Prop} (hr : r ≤ 50) (hf : f < r) (hx : x < r) (h2 : s 2 = nI r) (hM : ∀ i, i < r → ∀ j, j < 50 → s (1910 + 50 * i + j) = nI (if M i j then 1 else 0)) (hd : ∀ p, p < 50 → aw p = nI (d p) ∧ d p ≤ 99) (hQ : ∀ v, bestN M d x f r f v → Q v) : wp_X12_soonest (nI x) (nI f) s aw Q := by
  unfold wp_X12_soonest
  rw [h2]
  refine meas2 (F := wl_X12_soonest_12 (nI x) (nI f) s aw Q) (fun v3 v4 => ∃ m, f ≤ m ∧ m ≤ r ∧ v4 = nI m - nI 1 ∧ bestN M d x f r m v3) (fun _ v4 => (v4 + nI 1).toNatClampNeg) ?_ _ _ ⟨r, by omega, by omega, rfl, Or.inl ⟨rfl, fun b h1 h2 => by omega⟩⟩
  rintro v3 v4 ⟨m, hm1, hm2, rfl, hB⟩ n ih
  rw [wl_X12_soonest_12]
  unfold wb_X12_soonest_12
  by_cases w : m = f
  · subst w
    refine ⟨fun _ => hQ _ hB, fun z => absurd ?_ z⟩
    rw [Int32.lt_iff_toInt_lt, pk_sub_toInt (by omega) (by omega), nI_toInt (by omega)]
    omega
  · have e : nI m - nI 1 = nI (m - 1) := nI_subL (by omega)
    have mu : (nI (m - 1) - nI 1 + nI 1).toNatClampNeg < (nI m - nI 1 + nI 1).toNatClampNeg := by
      rw [Int32.sub_add_cancel, Int32.sub_add_cancel, nI_clamp (by omega), nI_clamp (by omega)]
      omega
    have em : nI (m - 1) + (-1) = nI (m - 1) - nI 1 := by
      rw [Int32.sub_eq_add_neg]
      rfl
    have hrow := hM x hx (m - 1) (by omega)
    have lz : (f_X12_leans s (nI x) (nI (m - 1)) = 0) = (M x (m - 1) = false) := by
      unfold f_X12_leans
      rw [nI_mul, nI_add, nI_add, nI_clamp (by omega), hrow]
      cases M x (m - 1)
      · exact (eq_true (by decide)).trans (eq_true rfl).symm
      · exact (eq_false (by decide)).trans (eq_false (by decide)).symm
    have ok : ok_X12_leans s (nI x) (nI (m - 1)) := by
      unfold ok_X12_leans
      rw [nI_mul, nI_add, nI_add]
      exact vp_in_nI (by omega) (by omega)
    have hdm := hd (m - 1) (by omega)
    rw [e]
    rw [nI_natlt (by omega) (by omega)]
    refine ⟨fun z => absurd z (by omega), fun _ => ⟨ok, fun _ => vp_in_nI (by omega) (by omega), fun y0 hy0 => ?_⟩⟩
    have hy : isB y0 (okN M d x f (m - 1)) := by
      rw [hy0]
      by_cases z : M x (m - 1) = false
      · rw [if_pos (lz ▸ z)]
        exact Or.inr ⟨fun q => absurd (z.symm.trans q.1) (by decide), rfl⟩
      · have z2 : M x (m - 1) = true := by
          cases h : M x (m - 1)
          · exact absurd h z
          · rfl
        rw [if_neg (fun q => z (lz ▸ q)), nI_clamp (by omega), hdm.1]
        by_cases z3 : nI 99 ≤ nI (d (m - 1))
        · rw [if_pos z3]
          rw [nI_natle (by omega) (by omega)] at z3
          exact Or.inr ⟨fun q => by have := q.2.1; omega, rfl⟩
        · rw [if_neg z3]
          rw [nI_natle (by omega) (by omega)] at z3
          by_cases z4 : nI (m - 1) = nI f
          · rw [if_pos z4]
            have e4 := (nI_eq (by omega) (by omega)).mp z4
            by_cases z5 : nI x = nI f
            · rw [if_pos z5]
              have e5 := (nI_eq (by omega) (by omega)).mp z5
              exact Or.inr ⟨fun q => q.2.2 ⟨e4, e5⟩, rfl⟩
            · rw [if_neg z5]
              exact Or.inl ⟨⟨z2, by omega, fun q => z5 (by rw [q.2])⟩, rfl⟩
          · rw [if_neg z4]
            exact Or.inl ⟨⟨z2, by omega, fun q => z4 (by rw [q.1])⟩, rfl⟩
    have hcb : ∀ c, v3 = nI c → c < r → vp_in v3 50 := fun c h1 h2 => by rw [h1]; exact vp_in_nI (by omega) (by omega)
    refine ⟨fun _ hv => ⟨vp_in_nI (by omega) (by omega), ?_⟩, fun y1 hy1 => ?_⟩
    · rcases hB with ⟨z, -⟩ | ⟨c, -, hc, z, -⟩
      · exact absurd z hv
      · exact hcb c z hc
    · rw [em]
      refine ih _ _ ⟨m - 1, by omega, by omega, rfl, ?_⟩ mu
      rcases hy with ⟨hok, rfl⟩ | ⟨hno, rfl⟩
      · rw [if_neg (by rw [nI1ne]; exact id)] at hy1
        rcases hB with ⟨rfl, hn⟩ | ⟨c, hc1, hc2, rfl, hc3, hc4⟩
        · rw [if_pos rfl] at hy1
          refine Or.inr ⟨m - 1, by omega, by omega, hy1, hok, fun b b1 b2 b3 => ?_⟩
          by_cases eb : b = m - 1
          · rw [eb]; exact ⟨Nat.le_refl _, fun _ => Nat.le_refl _⟩
          · exact absurd b3 (hn b (by omega) b2)
        · rw [if_neg (by rw [nm1 (by omega)]; exact id), nI_clamp (by omega), nI_clamp (by omega), (hd c (by omega)).1, hdm.1] at hy1
          have b99 := (hd c (by omega)).2
          have cN : (nI (d c) < nI (d (m - 1))) = (d c < d (m - 1)) := nI_natlt (by omega) (by omega)
          by_cases z : nI (d c) < nI (d (m - 1))
          · have z2 : d c < d (m - 1) := cN ▸ z
            rw [if_pos z] at hy1
            refine Or.inr ⟨c, by omega, hc2, hy1, hc3, fun b b1 b2 b3 => ?_⟩
            by_cases eb : b = m - 1
            · rw [eb]; exact ⟨by omega, fun q => by omega⟩
            · exact hc4 b (by omega) b2 b3
          · have z2 : ¬ d c < d (m - 1) := cN ▸ z
            rw [if_neg z] at hy1
            refine Or.inr ⟨m - 1, by omega, by omega, hy1, hok, fun b b1 b2 b3 => ?_⟩
            by_cases eb : b = m - 1
            · rw [eb]; exact ⟨Nat.le_refl _, fun _ => Nat.le_refl _⟩
            · have := (hc4 b (by omega) b2 b3).1
              exact ⟨by omega, fun _ => by omega⟩
      · rw [if_pos (of_eq_true nI0eq)] at hy1
        rw [hy1]
        rcases hB with ⟨rfl, hn⟩ | ⟨c, hc1, hc2, rfl, hc3, hc4⟩
        · refine Or.inl ⟨rfl, fun b b1 b2 b3 => ?_⟩
          by_cases eb : b = m - 1
          · rw [eb] at b3; exact hno b3
          · exact hn b (by omega) b2 b3
        · refine Or.inr ⟨c, by omega, hc2, rfl, hc3, fun b b1 b2 b3 => ?_⟩
          by_cases eb : b = m - 1
          · rw [eb] at b3; exact absurd b3 hno
          · exact hc4 b (by omega) b2 b3
/-- on a least ring nothing lies below its beginning -/
theorem ring_V {r : Nat} {M : Nat → Nat → Bool} {g st : Nat} (h : ringS r M g st) (hMr : ∀ i j, i < r → M i j = true → j < r) : ∀ b a w, a + b = g → Wk r M a st w → Wk r M b w st → Vw r M st b w st := by
  obtain ⟨g0, g50, hst, h1, h2, h3⟩ := h
  have ge : ∀ b a w, a + b = g → Wk r M a st w → Wk r M b w st → st ≤ w := by
    intro b a w hab ha hb
    apply Classical.byContradiction
    intro z
    have := Wk_app hb ha
    rw [show b + a = g from by omega] at this
    exact h3 w (by omega) this
  intro b
  induction b with
  | zero => intro a w hab ha hb; exact ⟨hb, ge 0 a w hab ha hb⟩
  | succ b ih =>
    intro a w hab ha hb
    obtain ⟨z, hz, hz2⟩ := id hb
    exact ⟨ge (b + 1) a w hab ha hb, z, hz, ih (a + 1) z (by omega) (Wk_back.mpr ⟨w, ha, hz⟩) hz2⟩
theorem row_pre {r : Nat} {M : Nat → Nat → Bool} {g st : Nat} {ρ : Nat → Nat} (h : rowS r M g st ρ) (hst : st < r) (h1 : Wk r M g st st) (hMr : ∀ i j, i < r → M i j = true → j < r) : ∀ k, k ≤ g → Wk r M k st (ρ k) ∧ Wk r M (g - k) (ρ k) st ∧ ρ k < r := by
  intro k
  induction k with
  | zero => intro _; rw [h.1]; exact ⟨rfl, h1, hst⟩
  | succ k ih =>
    intro hk
    obtain ⟨a1, a2, a3⟩ := ih (by omega)
    obtain ⟨b1, b2, b3⟩ := h.2 k (by omega)
    refine ⟨Wk_back.mpr ⟨ρ k, a1, a3, b1⟩, ?_, hMr _ _ a3 b1⟩
    rw [show g - (k + 1) = g - k - 1 from by omega]
    exact b2
theorem Wk_irr {r : Nat} {M : Nat → Nat → Bool} (h : ∀ i, i < r → M i i = false) {x : Nat} : ¬ Wk r M 1 x x := by
  rintro ⟨z, ⟨h1, h2⟩, h3⟩
  have e : z = x := h3
  rw [e, h x h1] at h2
  cases h2
/-- what the best one leads to -/
theorem best_home {r : Nat} {M : Nat → Nat → Bool} {d : Nat → Nat} {x f c : Nat} (hs : awS r M f d) (hr : r ≤ 50) (hx : x < r) (hc : c < r) (h : okN M d x f c) : Wk r M (d c + 1) x f := ⟨c, ⟨hx, h.1⟩, Vw_W ((hs.2 c (by omega)).2 h.2.1)⟩
theorem mod_again0 {s aw rn : Nat → Int32} {r : Nat} {M : Nat → Nat → Bool} {p1 : Int32} {K : Int32 → (Nat → Int32) → (Nat → Int32) → Prop} (hr : r ≤ 50) (h2 : s 2 = nI r) (hM : ∀ i, i < r → ∀ j, j < 50 → s (1910 + 50 * i + j) = nI (if M i j then 1 else 0)) (hMr : ∀ i j, i < r → M i j = true → j < r) (hno : ∀ i, i < r → ∀ n, 0 < n → ¬ Wk r M n i i) (hK : ∀ aw', K (if p1 = -1 then nI 0 else -1) aw' rn) : ∃ n, wl_X12_again_15 p1 s rn K n (nI 99) (-1) (nI 0) aw := by
  refine meas4 (F := wl_X12_again_15 p1 s rn K) (fun v2 v3 v4 _ => ∃ k, k ≤ r ∧ v4 = nI k ∧ v2 = nI 99 ∧ v3 = -1) (fun _ _ v4 _ => r - v4.toNatClampNeg) ?_ _ _ _ _ ⟨0, by omega, rfl, rfl, rfl⟩
  rintro v2 v3 v4 a ⟨k, hk, rfl, rfl, rfl⟩ m ih
  rw [wl_X12_again_15]
  unfold wb_X12_again_15
  rw [h2, nI_natle (by omega) (by omega)]
  refine ⟨fun _ => ⟨fun z => absurd rfl z, fun _ y hy => by rw [hy]; exact hK a⟩, fun w => ?_⟩
  refine mod_rounds hr (by omega) h2 hM hMr (fun aw' d hd hs _ => mod_soon hr (by omega) (by omega) h2 hM (fun p hp => ⟨hd p hp, (hs.2 p hp).1⟩) (fun v hv => ?_))
  rcases hv with ⟨rfl, -⟩ | ⟨c, -, hc, -, hok, -⟩
  · refine ⟨fun z => absurd rfl z, fun x2 hx2 x3 hx3 => ?_⟩
    rw [if_pos rfl] at hx2 hx3
    rw [hx2, hx3, nI_add]
    exact ih _ _ _ _ ⟨k + 1, by omega, rfl, rfl, rfl⟩ (by rw [nI_clamp (by omega), nI_clamp (by omega)]; omega)
  · exact absurd (best_home hs hr (by omega) hc hok) (hno k (by omega) _ (by omega))
theorem mod_again1 {s aw rn : Nat → Int32} {r g st : Nat} {M : Nat → Nat → Bool} {ρ : Nat → Nat} {p1 : Int32} {K : Int32 → (Nat → Int32) → (Nat → Int32) → Prop} (hr : r ≤ 50) (h2 : s 2 = nI r) (hM : ∀ i, i < r → ∀ j, j < 50 → s (1910 + 50 * i + j) = nI (if M i j then 1 else 0)) (hMr : ∀ i j, i < r → M i j = true → j < r) (hirr : ∀ i, i < r → M i i = false) (hS : ringS r M g st) (hρ : rowS r M g st ρ) (hK : ∀ aw' rn', (∀ j, j < g → rn' j = nI (ρ j)) → (¬ p1 = -1 → ¬ nI g ≤ p1 → vp_in p1 50) ∧ K (if p1 = -1 then nI g else if nI g ≤ p1 then -1 else rn' p1.toNatClampNeg) aw' rn') : ∃ n, wl_X12_again_15 p1 s rn K n (nI 99) (-1) (nI 0) aw := by
  obtain ⟨g0, g50, hst, h1, hmin, hlt⟩ := id hS
  have g2 : 2 ≤ g := by
    apply Classical.byContradiction
    intro z
    have : g = 1 := by omega
    subst this
    exact Wk_irr hirr h1
  refine meas4 (F := wl_X12_again_15 p1 s rn K) (fun v2 v3 v4 _ => ∃ k, k ≤ r ∧ v4 = nI k ∧ (k ≤ st ∧ (∃ l, g < l ∧ l ≤ 99 ∧ v2 = nI l) ∨ st < k ∧ v2 = nI g ∧ v3 = nI st)) (fun _ _ v4 _ => r - v4.toNatClampNeg) ?_ _ _ _ _ ⟨0, by omega, rfl, Or.inl ⟨by omega, 99, by omega, by omega, rfl⟩⟩
  rintro v2 v3 v4 a ⟨k, hk, rfl, hJ⟩ m ih
  rw [wl_X12_again_15]
  unfold wb_X12_again_15
  rw [h2, nI_natle (by omega) (by omega)]
  refine ⟨fun w => ?_, fun w => ?_⟩
  · have e : k = r := by omega
    subst e
    rcases hJ with ⟨z, -⟩ | ⟨-, rfl, rfl⟩
    · omega
    · refine ⟨fun _ => ?_, fun z => absurd z (by rw [nm1 (by omega)]; exact id)⟩
      refine mod_rounds hr hst h2 hM hMr (fun aw' d hd hs comp => ?_)
      refine meas3 (F := wl_X12_again_107 p1 s K (nI g) (nI st) aw') (fun v4 v5 rn' => ∃ i, i ≤ g ∧ v5 = nI i ∧ v4 = nI (ρ i) ∧ ∀ j, j < i → rn' j = nI (ρ j)) (fun _ v5 _ => g - v5.toNatClampNeg) ?_ _ _ _ ⟨0, by omega, rfl, by rw [hρ.1], fun j hj => by omega⟩
      rintro v4 v5 rn' ⟨i, hi, rfl, rfl, hrn⟩ m2 ih2
      rw [wl_X12_again_107]
      unfold wb_X12_again_107
      rw [nI_natle (by omega) (by omega)]
      refine ⟨fun w => ?_, fun w => ⟨vp_in_nI (by omega) (by omega), ?_⟩⟩
      · have e : i = g := by omega
        subst e
        exact ⟨(hK aw' rn' hrn).1, fun y hy => by rw [hy]; exact (hK aw' rn' hrn).2⟩
      · obtain ⟨a1, a2, a3⟩ := row_pre hρ hst h1 hMr i hi
        obtain ⟨b1, b2, b3⟩ := hρ.2 i (by omega)
        refine mod_soon hr hst a3 h2 hM (fun p hp => ⟨hd p hp, (hs.2 p hp).1⟩) (fun v hv => ?_)
        have nr := hMr _ _ a3 b1
        have nv : Vw k M st (g - i - 1) (ρ (i + 1)) st := ring_V hS hMr (g - i - 1) (i + 1) _ (by omega) (Wk_back.mpr ⟨ρ i, a1, a3, b1⟩) b2
        have nd := comp _ _ nv
        have nok : okN M d (ρ i) st (ρ (i + 1)) := by
          refine ⟨b1, by omega, ?_⟩
          rintro ⟨q1, q2⟩
          rw [q1, q2, hirr st hst] at b1
          cases b1
        have hv2 : v = nI (ρ (i + 1)) := by
          rcases hv with ⟨-, hn⟩ | ⟨c, c1, c2, c3, c4, c5⟩
          · exact absurd nok (hn _ (Vw_ge nv) nr)
          · obtain ⟨f1, f2⟩ := c5 _ (Vw_ge nv) nr nok
            have cw := best_home hs hr a3 c2 c4
            have long := hmin st hst (i + (d c + 1)) (by omega) (Wk_app a1 cw)
            have dc : d c = g - i - 1 := by omega
            have le := f2 (by omega)
            have cWk : Wk k M (g - i - 1) c st := by
              rw [← dc]
              exact Vw_W ((hs.2 c (by omega)).2 c4.2.1)
            have nlt : ¬ c < ρ (i + 1) := fun z => b3 c z ⟨c4.1, cWk⟩
            rw [c3, show c = ρ (i + 1) from by omega]
        rw [hv2, nI_clamp (by omega), nI_add]
        refine ih2 _ _ _ ⟨i + 1, by omega, rfl, rfl, fun j hj => ?_⟩ (by rw [nI_clamp (by omega), nI_clamp (by omega)]; omega)
        by_cases e : j = i
        · subst e; rw [upde]
        · rw [updne e]; exact hrn j (by omega)
  · refine mod_rounds hr (by omega) h2 hM hMr (fun aw' d hd hs comp => mod_soon hr (by omega) (by omega) h2 hM (fun p hp => ⟨hd p hp, (hs.2 p hp).1⟩) (fun v hv => ?_))
    have mu : r - (nI (k + 1)).toNatClampNeg < r - (nI k).toNatClampNeg := by rw [nI_clamp (by omega), nI_clamp (by omega)]; omega
    have atst : k = st → ∃ c, c < r ∧ v = nI c ∧ d c + 1 = g := by
      intro e
      subst e
      obtain ⟨g', rfl⟩ : ∃ g', g = g' + 1 := ⟨g - 1, by omega⟩
      obtain ⟨z, ⟨z1, z2⟩, z3⟩ := id h1
      have zv : Vw r M k g' z k := ring_V hS hMr g' 1 z (by omega) ⟨z, ⟨z1, z2⟩, rfl⟩ z3
      have zd := comp _ _ zv
      have zr := hMr _ _ z1 z2
      have zok : okN M d k k z := by
        refine ⟨z2, by omega, ?_⟩
        rintro ⟨q1, -⟩
        rw [q1, hirr k hst] at z2
        cases z2
      rcases hv with ⟨-, hn⟩ | ⟨c, c1, c2, c3, c4, c5⟩
      · exact absurd zok (hn _ (Vw_ge zv) zr)
      · have f1 := (c5 _ (Vw_ge zv) zr zok).1
        have long := hmin k hst (d c + 1) (by omega) (best_home hs hr hst c2 c4)
        exact ⟨c, c2, c3, by omega⟩
    have other : ∀ c, c < r → v = nI c → d c ≤ 98 ∧ g ≤ d c + 1 ∧ (k < st → g < d c + 1) := by
      intro c hc ec
      rcases hv with ⟨z, -⟩ | ⟨c', c1, c2, c3, c4, c5⟩
      · rw [z] at ec
        exact absurd ec.symm (by rw [nm1 (by omega)]; exact id)
      · have : c = c' := (nI_eq (by omega) (by omega)).mp (by rw [← ec, c3])
        subst this
        have cw := best_home hs hr (by omega) c2 c4
        have long := hmin k (by omega) (d c + 1) (by omega) cw
        refine ⟨by have := c4.2.1; omega, long, fun hks => ?_⟩
        apply Classical.byContradiction
        intro z
        rw [show d c + 1 = g from by omega] at cw
        exact hlt k hks cw
    have vc : v = -1 ∨ ∃ c, c < r ∧ v = nI c := by
      rcases hv with ⟨z, -⟩ | ⟨c, -, hc, z, -⟩
      · exact Or.inl z
      · exact Or.inr ⟨c, hc, z⟩
    rcases vc with rfl | ⟨c, hc, rfl⟩
    · refine ⟨fun z => absurd rfl z, fun x2 hx2 x3 hx3 => ?_⟩
      rw [if_pos rfl] at hx2 hx3
      rw [hx2, hx3, nI_add]
      refine ih _ _ _ _ ⟨k + 1, by omega, rfl, ?_⟩ mu
      rcases hJ with ⟨z, hl⟩ | ⟨z, hl⟩
      · refine Or.inl ⟨?_, hl⟩
        by_cases e : k = st
        · obtain ⟨c, c1, c2, -⟩ := atst e
          exact absurd c2.symm (by rw [nm1 (by omega)]; exact id)
        · omega
      · exact Or.inr ⟨by omega, hl⟩
    · obtain ⟨o1, o2, o3⟩ := other c hc rfl
      have ne : ¬ nI c = -1 := by rw [nm1 (by omega)]; exact id
      refine ⟨fun _ => ⟨vp_in_nI (by omega) (by omega), fun _ => vp_in_nI (by omega) (by omega)⟩, fun x2 hx2 x3 hx3 => ?_⟩
      rw [if_neg ne, nI_clamp (by omega), hd c (by omega), nI_add] at hx2 hx3
      rw [nI_add]
      rcases hJ with ⟨z, l, l1, l2, rfl⟩ | ⟨z, rfl, rfl⟩
      · have cN : (nI l ≤ nI (d c + 1)) = (l ≤ d c + 1) := nI_natle (by omega) (by omega)
        by_cases e : k = st
        · obtain ⟨c', c1, c2, c3⟩ := atst e
          have : c = c' := (nI_eq (by omega) (by omega)).mp c2
          subst this
          have q : ¬ nI l ≤ nI (d c + 1) := by rw [cN]; omega
          rw [if_neg q] at hx2 hx3
          rw [hx2, hx3]
          exact ih _ _ _ _ ⟨k + 1, by omega, rfl, Or.inr ⟨by omega, by rw [c3], by rw [e]⟩⟩ mu
        · have o4 := o3 (by omega)
          by_cases q : nI l ≤ nI (d c + 1)
          · rw [if_pos q] at hx2 hx3
            rw [hx2, hx3]
            exact ih _ _ _ _ ⟨k + 1, by omega, rfl, Or.inl ⟨by omega, l, l1, l2, rfl⟩⟩ mu
          · rw [if_neg q] at hx2 hx3
            rw [hx2, hx3]
            exact ih _ _ _ _ ⟨k + 1, by omega, rfl, Or.inl ⟨by omega, d c + 1, o4, by omega, rfl⟩⟩ mu
      · have cN : (nI g ≤ nI (d c + 1)) = (g ≤ d c + 1) := nI_natle (by omega) (by omega)
        have q : nI g ≤ nI (d c + 1) := by rw [cN]; exact o2
        rw [if_pos q] at hx2 hx3
        rw [hx2, hx3]
        exact ih _ _ _ _ ⟨k + 1, by omega, rfl, Or.inr ⟨by omega, rfl, rfl⟩⟩ mu
theorem m1_le {x : Int32} (h : ¬ x < 0) : (-1) ≤ x := by
  rw [Int32.le_iff_toInt_le]
  rw [Int32.lt_iff_toInt_lt] at h
  have a : (-1 : Int32).toInt = -1 := by decide
  have b : (0 : Int32).toInt = 0 := by decide
  omega
theorem m1_ge {x : Int32} (h : (-1) ≤ x) (h2 : ¬ x = -1) : ¬ x < 0 := by
  rw [Int32.le_iff_toInt_le] at h
  rw [← Int32.toInt_inj] at h2
  rw [Int32.lt_iff_toInt_lt]
  have a : (-1 : Int32).toInt = -1 := by decide
  have b : (0 : Int32).toInt = 0 := by decide
  omega
theorem core_again {today : Int32} {rights : Nat → Option Nat} {count : Int32} {leans : Nat → Int64} {heardOn : Nat → Int32} {overruled : Int64} {termDays step : Int32} {R_L : List Nat} {R_kind R_number R_side R_n R_cell R_day R_ruling R_share : Nat → Int32} {s row aw rn : Nat → Int32} {p1 : Int32} {R : Prop} (h : ICourt today rights count leans heardOn overruled termDays step R_L R_kind R_number R_side R_n R_cell R_day R_ruling R_share s) (hR : R) : wp_X11_again p1 row count leans (fun r _ => wp_X12_again p1 s aw rn (fun r' _ _ => r = r' ∧ R)) := by
  obtain ⟨-, r, ki, hr, rfl, h2, -, hM, hM2, -⟩ := h.2.2
  have hMr : ∀ i j, i < r → Mx leans i j = true → j < r := fun i j hi hb => (hM2 i hi j hb).1
  have hM' : ∀ i, i < r → ∀ j, j < 50 → s (1910 + 50 * i + j) = nI (if Mx leans i j then 1 else 0) := fun i hi j hj => hM i hi j hj
  have hirr : ∀ i, i < r → Mx leans i i = false := fun i hi => Bool.eq_false_iff.mpr (fun z => (hM2 i hi i z).2.2.2 rfl)
  unfold wp_X11_again
  refine cls_ring hr hMr (fun hno => ?_) (fun g st ρ row' hS hρ hrow => ?_)
  · have wi : f_X11_isWithin p1 (nI 0) (nI 0 - nI 1) = nI 0 := by
      rw [within_eq]
      rcases in_cases1 p1 0 (by omega) with ⟨q, -⟩ | ⟨-, k, hk, -⟩
      · exact q
      · omega
    rw [wi]
    have key : wp_X12_again p1 s aw rn (fun r' _ _ => (if p1 = -1 then nI 0 else -1) = r' ∧ R) := by
      unfold wp_X12_again
      refine ⟨fun _ => mod_again0 hr h2 hM' hMr hno (fun _ => ⟨rfl, hR⟩), fun z => ⟨?_, hR⟩⟩
      rw [if_neg (fun e => z (by rw [e]; decide))]
    refine ⟨fun z => ⟨fun w => absurd (of_eq_true nI0eq) w, fun y hy => ?_⟩, fun z => ?_⟩
    · rw [if_pos (of_eq_true nI0eq)] at hy
      rw [if_neg z] at key
      rw [hy]; exact key
    · rw [if_pos z] at key
      exact key
  · have g50 := hS.2.1
    have g0 := hS.1
    rcases in_cases1 p1 g (by omega) with ⟨q, hq⟩ | ⟨q, k, hk, rfl⟩
    · rw [within_eq, q]
      have key : wp_X12_again p1 s aw rn (fun r' _ _ => (if p1 = -1 then nI g else -1) = r' ∧ R) := by
        unfold wp_X12_again
        refine ⟨fun z => mod_again1 hr h2 hM' hMr hirr hS hρ (fun aw' rn' hrn => ?_), fun z => ⟨?_, hR⟩⟩
        · by_cases e : p1 = -1
          · refine ⟨fun w => absurd e w, ?_⟩
            rw [if_pos e, if_pos e]
            exact ⟨rfl, hR⟩
          · have : nI g ≤ p1 := by
              obtain ⟨j, hj, rfl⟩ := nI_of (m1_ge z e)
              rw [nI_natle (by omega) (by omega)]
              apply Classical.byContradiction
              intro w
              exact hq j (by omega) rfl
            refine ⟨fun _ w => absurd this w, ?_⟩
            rw [if_neg e, if_neg e, if_pos this]
            exact ⟨rfl, hR⟩
        · rw [if_neg (fun e => z (by rw [e]; decide))]
      refine ⟨fun z => ⟨fun w => absurd (of_eq_true nI0eq) w, fun y hy => ?_⟩, fun z => ?_⟩
      · rw [if_pos (of_eq_true nI0eq)] at hy
        rw [if_neg z] at key
        rw [hy]; exact key
      · rw [if_pos z] at key
        exact key
    · rw [within_eq, q]
      have ne : ¬ nI k = -1 := by rw [nm1 (by omega)]; exact id
      refine ⟨fun _ => ⟨fun _ => vp_in_nI (by omega) (by omega), fun y hy => ?_⟩, fun z => absurd z ne⟩
      rw [if_neg (by rw [nI1ne]; exact id), nI_clamp (by omega), hrow k hk] at hy
      rw [hy]
      unfold wp_X12_again
      refine ⟨fun _ => mod_again1 hr h2 hM' hMr hirr hS hρ (fun aw' rn' hrn => ?_), fun z => absurd (m1_le (nI_pos (by omega))) z⟩
      have nle : ¬ nI g ≤ nI k := by rw [nI_natle (by omega) (by omega)]; omega
      refine ⟨fun _ _ => vp_in_nI (by omega) (by omega), ?_⟩
      rw [if_neg ne, if_neg nle, nI_clamp (by omega), hrn k hk]
      exact ⟨rfl, hR⟩
