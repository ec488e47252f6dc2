/-- the spots to which at most k steps lead from a -/
def rsN (s : Nat → Int32) (a : Nat) : Nat → Nat → Bool
  | 0 => fun p => decide (p = a)
  | k + 1 => fun p => decide (p < 30) && decide (¬ s (20 + p) = nI 5) && (rsN s a k p || (List.range 30).any (fun q => besideN q p && rsN s a k q))
theorem rsN_s (s : Nat → Int32) (a k p : Nat) : rsN s a (k + 1) p = true ↔ (p < 30 ∧ ¬ s (20 + p) = nI 5) ∧ (rsN s a k p = true ∨ ∃ q, q < 30 ∧ besideN q p = true ∧ rsN s a k q = true) := by
  show (decide (p < 30) && decide (¬ s (20 + p) = nI 5) && (rsN s a k p || (List.range 30).any (fun q => besideN q p && rsN s a k q))) = true ↔ _
  rw [Bool.and_eq_true, Bool.and_eq_true, decide_eq_true_eq, decide_eq_true_eq, Bool.or_eq_true, List.any_eq_true]
  constructor
  · rintro ⟨h1, h2 | ⟨q, h2, h3⟩⟩
    · exact ⟨h1, Or.inl h2⟩
    · rw [Bool.and_eq_true] at h3
      exact ⟨h1, Or.inr ⟨q, List.mem_range.mp h2, h3.1, h3.2⟩⟩
  · rintro ⟨h1, h2 | ⟨q, h2, h3, h4⟩⟩
    · exact ⟨h1, Or.inl h2⟩
    · exact ⟨h1, Or.inr ⟨q, List.mem_range.mpr h2, by rw [h3, h4]; rfl⟩⟩
theorem rsN_0 (s : Nat → Int32) (a p : Nat) : rsN s a 0 p = true ↔ p = a := by
  show decide (p = a) = true ↔ _
  exact ⟨of_decide_eq_true, decide_eq_true⟩
theorem rsN_in {s : Nat → Int32} {a : Nat} (ha : a < 30) (ho : ¬ s (20 + a) = nI 5) (k p : Nat) (h : rsN s a k p = true) : p < 30 ∧ ¬ s (20 + p) = nI 5 := by
  cases k with
  | zero => rw [rsN_0] at h; rw [h]; exact ⟨ha, ho⟩
  | succ k => exact ((rsN_s s a k p).mp h).1
theorem rsN_up {s : Nat → Int32} {a : Nat} (ha : a < 30) (ho : ¬ s (20 + a) = nI 5) (k p : Nat) (h : rsN s a k p = true) : rsN s a (k + 1) p = true := (rsN_s s a k p).mpr ⟨rsN_in ha ho k p h, Or.inl h⟩
theorem rsN_le {s : Nat → Int32} {a : Nat} (ha : a < 30) (ho : ¬ s (20 + a) = nI 5) {j k : Nat} (hjk : j ≤ k) (p : Nat) (h : rsN s a j p = true) : rsN s a k p = true := by
  induction hjk with
  | refl => exact h
  | step _ ih => exact rsN_up ha ho _ p ih
theorem rsN_stable {s : Nat → Int32} {a j : Nat} (h : rsN s a (j + 1) = rsN s a j) (m : Nat) : rsN s a (j + m) = rsN s a j := by
  induction m with
  | zero => rfl
  | succ m ih =>
    have : rsN s a (j + m + 1) = rsN s a (j + 1) := by
      funext p
      rw [Bool.eq_iff_iff, rsN_s, rsN_s, ih]
    rw [show j + (m + 1) = j + m + 1 from rfl, this, h]
theorem rsN_full {s : Nat → Int32} {a : Nat} (ha : a < 30) (ho : ¬ s (20 + a) = nI 5) (k : Nat) : (∃ j, j < k ∧ rsN s a (j + 1) = rsN s a j) ∨ unfN 30 (rsN s a k) + k < 30 := by
  induction k with
  | zero =>
    right
    have h1 := unf_lt (f := fun _ => false) (g := rsN s a 0) 30 (fun i _ hi => by cases hi) ⟨a, ha, rfl, (rsN_0 s a a).mpr rfl⟩
    have h2 := unf_r (fun _ => false) 30
    omega
  | succ k ih =>
    rcases ih with ⟨j, hj, e⟩ | h
    · exact Or.inl ⟨j, by omega, e⟩
    · by_cases e : rsN s a (k + 1) = rsN s a k
      · exact Or.inl ⟨k, by omega, e⟩
      · right
        have : ∃ p, p < 30 ∧ rsN s a k p = false ∧ rsN s a (k + 1) p = true := by
          apply Classical.byContradiction
          intro g
          apply e
          funext p
          rw [Bool.eq_iff_iff]
          constructor
          · intro z
            apply Classical.byContradiction
            intro y
            exact g ⟨p, ((rsN_s s a k p).mp z).1.1, Bool.eq_false_iff.mpr y, z⟩
          · exact rsN_up ha ho k p
        have h1 := unf_lt (f := rsN s a k) (g := rsN s a (k + 1)) 30 (fun i _ hi => rsN_up ha ho k i hi) this
        omega
theorem rsN_29 {s : Nat → Int32} {a : Nat} (ha : a < 30) (ho : ¬ s (20 + a) = nI 5) (k b : Nat) (h : rsN s a k b = true) : rsN s a 29 b = true := by
  rcases rsN_full ha ho 30 with ⟨j, hj, e⟩ | h2
  · rcases Nat.lt_or_ge k 30 with q | q
    · exact rsN_le ha ho (by omega) b h
    · have e1 := rsN_stable e (k - j)
      rw [show j + (k - j) = k from by omega] at e1
      rw [e1] at h
      exact rsN_le ha ho (by omega) b h
  · omega
theorem cls_far {gr s : Nat → Int32} {a b : Nat} {Q : Int32 → Prop} (hgr : ∀ i, i < 30 → gr i = s (20 + i)) (ha : a < 30) (hb : b < 30) (q0 : a = b → Q (nI 0)) (q1 : ¬ a = b → s (20 + a) = nI 5 → Q (nI 99)) (q2 : ¬ a = b → ¬ s (20 + a) = nI 5 → ∀ k, k < 30 → rsN s a k b = true → (∀ j, j < k → ¬ rsN s a j b = true) → Q (nI k)) (q3 : ¬ a = b → ¬ s (20 + a) = nI 5 → (∀ j, j < 30 → ¬ rsN s a j b = true) → Q (nI 99)) : wp_X4_far (nI a) (nI b) gr Q := by
  unfold wp_X4_far
  refine cls_open (fun y hy => ?_)
  rw [nI_nateq (by omega) (by omega)]
  refine ⟨fun hab => ⟨fun hz => ?_, fun hz => ?_⟩, fun hab => q0 hab⟩
  · have ho : ¬ s (20 + a) = nI 5 := by
      intro g
      apply hz
      rw [b32_z]
      intro i hi
      rw [b32_and, b32_one a i (by omega)]
      by_cases e : i = a
      · have : b32 y i = false := Bool.eq_false_iff.mpr (fun z => by
          have := ((hy i).mp z).2
          rw [e, hgr a ha] at this
          exact this g)
        rw [this, Bool.and_false]
      · rw [decide_eq_false e]; rfl
    have ys : spo y := fun i hi => Bool.eq_false_iff.mpr (fun z => by
      have := ((hy i).mp z).1
      omega)
    refine meas2 (F := wl_X4_far_30 (nI b) Q y) (fun x v => ∃ k, k < 30 ∧ v = nI (k + 1) ∧ spo x ∧ (∀ i, b32 x i = rsN s a k i) ∧ ∀ j, j ≤ k → ¬ rsN s a j b = true) (fun _ v => 30 - v.toNatClampNeg) ?_ _ _ ⟨0, by omega, rfl, fun i hi => ?_, fun i => ?_, fun j hj z => ?_⟩
    · rintro x v ⟨k, hk, rfl, xs, hx, hn⟩ m ih
      rw [wl_X4_far_30]
      by_cases w : k = 29
      · subst w
        simp (disch := omega) only [wb_X4_far_30, nI_natle, Nat.reduceAdd, Nat.le_refl, not_true_eq_false, not_false_eq_true, forall_const, true_implies, false_implies, implies_true, and_true, true_and, and_false, false_and, or_true, true_or, or_false, false_or, forall_eq, ↓reduceIte, ne_eq, nI1ne, nI0eq, Classical.not_not, eq_self, reduceCtorEq]
        exact q3 hab ho (fun j hj => hn j (by omega))
      · have nx : ∀ i, b32 (f_X11_withBeside x &&& y) i = rsN s a (k + 1) i := by
          intro i
          rw [Bool.eq_iff_iff, b32_and, Bool.and_eq_true, wB_bit xs, hy, rsN_s]
          constructor
          · rintro ⟨⟨h1, h2⟩, h3, h4⟩
            rw [hgr i h1] at h4
            refine ⟨⟨h1, h4⟩, ?_⟩
            rcases h2 with h2 | ⟨q, h5, h6, h7⟩
            · exact Or.inl (by rw [← hx]; exact h2)
            · exact Or.inr ⟨q, h5, h6, by rw [← hx]; exact h7⟩
          · rintro ⟨⟨h1, h4⟩, h2⟩
            refine ⟨⟨h1, ?_⟩, h1, by rw [hgr i h1]; exact h4⟩
            rcases h2 with h2 | ⟨q, h5, h6, h7⟩
            · exact Or.inl (by rw [hx]; exact h2)
            · exact Or.inr ⟨q, h5, h6, by rw [hx]; exact h7⟩
        simp (disch := omega) only [wb_X4_far_30, nI_natle, show ¬ 30 ≤ k + 1 from by omega, b32_testz, nI_add, nx, not_true_eq_false, not_false_eq_true, forall_const, true_implies, false_implies, implies_true, and_true, true_and, and_false, false_and, or_true, true_or, or_false, false_or, forall_eq, ↓reduceIte, ne_eq, nI1ne, nI0eq, Classical.not_not, eq_self, reduceCtorEq]
        refine ⟨fun z => ih _ _ ⟨k + 1, by omega, rfl, and_spo ys, nx, fun j hj => ?_⟩ (by rw [nI_clamp (by omega), nI_clamp (by omega)]; omega), fun z => ?_⟩
        · by_cases e : j = k + 1
          · rw [e, z]; decide
          · exact hn j (by omega)
        · exact q2 hab ho (k + 1) (by omega) (by
            cases h : rsN s a (k + 1) b
            · exact absurd h z
            · rfl) (fun j hj => hn j (by omega))
    · rw [b32_one a i (by omega)]
      exact decide_eq_false (by omega)
    · rw [b32_one a i (by omega)]
      rfl
    · have : j = 0 := by omega
      rw [this, rsN_0] at z
      exact hab z.symm
  · have hw : s (20 + a) = nI 5 := by
      apply Classical.byContradiction
      intro g
      rw [b32_z] at hz
      have := hz a (by omega)
      rw [b32_and, b32_one a a (by omega), decide_eq_true rfl, Bool.true_and] at this
      have h2 := (hy a).mpr ⟨ha, by rw [hgr a ha]; exact g⟩
      rw [h2] at this
      cases this
    exact q1 hab hw
theorem beside_eq : ∀ p, p < 30 → ∀ q, q < 30 → f_X12_areBeside (nI p) (nI q) = nI (if besideN p q then 1 else 0) := by decide +kernel
theorem popS_upd {d : Nat → Nat} {q v : Nat} : ∀ n, q < n → popS (va_up d q v) n + d q = popS d n + v := by
  intro n
  induction n with
  | zero => intro h; omega
  | succ n ih =>
    intro h
    show popS (va_up d q v) n + va_up d q v n + d q = popS d n + d n + v
    by_cases e : q = n
    · subst e
      have e1 : popS (va_up d q v) q = popS d q := popS_congr q (fun i hi => upene (by omega))
      rw [e1, upee]
      omega
    · have := ih (by omega)
      rw [upene (show n ≠ q from fun z => e z.symm)]
      omega
/-- a row of steps that is sound -/
def stS (s : Nat → Int32) (a : Nat) (d : Nat → Nat) : Prop := d a = 0 ∧ ∀ p, p < 30 → d p ≤ 99 ∧ (d p < 99 → rsN s a (d p) p = true)
theorem stS_up {s : Nat → Int32} {a : Nat} {d : Nat → Nat} {p q : Nat} (h : stS s a d) (hp : p < 30) (hq : q < 30) (hb : besideN p q = true) (ho : ¬ s (20 + q) = nI 5) (hl : d p + 1 < d q) : stS s a (va_up d q (d p + 1)) := by
  have h99 := (h.2 q hq).1
  refine ⟨?_, fun r hr => ?_⟩
  · rw [upene (fun z => by rw [← z, h.1] at hl; omega)]; exact h.1
  · by_cases e : r = q
    · subst e
      rw [upee]
      exact ⟨by omega, fun _ => (rsN_s s a _ _).mpr ⟨⟨hr, ho⟩, Or.inr ⟨p, hp, hb, (h.2 p hp).2 (by omega)⟩⟩⟩
    · rw [upene e]; exact h.2 r hr
theorem mod_far {s st0 : Nat → Int32} {a b : Nat} {K : Int32 → (Nat → Int32) → Prop} (ha : a < 30) (hb : b < 30) (hK : ∀ e st, (a = b → e = 0) → (s (20 + a) = nI 5 → ¬ a = b → e = 99) → (¬ s (20 + a) = nI 5 → e ≤ 99 ∧ (e < 99 → rsN s a e b = true) ∧ ∀ k, rsN s a k b = true → e ≤ k) → K (nI e) st) : wp_X12_farOf (nI a) (nI b) s st0 K := by
  unfold wp_X12_farOf
  refine meas2 (F := wl_X12_farOf_2 (nI a) (nI b) s K) (fun v u => ∃ k, k ≤ 30 ∧ v = nI k ∧ ∀ p, p < k → u p = nI (if p = a then 0 else 99)) (fun v _ => 30 - v.toNatClampNeg) ?_ _ _ ⟨0, by omega, rfl, fun p hp => by omega⟩
  rintro v u ⟨k, hk, rfl, hu⟩ m ih
  rw [wl_X12_farOf_2]
  by_cases w : k = 30
  · subst w
    simp (disch := omega) only [wb_X12_farOf_2, nI_natle, Nat.le_refl, nI_add, nI_clamp, vpin, not_true_eq_false, not_false_eq_true, forall_const, true_implies, false_implies, implies_true, and_true, true_and, and_false, false_and, or_true, true_or, or_false, false_or, forall_eq, ↓reduceIte, ne_eq, nI1ne, nI0eq, Classical.not_not, eq_self, reduceCtorEq]
    clear ih
    have s0 : stS s a (fun p => if p = a then 0 else 99) := by
      refine ⟨if_pos rfl, fun p hp => ?_⟩
      show (if p = a then 0 else 99) ≤ 99 ∧ ((if p = a then 0 else 99) < 99 → rsN s a (if p = a then 0 else 99) p = true)
      by_cases e : p = a
      · rw [if_pos e]; exact ⟨by omega, fun _ => (rsN_0 s a p).mpr e⟩
      · rw [if_neg e]; exact ⟨by omega, fun z => by omega⟩
    by_cases wl : s (20 + a) = nI 5
    · refine ⟨1, ?_⟩
      rw [if_pos wl, wl_X12_farOf_50]
      unfold wb_X12_farOf_50
      refine ⟨fun _ => ⟨vp_in_nI (by omega) (by omega), ?_⟩, fun z => absurd (of_eq_true nI0eq) z⟩
      rw [nI_clamp (by omega), hu b hb]
      refine hK _ _ (fun e => if_pos e.symm) (fun _ e => if_neg (fun z => e z.symm)) (fun z => absurd wl z)
    · rw [if_neg wl]
      refine meas2 (F := wl_X12_farOf_50 (nI b) s K) (fun c t => ∃ d, (∀ p, p < 30 → t p = nI (d p)) ∧ stS s a d ∧ (c = nI 1 ∨ c = nI 0 ∧ ∀ p q, p < 30 → q < 30 → besideN p q = true → ¬ s (20 + q) = nI 5 → d q ≤ d p + 1)) (fun c t => 2 * popS (fun p => (t p).toNatClampNeg) 30 + if c = 0 then 0 else 1) ?_ _ _ ⟨_, hu, s0, Or.inl rfl⟩
      rintro c t ⟨d, hd, hs, hc⟩ m ih
      have clamp : ∀ (t : Nat → Int32) (d : Nat → Nat), (∀ p, p < 30 → t p = nI (d p)) → stS s a d → popS (fun p => (t p).toNatClampNeg) 30 = popS d 30 := fun t d h1 h2 => popS_congr 30 (fun p hp => by rw [h1 p hp, nI_clamp (by have := (h2.2 p hp).1; omega)])
      rw [wl_X12_farOf_50]
      unfold wb_X12_farOf_50
      rcases hc with rfl | ⟨rfl, cl⟩
      · refine ⟨fun z => by rw [nI1ne] at z; exact z.elim, fun _ => ?_⟩
        refine meas3 (F := wl_X12_farOf_59 s _) (fun c v t' => ∃ i d', i ≤ 30 ∧ v = nI i ∧ (∀ p, p < 30 → t' p = nI (d' p)) ∧ stS s a d' ∧ (c = nI 0 ∧ (∀ p, p < 30 → d' p = d p) ∧ (∀ p q, p < i → q < 30 → besideN p q = true → ¬ s (20 + q) = nI 5 → d q ≤ d p + 1) ∨ c = nI 1 ∧ popS d' 30 < popS d 30)) (fun _ v _ => 30 - v.toNatClampNeg) ?_ _ _ _ ⟨0, d, by omega, rfl, hd, hs, Or.inl ⟨rfl, fun _ _ => rfl, fun p q hp => by omega⟩⟩
        rintro c v t' ⟨i, d', hi, rfl, hd', hs', hJ⟩ m2 ih2
        rw [wl_X12_farOf_59]
        unfold wb_X12_farOf_59
        refine ⟨fun q => ?_, fun q => ?_⟩
        · rw [nI_natle (by omega) (by omega)] at q
          have e : i = 30 := by omega
          subst e
          rcases hJ with ⟨rfl, e1, e2⟩ | ⟨rfl, e1⟩
          · refine ih _ _ ⟨d', hd', hs', Or.inr ⟨rfl, fun p q hp hq h1 h2 => ?_⟩⟩ ?_
            · rw [e1 p hp, e1 q hq]; exact e2 p q hp hq h1 h2
            · rw [clamp t' d' hd' hs', clamp t d hd hs, popS_congr 30 e1, if_pos (of_eq_true nI0eq), if_neg (by rw [nI1ne]; exact id)]
              omega
          · refine ih _ _ ⟨d', hd', hs', Or.inl rfl⟩ ?_
            rw [clamp t' d' hd' hs', clamp t d hd hs, if_neg (by rw [nI1ne]; exact id)]
            omega
        · rw [nI_natle (by omega) (by omega)] at q
          have hi2 : i < 30 := by omega
          refine meas3 (F := wl_X12_farOf_69 s (nI i) _) (fun c v t' => ∃ j d', j ≤ 30 ∧ v = nI j ∧ (∀ p, p < 30 → t' p = nI (d' p)) ∧ stS s a d' ∧ (c = nI 0 ∧ (∀ p, p < 30 → d' p = d p) ∧ (∀ p q, (p < i ∨ p = i ∧ q < j) → q < 30 → besideN p q = true → ¬ s (20 + q) = nI 5 → d q ≤ d p + 1) ∨ c = nI 1 ∧ popS d' 30 < popS d 30)) (fun _ v _ => 30 - v.toNatClampNeg) ?_ _ _ _ ⟨0, d', by omega, rfl, hd', hs', ?_⟩
          · rintro c v t' ⟨j, d', hj, rfl, hd', hs', hJ⟩ m3 ih3
            rw [wl_X12_farOf_69]
            unfold wb_X12_farOf_69
            refine ⟨fun q => ?_, fun q => ?_⟩
            · rw [nI_natle (by omega) (by omega)] at q
              have e : j = 30 := by omega
              subst e
              rw [nI_add]
              refine ih2 _ _ _ ⟨i + 1, d', by omega, rfl, hd', hs', ?_⟩ (by rw [nI_clamp (by omega), nI_clamp (by omega)]; omega)
              rcases hJ with ⟨rfl, e1, e2⟩ | h
              · exact Or.inl ⟨rfl, e1, fun p q hp hq => e2 p q (by omega) hq⟩
              · exact Or.inr h
            · rw [nI_natle (by omega) (by omega)] at q
              have hj2 : j < 30 := by omega
              have mu : 30 - (nI (j + 1)).toNatClampNeg < 30 - (nI j).toNatClampNeg := by rw [nI_clamp (by omega), nI_clamp (by omega)]; omega
              have b1 := (hs'.2 i hi2).1
              have b2 := (hs'.2 j hj2).1
              have bz : (nI (if besideN i j = true then 1 else 0) = 0) = (besideN i j = false) := by
                cases besideN i j
                · exact (eq_true (by decide)).trans (eq_true rfl).symm
                · exact (eq_false (by decide)).trans (eq_false (by decide)).symm
              rw [beside_eq i hi2 j hj2, bz, nI_add, nI_add, nI_clamp (by omega), nI_clamp (by omega), nI_clamp (by omega), hd' i hi2, hd' j hj2, nI_add, nI_natle (by omega) (by omega)]
              refine ⟨fun _ => ⟨vp_in_nI (by omega) (by omega), fun _ => ⟨vp_in_nI (by omega) (by omega), vp_in_nI (by omega) (by omega)⟩⟩, fun z => ⟨vp_in_nI (by omega) (by omega), vp_in_nI (by omega) (by omega), ?_⟩, fun z => ?_⟩
              · obtain ⟨z1, z2, z3⟩ := z
                have z1' : besideN i j = true := by
                  cases h : besideN i j
                  · exact absurd h z1
                  · rfl
                refine ih3 _ _ _ ⟨j + 1, va_up d' j (d' i + 1), by omega, rfl, fun p hp => ?_, stS_up hs' hi2 hj2 z1' z2 (by omega), Or.inr ⟨rfl, ?_⟩⟩ mu
                · by_cases e : p = j
                  · subst e; rw [upde, upee]
                  · rw [updne e, upene e]; exact hd' p hp
                · have := popS_upd (d := d') (q := j) (v := d' i + 1) 30 hj2
                  rcases hJ with ⟨rfl, e1, e2⟩ | ⟨-, e1⟩
                  · rw [popS_congr 30 e1] at this
                    omega
                  · omega
              · refine ih3 _ _ _ ⟨j + 1, d', by omega, rfl, hd', hs', ?_⟩ mu
                rcases hJ with ⟨rfl, e1, e2⟩ | h
                · refine Or.inl ⟨rfl, e1, fun p' q' hp hq h1 h2 => ?_⟩
                  by_cases e : p' = i ∧ q' = j
                  · obtain ⟨ea, eb⟩ := e
                    rw [ea, eb] at h1
                    rw [eb] at h2
                    rw [ea, eb, ← e1 i hi2, ← e1 j hj2]
                    apply Classical.byContradiction
                    intro g
                    exact z ⟨by rw [h1]; decide, h2, g⟩
                  · exact e2 p' q' (by omega) hq h1 h2
                · exact Or.inr h
          · rcases hJ with ⟨rfl, e1, e2⟩ | h
            · exact Or.inl ⟨rfl, e1, fun p q hp hq => e2 p q (by omega) hq⟩
            · exact Or.inr h
      · refine ⟨fun _ => ⟨vp_in_nI (by omega) (by omega), ?_⟩, fun z => absurd (of_eq_true nI0eq) z⟩
        rw [nI_clamp (by omega), hd b hb]
        have comp : ∀ k q, rsN s a k q = true → d q ≤ k := by
          intro k
          induction k with
          | zero => intro q h; rw [rsN_0] at h; rw [h, hs.1]; exact Nat.le_refl 0
          | succ k ihk =>
            intro q h
            obtain ⟨⟨h1, h2⟩, h3 | ⟨p, h3, h4, h5⟩⟩ := (rsN_s s a k q).mp h
            · have := ihk q h3; omega
            · have := ihk p h5
              have := cl p q h3 h1 h4 h2
              omega
        exact hK _ _ (fun e => by rw [← e]; exact hs.1) (fun z => absurd z wl) (fun _ => ⟨(hs.2 b hb).1, (hs.2 b hb).2, fun k => comp k b⟩)
  · simp (disch := omega) only [wb_X12_farOf_2, nI_natle, show ¬ 30 ≤ k from by omega, vpin, nI_clamp, nI_add, nI_nateq, not_true_eq_false, not_false_eq_true, forall_const, true_implies, false_implies, implies_true, and_true, true_and, and_false, false_and, or_true, true_or, or_false, false_or, forall_eq, ↓reduceIte, ne_eq, nI1ne, nI0eq, Classical.not_not, eq_self, reduceCtorEq]
    refine ih _ _ ⟨k + 1, by omega, rfl, fun p hp => ?_⟩ (by rw [nI_clamp (by omega), nI_clamp (by omega)]; omega)
    by_cases e : p = k
    · subst e
      rw [upde]
      by_cases e2 : p = a
      · rw [if_pos e2, if_pos e2]
      · rw [if_neg e2, if_neg e2]
    · rw [updne e]; exact hu p (by omega)
theorem core_line {gr s st0 : Nat → Int32} {p1 p2 : Int32} {R : Prop} (hgr : ∀ i, i < 30 → gr i = s (20 + i) ∧ isN (s (20 + i)) 5) (hR : R) : wp_X11_line p1 p2 gr (fun r => wp_X12_line p1 p2 s st0 (fun r' _ => r = r' ∧ R)) := by
  rcases in_cases p1 0 29 (by decide) (by decide) with ⟨g1, -⟩ | ⟨g1, a, -, ha, rfl⟩
  · simp only [wp_X11_line, wp_X12_line, f_X11_isSpot, f_X12_isSpot, within_eq, g1, not_true_eq_false, not_false_eq_true, forall_const, true_implies, false_implies, implies_true, and_true, true_and, and_false, false_and, or_true, true_or, or_false, false_or, forall_eq, ↓reduceIte, ne_eq, nI1ne, nI0eq, Classical.not_not, eq_self, reduceCtorEq]
    exact hR
  rcases in_cases p2 0 29 (by decide) (by decide) with ⟨g2, -⟩ | ⟨g2, b, -, hb, rfl⟩
  · simp only [wp_X11_line, wp_X12_line, f_X11_isSpot, f_X12_isSpot, within_eq, g1, g2, nI1ne, not_true_eq_false, not_false_eq_true, forall_const, true_implies, false_implies, implies_true, and_true, true_and, and_false, false_and, or_true, true_or, or_false, false_or, forall_eq, ↓reduceIte, ne_eq, nI1ne, nI0eq, Classical.not_not, eq_self, reduceCtorEq]
    exact hR
  simp only [wp_X11_line, wp_X12_line, f_X11_isSpot, f_X12_isSpot, within_eq, g1, g2, nI1ne, not_true_eq_false, not_false_eq_true, forall_const, true_implies, false_implies, implies_true, and_true, true_and, and_false, false_and, or_true, true_or, or_false, false_or, forall_eq, ↓reduceIte, ne_eq, nI1ne, nI0eq, Classical.not_not, eq_self, reduceCtorEq]
  refine cls_far (s := s) (fun i hi => (hgr i hi).1) (by omega) (by omega) (fun e => ?_) (fun e w => ?_) (fun e w k hk h1 h2 => ?_) (fun e w h1 => ?_)
  · exact mod_far (by omega) (by omega) (fun x st f1 f2 f3 => ⟨by rw [f1 e], hR⟩)
  · exact mod_far (by omega) (by omega) (fun x st f1 f2 f3 => ⟨by rw [f2 w e], hR⟩)
  · refine mod_far (by omega) (by omega) (fun x st f1 f2 f3 => ⟨?_, hR⟩)
    obtain ⟨c1, c2, c3⟩ := f3 w
    have := c3 k h1
    have : ¬ x < k := fun z => h2 x z (c2 (by omega))
    rw [show x = k by omega]
  · refine mod_far (by omega) (by omega) (fun x st f1 f2 f3 => ⟨?_, hR⟩)
    obtain ⟨c1, c2, c3⟩ := f3 w
    have : ¬ x < 99 := fun z => h1 29 (by omega) (rsN_29 (by omega) w x b (c2 z))
    rw [show x = 99 by omega]
