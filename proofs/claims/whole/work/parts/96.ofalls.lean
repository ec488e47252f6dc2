/-- falling by these answers: one of the first n questions' answers names it -/
def fbB (s : Nat → Int32) (p : Int32) (i : Nat) : Nat → Bool
  | 0 => false
  | n + 1 => fbB s p i n || (if b32 p n then decide (s (572 + 50 * n + i) = nI 1) else decide (s (872 + 50 * n + i) = nI 1))
theorem fb_row {fl : Nat → Int64} {s : Nat → Int32} {o k i : Nat} (h : s (o + 50 * k + i) = nI (if bitL (fl k) i then 1 else 0)) : decide (s (o + 50 * k + i) = nI 1) = bitL (fl k) i := by
  rw [h]
  cases bitL (fl k) i <;> decide
theorem cls_named {fl fn : Nat → Int64} {s : Nat → Int32} {p : Int32} {q : Nat} {Q : Int64 → Prop} (hq : q ≤ 6) (hf : ∀ k, k < q → ∀ i, i < 50 → s (572 + 50 * k + i) = nI (if bitL (fl k) i then 1 else 0) ∧ s (872 + 50 * k + i) = nI (if bitL (fn k) i then 1 else 0)) (hQ : ∀ y, (∀ i, i < 50 → bitL y i = fbB s p i q) → Q y) : wp_X0_namedBy p fl fn (nI q) Q := by
  unfold wp_X0_namedBy
  have step : ∀ m k y, k + m = q → (∀ i, i < 50 → bitL y i = fbB s p i k) → wl_X0_namedBy_5 p fl fn (nI q) Q (m + 1) y (nI k) := by
    intro m
    induction m with
    | zero =>
      intro k y hk hy
      rw [wl_X0_namedBy_5]
      unfold wb_X0_namedBy_5
      have e : k = q := hk
      rw [e] at hy ⊢
      exact ⟨fun _ => hQ y hy, fun z => absurd (Int32.le_refl _) z⟩
    | succ m ih =>
      intro k y hk hy
      rw [wl_X0_namedBy_5]
      unfold wb_X0_namedBy_5
      rw [nI_clamp (by omega), nI_add]
      refine ⟨fun z => absurd z (by rw [nI_natle (by omega) (by omega)]; omega), fun _ => ⟨⟨fun _ => vp_in_nI (by omega) (by omega), fun _ => vp_in_nI (by omega) (by omega)⟩, fun v hv => ih (k + 1) _ (by omega) (fun i hi => ?_)⟩⟩
      obtain ⟨f1, f2⟩ := hf k (by omega) i hi
      rw [hv, b32_test _ _ (by omega), bit_or, hy i hi, fbB, fb_row f1, fb_row f2]
      cases b32 p k
      · rw [if_pos (by decide), if_neg (by decide)]
      · rw [if_neg (by decide), if_pos rfl]
  exact ⟨_, step q 0 0 (by omega) (fun i _ => bit_0 i)⟩
theorem cls_fallsBy {r q : Nat} {leans fl fn : Nat → Int64} {s : Nat → Int32} {p : Int32} {y : Int64} {Q : Int32 → Prop} (hr : r ≤ 50) (hq : q ≤ 6) (hf : ∀ k, k < q → ∀ i, i < 50 → s (572 + 50 * k + i) = nI (if bitL (fl k) i then 1 else 0) ∧ s (872 + 50 * k + i) = nI (if bitL (fn k) i then 1 else 0)) (hy : ∀ i, bitL y i = true → i < r) (hQ : ∀ z x, (∀ i, i < 50 → bitL x i = fbB s p i q) → (∀ i, bitL z i = true ↔ Cl r (fun i j => bitL (leans i) j) (fun j => bitL x j = true) i) → Q (nI (popS (bN (fun i => bitL z i && bitL y i)) 50))) : wp_X11_fallsBy p y (nI r) leans fl fn (nI q) Q := by
  unfold wp_X11_fallsBy
  refine cls_named hq hf (fun x hx => cls_on hr (fun z hz => ?_))
  have e : f_J13_bitCount_95d88 (z &&& y) = nI (popS (bN (fun i => bitL z i && bitL y i)) 50) := by
    rw [bc64, popS_top (m := 50) 64 (by omega) (fun i hi => ?_)]
    · congr 1
      refine popS_congr 50 (fun i _ => ?_)
      unfold bN
      rw [bit_and]
    · rw [bit_and]
      have : bitL y i = false := by
        cases e : bitL y i
        · rfl
        · have := hy i e
          omega
      rw [this, Bool.and_false]
      rfl
  rw [e]
  exact hQ z x hx hz
theorem narb2 (b : Bool) : isB (vp_nar .boolean (nI (if b then 1 else 0))) (b = true) := by
  rw [nar_b]
  cases b
  · exact Or.inr ⟨by decide, rfl⟩
  · exact Or.inl ⟨rfl, rfl⟩
theorem mod_fallsBy {r q : Nat} {M : Nat → Nat → Bool} {s stands falling : Nat → Int32} {p : Int32} {y : Int64} {Q : Int32 → (Nat → Int32) → Prop} (hr : r ≤ 50) (h2 : s 2 = nI r) (hM : ∀ i, i < r → ∀ j, j < 50 → s (1910 + 50 * i + j) = nI (if M i j then 1 else 0)) (hMr : ∀ i j, i < r → M i j = true → j < r) (hq : q ≤ 6) (h8 : s 8 = nI q) (hst : ∀ i, i < 50 → isB (stands i) (bitL y i = true)) (hQ : ∀ f', (∀ i, i < 50 → isB (f' i) (Cl r M (fun i => fbB s p i q = true) i)) → ∀ z : Nat → Bool, (∀ i, i < 50 → (z i = true ↔ Cl r M (fun i => fbB s p i q = true) i)) → Q (nI (popS (bN (fun i => z i && bitL y i)) 50)) f') : wp_X12_fallsBy p s stands falling Q := by
  unfold wp_X12_fallsBy
  have inner : ∀ i, i < 50 → ∀ (L : Int32 → (Nat → Int32) → Prop) m k f, k + m = q → f i = nI (if fbB s p i k then 1 else 0) → (∀ f', f' i = nI (if fbB s p i q then 1 else 0) → (∀ j, j ≠ i → f' j = f j) → L (nI (i + 1)) f') → wl_X12_fallsBy_17 p s (nI i) L (m + 1) (nI k) f := by
    intro i hi L m
    induction m with
    | zero =>
      intro k f hk hf hL
      rw [wl_X12_fallsBy_17]
      unfold wb_X12_fallsBy_17
      have e : k = q := hk
      rw [h8, e, nI_add]
      rw [e] at hf
      exact ⟨fun _ => hL f hf (fun _ _ => rfl), fun z => absurd (Int32.le_refl _) z⟩
    | succ m ih =>
      intro k f hk hf hL
      rw [wl_X12_fallsBy_17]
      unfold wb_X12_fallsBy_17
      rw [h8, nI_clamp (by omega), nI_mul, nI_add, nI_add, nI_add, nI_add, nI_add, nI_clamp (by omega), nI_clamp (by omega), hf, b32_test _ _ (by omega)]
      refine ⟨fun z => absurd z (by rw [nI_natle (by omega) (by omega)]; omega), fun _ => ⟨vp_in_nI hi (by omega), fun _ => ⟨fun _ => vp_in_nI (by omega) (by omega), fun _ => vp_in_nI (by omega) (by omega)⟩, fun v hv => ⟨vp_in_nI hi (by omega), ?_⟩⟩⟩
      have ev : v = nI (if fbB s p i (k + 1) then 1 else 0) := by
        rw [hv, fbB]
        cases fbB s p i k
        · rw [if_pos (by decide), Bool.false_or]
          cases b32 p k
          · refine Eq.trans (if_neg (by decide)) ?_
            show _ = nI (if decide (s (872 + 50 * k + i) = nI 1) = true then 1 else 0)
            by_cases c : s (872 + 50 * k + i) = nI 1
            · rw [if_pos c, decide_eq_true c]; rfl
            · rw [if_neg c, decide_eq_false c]; rfl
          · refine Eq.trans (if_pos (by decide)) ?_
            show _ = nI (if decide (s (572 + 50 * k + i) = nI 1) = true then 1 else 0)
            by_cases c : s (572 + 50 * k + i) = nI 1
            · rw [if_pos c, decide_eq_true c]; rfl
            · rw [if_neg c, decide_eq_false c]; rfl
        · rw [if_neg (by decide), Bool.true_or]; rfl
      rw [ev, nar_b, nI_add]
      exact ih (k + 1) _ (by omega) upde (fun f' g1 g2 => hL f' g1 (fun j hj => by rw [g2 j hj, updne hj]))
  have outer : ∀ m i f, i + m = 50 → (∀ j, j < i → f j = nI (if fbB s p j q then 1 else 0)) → wl_X12_fallsBy_2 p s stands Q (m + 1) (nI i) f := by
    intro m
    induction m with
    | zero =>
      intro i f hi hf
      rw [wl_X12_fallsBy_2]
      unfold wb_X12_fallsBy_2
      refine ⟨fun _ => ?_, fun z => absurd (by rw [nI_natle (by omega) (by omega)]; omega) z⟩
      refine mod_on_falling (S := fun i => fbB s p i q = true) hr h2 hM hMr (fun j hj => ?_) (fun f' hf' => ?_)
      · have := narb2 (fbB s p j q)
        rw [nar_b] at this
        rw [hf j (by omega)]
        exact this
      · have hz : ∀ j, j < 50 → (onB f' j = true ↔ Cl r M (fun i => fbB s p i q = true) j) := by
          intro j hj
          unfold onB
          rcases hf' j hj with ⟨a, b⟩ | ⟨a, b⟩
          · rw [b]; exact ⟨fun _ => a, fun _ => by decide⟩
          · rw [b]; exact ⟨fun z => absurd z (by decide), fun z => absurd z a⟩
        have cnt : ∀ m i, i + m = 50 → wl_X12_fallsBy_106 stands Q f' (m + 1) (nI (popS (bN (fun i => onB f' i && bitL y i)) i)) (nI i) := by
          intro m
          induction m with
          | zero =>
            intro i hi
            rw [wl_X12_fallsBy_106]
            unfold wb_X12_fallsBy_106
            refine ⟨fun _ => ?_, fun z => absurd (by rw [nI_natle (by omega) (by omega)]; omega) z⟩
            rw [show i = 50 from hi]
            exact hQ f' hf' _ hz
          | succ m ih2 =>
            intro i hi
            rw [wl_X12_fallsBy_106]
            unfold wb_X12_fallsBy_106
            rw [nI_clamp (by omega), nI_add]
            refine ⟨fun z => absurd z (by rw [nI_natle (by omega) (by omega)]; omega), fun _ => ⟨vp_in_nI (by omega) (by omega), fun _ => vp_in_nI (by omega) (by omega), fun v hv => ?_⟩⟩
            have ev : v = nI (bN (fun i => onB f' i && bitL y i) i) := by
              rw [hv]
              show _ = nI (if (onB f' i && bitL y i) = true then 1 else 0)
              unfold onB
              rcases hf' i (by omega) with ⟨a, b⟩ | ⟨a, b⟩
              · rcases hst i (by omega) with ⟨c, d⟩ | ⟨c, d⟩
                · rw [b, c, d]; decide
                · have : bitL y i = false := by
                    cases e : bitL y i
                    · rfl
                    · exact absurd e c
                  rw [b, d, this]; decide
              · rw [b, show decide (nI 0 = nI 1) = false from by decide, Bool.false_and]; exact if_pos (of_eq_true nI0eq)
            rw [ev, nI_add]
            exact ih2 (i + 1) (by omega)
        exact ⟨_, cnt 50 0 (by omega)⟩
    | succ m ih =>
      intro i f hi hf
      rw [wl_X12_fallsBy_2]
      unfold wb_X12_fallsBy_2
      rw [nI_clamp (by omega)]
      refine ⟨fun z => absurd z (by rw [nI_natle (by omega) (by omega)]; omega), fun _ => ⟨vp_in_nI (by omega) (by omega), _, inner i (by omega) _ q 0 _ (by omega) ?_ (fun f' g1 g2 => ih (i + 1) f' (by omega) (fun j hj => ?_))⟩⟩
      · rw [upde]
        show vp_nar .boolean (nI 0) = nI 0
        decide
      · by_cases ej : j = i
        · rw [ej]; exact g1
        · rw [g2 j ej, updne ej]; exact hf j (by omega)
  exact ⟨_, outer 50 0 falling (by omega) (fun j hj => by omega)⟩
