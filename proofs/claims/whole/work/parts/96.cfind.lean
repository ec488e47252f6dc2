theorem mod_finds {n : Nat} {s letBy letStamp : Nat → Int32} {stamp : Int32} {t : Nat} {Q : Int32 → Int32 → Int32 → Int32 → Int32 → (Nat → Int32) → (Nat → Int32) → Prop} {r1 r2 r3 r4 r5 : Int32} (hn : n + 1 < 2 ^ 31) (ht : t < 16) (hs : ∃ c, SlotOK s t c) (hI : ICacheT n letBy letStamp stamp s) (hQ : ∀ g1 g2 g3 g4 g5 lb ls, ICacheT n lb ls stamp s → (∀ a, a < 10800 → lb (10800 * t + a) = nI (if slF s t a then 1 else 0)) → Q g1 g2 g3 g4 g5 lb ls) : wp_X12_finds (nI t) s r1 r2 r3 r4 r5 letBy letStamp stamp Q := by
  unfold wp_X12_finds
  rw [nI_clamp (by omega)]
  refine ⟨vp_in_nI ht (by omega), fun _ => ⟨vp_in_nI ht (by omega), ?_⟩, fun e => ?_⟩
  · obtain ⟨c, hs⟩ := hs
    have step : ∀ m i g1 g2 g3 g4 g5 lb, i + m = 10800 → (∀ a, a < i → lb (10800 * t + a) = nI (if slF s t a then 1 else 0)) → (∀ j, j < 10800 * t ∨ 10800 * t + 10800 ≤ j → lb j = letBy j) → wl_X12_finds_26 (nI t) s letStamp stamp Q (m + 1) (nI i) g1 g2 g3 g4 g5 lb := by
      intro m
      induction m with
      | zero =>
        intro i g1 g2 g3 g4 g5 lb hi h1 h2
        rw [wl_X12_finds_26]
        unfold wb_X12_finds_26
        refine ⟨fun _ => ?_, fun z => absurd (by rw [nI_natle (by omega) (by omega)]; omega) z⟩
        rw [nI_clamp (by omega)]
        refine hQ _ _ _ _ _ _ _ (ICT_of.mpr ?_) (fun a ha => h1 a (by omega))
        obtain ⟨z, q1, q2, q3, q4⟩ := ICT_of.mp hI
        refine ⟨z, q1, q2, q3, fun t' ht' => ?_⟩
        by_cases et : t' = t
        · subst et
          exact ⟨z, Nat.le_refl _, by rw [upde, q3], fun _ => ⟨c, hs, fun a ha => h1 a (by omega)⟩⟩
        · obtain ⟨y, w1, w2, w3⟩ := q4 t' ht'
          refine ⟨y, w1, by rw [updne et]; exact w2, fun e => ?_⟩
          obtain ⟨c', k1, k2⟩ := w3 e
          refine ⟨c', k1, fun a ha => ?_⟩
          rw [h2 _ (by omega)]
          exact k2 a ha
      | succ m ih =>
        intro i g1 g2 g3 g4 g5 lb hi h1 h2
        rw [wl_X12_finds_26]
        unfold wb_X12_finds_26
        refine ⟨fun z => absurd z (by rw [nI_natle (by omega) (by omega)]; omega), fun _ => ?_⟩
        refine mod_clauseIn ht hs (by omega) (fun k1 k2 k3 k4 k5 => ?_)
        rw [nI_mul, nI_add, nI_clamp (by omega)]
        have fin : ∀ y, y = nI (if slF s t i then 1 else 0) → vp_in (nI (10800 * t + i)) 172800 ∧ wl_X12_finds_26 (nI t) s letStamp stamp Q (m + 1) (nI i + nI 1) k1 k2 k3 k4 k5 (upd lb (10800 * t + i) (vp_nar .boolean y)) := by
          intro y hy
          refine ⟨vp_in_nI (by omega) (by omega), ?_⟩
          rw [hy, nar_b, nI_add]
          refine ih (i + 1) _ _ _ _ _ _ (by omega) (fun a ha => ?_) (fun j hj => ?_)
          · by_cases ea : a = i
            · rw [ea, upde]
            · rw [updne (by omega)]; exact h1 a (by omega)
          · rw [updne (by omega)]; exact h2 j hj
        cases e : lastK (lkS s t i) c with
        | none =>
          refine ⟨fun z => absurd rfl z, fun y hy => fin y ?_⟩
          rw [hy, slF_c hs, e]
          rfl
        | some k =>
          have kl := lastK_lt _ _ e
          have hc := hs.1
          have n1 : ¬ kR t (some k) = -1 := fun z => m1_ne (by omega : 8 * t + k < 2 ^ 31) z.symm
          have ek : nI 4490 + kR t (some k) = nI (4490 + (8 * t + k)) := nI_add _ _
          rw [ek, nI_clamp (by omega)]
          refine ⟨fun _ => vp_in_nI (by omega) (by omega), fun y hy => fin y ?_⟩
          rw [hy, slF_c hs, e, if_neg n1]
          show _ = nI (if cbS s t k = true then 1 else 0)
          unfold cbS
          by_cases cc : s (4490 + (8 * t + k)) = nI 1
          · rw [if_pos cc, decide_eq_true cc]; rfl
          · rw [if_neg cc, decide_eq_false cc]; rfl
    exact ⟨_, step 10800 0 r1 r2 r3 r4 r5 letBy (by omega) (fun a ha => by omega) (fun j _ => rfl)⟩
  · refine hQ _ _ _ _ _ _ _ hI ?_
    obtain ⟨z, q1, q2, q3, q4⟩ := ICT_of.mp hI
    obtain ⟨y, w1, w2, w3⟩ := q4 t ht
    rw [w2, q3, nI_nateq (by omega) (by omega)] at e
    obtain ⟨c', k1, k2⟩ := w3 e
    exact k2
/-- the text in force: of this tongue, taken up by this day, the latest, and of a day the last -/
def txS (s : Nat → Int32) (tau d : Int32) : Nat → Option Nat
  | 0 => none
  | n + 1 => if s (4410 + n) = tau then (if d < s (4430 + n) then txS s tau d n else match txS s tau d n with
      | none => some n
      | some m => if s (4430 + n) < s (4430 + m) then some m else some n) else txS s tau d n
theorem txS_lt {s : Nat → Int32} {tau d : Int32} : ∀ n m, txS s tau d n = some m → m < n := by
  intro n
  induction n with
  | zero => intro m h; cases h
  | succ n ih =>
    intro m h
    rw [txS] at h
    by_cases c1 : s (4410 + n) = tau
    · rw [if_pos c1] at h
      by_cases c2 : d < s (4430 + n)
      · rw [if_pos c2] at h
        have := ih m h
        omega
      · rw [if_neg c2] at h
        cases e : txS s tau d n with
        | none =>
          rw [e] at h
          cases h
          omega
        | some k =>
          rw [e] at h
          have := ih k e
          by_cases c3 : s (4430 + n) < s (4430 + k)
          · have h2 : (if s (4430 + n) < s (4430 + k) then some k else some n) = some m := h
            rw [if_pos c3] at h2
            cases h2
            omega
          · have h2 : (if s (4430 + n) < s (4430 + k) then some k else some n) = some m := h
            rw [if_neg c3] at h2
            cases h2
            omega
    · rw [if_neg c1] at h
      have := ih m h
      omega
def oI : Option Nat → Int32
  | none => -1
  | some k => nI k
theorem mod_textOf {s : Nat → Int32} {tau d : Int32} {t : Nat} {Q : Int32 → Prop} (ht : t ≤ 16) (h1 : s 1 = nI t) (hQ : Q (oI (txS s tau d t))) : wp_X12_textOf tau d s Q := by
  unfold wp_X12_textOf
  have step : ∀ m i, i + m = t → wl_X12_textOf_5 tau d s Q (m + 1) (oI (txS s tau d i)) (nI i) := by
    intro m
    induction m with
    | zero =>
      intro i hi
      rw [wl_X12_textOf_5]
      unfold wb_X12_textOf_5
      rw [h1, show i = t from by omega]
      exact ⟨fun _ => hQ, fun z => absurd (Int32.le_refl _) z⟩
    | succ m ih =>
      intro i hi
      rw [wl_X12_textOf_5]
      unfold wb_X12_textOf_5
      rw [h1, nI_add, nI_add, nI_add, nI_clamp (by omega), nI_clamp (by omega)]
      have lt : ∀ k, txS s tau d i = some k → k < i := txS_lt i
      refine ⟨fun z => absurd z (by rw [nI_natle (by omega) (by omega)]; omega), fun _ => ⟨vp_in_nI (by omega) (by omega), fun _ => ⟨vp_in_nI (by omega) (by omega), fun _ n1 => ⟨vp_in_nI (by omega) (by omega), ?_⟩⟩, fun y hy => ?_⟩⟩
      · cases e : txS s tau d i with
        | none =>
          rw [e] at n1
          exact absurd rfl n1
        | some k =>
          have := lt k e
          show vp_in (nI 4430 + nI k) 6700
          rw [nI_add]
          exact vp_in_nI (by omega) (by omega)
      · have e2 : y = oI (txS s tau d (i + 1)) := by
          rw [hy, txS]
          by_cases c1 : s (4410 + i) = tau
          · rw [if_pos c1, if_pos c1]
            by_cases c2 : d < s (4430 + i)
            · rw [if_pos c2, if_pos c2]
            · rw [if_neg c2, if_neg c2]
              cases e : txS s tau d i with
              | none => rfl
              | some k =>
                have := lt k e
                have n1 : ¬ oI (some k) = -1 := fun z => m1_ne (by omega : k < 2 ^ 31) z.symm
                have ek : nI 4430 + oI (some k) = nI (4430 + k) := nI_add _ _
                rw [if_neg n1, ek, nI_clamp (by omega)]
                show _ = oI (if s (4430 + i) < s (4430 + k) then some k else some i)
                by_cases c3 : s (4430 + i) < s (4430 + k)
                · rw [if_pos c3, if_pos c3]
                · rw [if_neg c3, if_neg c3]; rfl
          · rw [if_neg c1, if_neg c1]
        rw [e2]
        exact ih (i + 1) (by omega)
  exact ⟨_, step t 0 (by omega)⟩
