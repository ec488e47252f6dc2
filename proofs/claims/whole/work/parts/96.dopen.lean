theorem cls_inForce {s : Nat → Int32} {texts : Nat → Option Nat} {T_L : List Nat} {T_tongue T_day : Nat → Int32} {tau d : Int32} {t : Nat} {Q : Option Nat → Prop} (ht : t ≤ 15) (hx : ∀ i, i < t → ∃ a, texts i = some a ∧ a ∈ T_L ∧ T_tongue a = s (4410 + i) ∧ T_day a = s (4430 + i)) (hQ : Q ((txS s tau d t).bind texts)) : wp_X4_inForce tau d texts (nI t) T_L T_tongue T_day Q := by
  unfold wp_X4_inForce
  have step : ∀ m i, i + m = t → wl_X4_inForce_5 tau d texts (nI t) T_L T_tongue T_day Q (m + 1) ((txS s tau d i).bind texts) (nI i) := by
    intro m
    induction m with
    | zero =>
      intro i hi
      rw [wl_X4_inForce_5]
      unfold wb_X4_inForce_5
      rw [show i = t from by omega]
      exact ⟨fun _ => hQ, fun z => absurd (Int32.le_refl _) z⟩
    | succ m ih =>
      intro i hi
      rw [wl_X4_inForce_5]
      unfold wb_X4_inForce_5
      obtain ⟨a, x1, x2, x3, x4⟩ := hx i (by omega)
      have og : oget (some a) = a := rfl
      rw [nI_clamp (by omega), x1, og, nI_add, x3, x4]
      have lt : ∀ k, txS s tau d i = some k → k < i := txS_lt i
      refine ⟨fun z => absurd z (by rw [nI_natle (by omega) (by omega)]; omega), fun _ => ⟨vp_in_nI (by omega) (by omega), fun _ => ⟨x2, fun _ => ⟨x2, fun _ n1 => ⟨x2, ?_⟩⟩⟩, fun y hy => ?_⟩⟩
      · cases e : txS s tau d i with
        | none =>
          rw [e] at n1
          exact absurd rfl n1
        | some k =>
          obtain ⟨b, w1, w2, -, -⟩ := hx k (by have := lt k e; omega)
          show oget (texts k) ∈ T_L
          rw [w1]
          exact w2
      · have e2 : y = (txS s tau d (i + 1)).bind texts := by
          rw [hy, txS, if_neg (fun z => by cases z)]
          by_cases c1 : s (4410 + i) = tau
          · rw [if_pos c1, if_pos c1]
            by_cases c2 : d < s (4430 + i)
            · rw [if_pos c2, if_pos c2]
            · rw [if_neg c2, if_neg c2]
              cases e : txS s tau d i with
              | none => exact x1.symm
              | some k =>
                obtain ⟨b, w1, w2, w3, w4⟩ := hx k (by have := lt k e; omega)
                have eb : (some k).bind texts = some b := w1
                have ob : oget (some b) = b := rfl
                rw [eb, if_neg (fun z => by cases z), ob, w4]
                show _ = (if s (4430 + i) < s (4430 + k) then some k else some i).bind texts
                by_cases c3 : s (4430 + i) < s (4430 + k)
                · rw [if_pos c3, if_pos c3]; exact w1.symm
                · rw [if_neg c3, if_neg c3]; exact x1.symm
          · rw [if_neg c1, if_neg c1]
        rw [e2]
        exact ih (i + 1) (by omega)
  exact ⟨_, step t 0 (by omega)⟩
/-- the machine has weighed the clauses of this text on this place and time -/
def wgh (s : Nat → Int32) (m B : Nat) (hd lt : Nat → Int32) (k : Int32) : Prop := ∃ c, c ≤ 8 ∧ k = nI c ∧ s (4470 + m) = nI c ∧ ∀ j, j < c → hrs (hd j) (fun h => lkS s m (24 * B + h) j) ∧ lt j = nI (if cbS s m j then 1 else 0)
theorem cls_weigh {c B m : Nat} {gr s stack hd lt : Nat → Int32} {C_L : List Nat} {C_len : Nat → Nat} {C_row : Nat → Nat → Int32} {Q : (Nat → Int32) → Int32 → (Nat → Int32) → (Nat → Int32) → Int32 → Prop} (hgr : ∀ i, i < 30 → gr i = s (20 + i)) (hB : B < 450) (hc : c ∈ C_L) (hT : TextOK s m (C_len c) (C_row c)) (hQ : ∀ st hd lt k, wgh s m B hd lt k → Q st (nI 0) hd lt k) : wp_X5_weigh c (nI B) gr stack hd lt C_L C_len C_row Q := by
  obtain ⟨L, cl, h1, h2, h3, h4, h5, h6, h7⟩ := hT
  unfold wp_X5_weigh
  have ef : (cl.map (clCode (pkS s m))).flatten = (List.range (C_len c)).map (C_row c) := h6
  refine ⟨_, wl_run hgr hB hc rfl h7 (pkS s m) cl 0 0 stack hd lt (by omega) (fun q hq => ?_) (fun j x hj => ?_) ?_ (fun st' hd' lt' _ g2 => ?_)⟩
  · obtain ⟨k, hk, e⟩ := List.getElem_of_mem hq
    have := h5 k (cl[k]).1 (cl[k]).2 (by rw [List.getElem?_eq_getElem hk])
    rw [← e]
    exact this.2.2.2
  · rw [ef, List.getElem?_map] at hj
    rw [Nat.zero_add]
    have kc : j < C_len c := by
      apply Classical.byContradiction
      intro g
      rw [List.getElem?_eq_none (by rw [List.length_range]; omega)] at hj
      cases hj
    rw [List.getElem?_range kc] at hj
    cases hj
    rfl
  · rw [ef, List.length_map, List.length_range, Nat.zero_add]
  · rw [Nat.zero_add]
    refine hQ _ _ _ _ ⟨cl.length, h3, rfl, h4, fun j hj => ?_⟩
    have e := List.getElem?_eq_getElem hj
    obtain ⟨y1, y2, y3, y4⟩ := h5 j (cl[j]).1 (cl[j]).2 e
    have := g2 j (cl[j]).1 (cl[j]).2 e
    rw [Nat.zero_add] at this
    refine ⟨?_, ?_⟩
    · intro h
      show b32 (hd' j) h = true ↔ h < 24 ∧ lkS s m (24 * B + h) j = true
      rw [lkS_p y3 y2]
      exact this.1 h
    · rw [cbS_b y1]
      exact this.2
/-- what the tongue lets whose text is this one, or none -/
def slO (s : Nat → Int32) (o : Option Nat) (a : Nat) : Bool :=
  match o with
  | none => false
  | some m => slF s m a
theorem hrs_0 : hrs (nI 0) (fun _ => false) := fun h => by
  have : b32 (nI 0) h = false := b32_0 h
  rw [this]
  exact ⟨fun z => absurd z (by decide), fun z => absurd (show false = true from z.2) (by decide)⟩
theorem cls_fold {s hd lt : Nat → Int32} {m B c : Nat} {Q : Int32 → (Nat → Int32) → Int32 → (Nat → Int32) → (Nat → Int32) → Int32 → Prop} {st : Nat → Int32} {top : Int32} (hc : c ≤ 8) (hk : s (4470 + m) = nI c) (hw : ∀ j, j < c → hrs (hd j) (fun h => lkS s m (24 * B + h) j) ∧ lt j = nI (if cbS s m j then 1 else 0)) (hQ : ∀ x, hrs x (fun h => slF s m (24 * B + h)) → Q x st top hd lt (nI c)) : ∃ n, wl_X5_tongueHours_28 Q st top hd lt (nI c) n (nI 0) (nI 0) := by
  have step : ∀ n i x, i + n = c → hrs x (fun h => pickK (cbS s m) (lastK (lkS s m (24 * B + h)) i)) → wl_X5_tongueHours_28 Q st top hd lt (nI c) (n + 1) x (nI i) := by
    intro n
    induction n with
    | zero =>
      intro i x hi hx
      rw [wl_X5_tongueHours_28]
      unfold wb_X5_tongueHours_28
      refine ⟨fun _ => hQ x ?_, fun z => absurd (by rw [show i = c from by omega]; exact Int32.le_refl _) z⟩
      unfold slF
      rw [hk, nI_clamp (by omega), ← show i = c from by omega]
      exact hx
    | succ n ih =>
      intro i x hi hx
      rw [wl_X5_tongueHours_28]
      unfold wb_X5_tongueHours_28
      obtain ⟨w1, w2⟩ := hw i (by omega)
      rw [nI_clamp (by omega), w2, nI_add]
      refine ⟨fun z => absurd z (by rw [nI_natle (by omega) (by omega)]; omega), fun _ => ⟨vp_in_nI (by omega) (by omega), ⟨fun _ => vp_in_nI (by omega) (by omega), fun _ => vp_in_nI (by omega) (by omega)⟩, fun y hy => ih (i + 1) y (by omega) ?_⟩⟩
      rw [hy]
      refine hrs_of (fun h hh => ?_)
      have e1 : b32 x h = true ↔ h < 24 ∧ pickK (cbS s m) (lastK (lkS s m (24 * B + h)) i) = true := hx h
      have e2 : b32 (hd i) h = true ↔ h < 24 ∧ lkS s m (24 * B + h) i = true := w1 h
      have e3 : pickK (cbS s m) (lastK (lkS s m (24 * B + h)) (i + 1)) = if lkS s m (24 * B + h) i then cbS s m i else pickK (cbS s m) (lastK (lkS s m (24 * B + h)) i) := by
        rw [lastK]
        cases lkS s m (24 * B + h) i <;> rfl
      rw [e3]
      cases cb : cbS s m i
      · rw [if_pos (by decide), b32_and, b32_not _ _ hh]
        cases q1 : b32 x h <;> cases q2 : b32 (hd i) h <;> cases q3 : lkS s m (24 * B + h) i <;> simp [q1, q2, q3] at e1 e2 ⊢ <;> first | assumption | exact e1 | omega | skip
      · rw [if_neg (by decide), b32_or]
        cases q1 : b32 x h <;> cases q2 : b32 (hd i) h <;> cases q3 : lkS s m (24 * B + h) i <;> simp [q1, q2, q3] at e1 e2 ⊢ <;> first | assumption | exact e1 | omega | skip
  exact ⟨_, step c 0 (nI 0) (by omega) hrs_0⟩
