theorem pNum_lt (pk : Nat → Int32) (p : Nat) : (pNum pk p).2.2 < 100 := by
  unfold pNum
  by_cases c1 : isDig (pk p) = true
  · rw [if_pos c1]
    obtain ⟨v, hv, -, e⟩ := dig_cases c1
    by_cases c2 : digV (pk p) ≠ 0 ∧ isDig (pk (p + 1)) = true
    · rw [if_pos c2]
      obtain ⟨v2, hv2, -, e2⟩ := dig_cases c2.2
      show digV (pk p) * 10 + digV (pk (p + 1)) < 100
      rw [e, e2]
      omega
    · rw [if_neg c2]
      show digV (pk p) < 100
      omega
  · rw [if_neg c1]
    show 0 < 100
    omega
theorem hrs_not {x : Int32} {f : Nat → Bool} (h : hrs x f) : hrs (nI 16777215 &&& (x ^^^ (-1))) (fun i => !(f i)) := by
  refine hrs_of (fun i hi => ?_)
  rw [b32_and, b32_not _ _ hi, hrA i hi]
  have := h i
  cases c : f i <;> cases e : b32 x i <;> simp [c, e] at this ⊢
  exact this
theorem hrs_and {x y : Int32} {f g : Nat → Bool} (h : hrs x f) (k : hrs y g) : hrs (x &&& y) (fun i => and (f i) (g i)) := by
  intro i
  rw [b32_and, Bool.and_eq_true, h i, k i, Bool.and_eq_true]
  exact ⟨fun z => ⟨z.1.1, z.1.2, z.2.2⟩, fun z => ⟨⟨z.1, z.2.1⟩, z.1, z.2.2⟩⟩
theorem hrs_or {x y : Int32} {f g : Nat → Bool} (h : hrs x f) (k : hrs y g) : hrs (x ||| y) (fun i => or (f i) (g i)) := by
  intro i
  rw [b32_or, Bool.or_eq_true, h i, k i, Bool.or_eq_true]
  exact ⟨fun z => z.elim (fun w => ⟨w.1, Or.inl w.2⟩) (fun w => ⟨w.1, Or.inr w.2⟩), fun z => z.2.elim (fun w => Or.inl ⟨z.1, w⟩) (fun w => Or.inr ⟨z.1, w⟩)⟩
abbrev wlT : Type := Nat → Int32 → (Nat → Int32) → Int32 → (Nat → Int32) → (Nat → Int32) → Int32 → Prop
/-- run over this code, the machine leaves one more mask: the hours at which it is so -/
def runS (W : wlT) (row : Nat → Int32) (len : Nat) (l : List Int32) (f : Nat → Bool) (need : Nat) : Prop :=
  ∀ i d st hd lt k n, d + need ≤ 32 → i + l.length ≤ len → (∀ j x, l[j]? = some x → row (i + j) = x) →
    (∀ st', (∀ j, j < d → st' j = st j) → hrs (st' d) f → W n (nI (i + l.length)) st' (nI (d + 1)) hd lt k) → W (n + l.length) (nI i) st (nI d) hd lt k
theorem runS_up {W : wlT} {row : Nat → Int32} {len : Nat} {l : List Int32} {f : Nat → Bool} {a b : Nat} (h : runS W row len l f a) (hab : a ≤ b) : runS W row len l f b := fun i d st hd lt k n h1 h2 h3 h4 => h i d st hd lt k n (by omega) h2 h3 h4
theorem at_app1 {row : Nat → Int32} {i : Nat} {l m : List Int32} (h : ∀ j x, (l ++ m)[j]? = some x → row (i + j) = x) : (∀ j x, l[j]? = some x → row (i + j) = x) ∧ ∀ j x, m[j]? = some x → row (i + l.length + j) = x := by
  constructor
  · intro j x hx
    have hj : j < l.length := by
      apply Classical.byContradiction
      intro g
      rw [List.getElem?_eq_none (by omega)] at hx
      cases hx
    exact h j x (by rw [List.getElem?_append_left hj]; exact hx)
  · intro j x hx
    rw [Nat.add_assoc]
    exact h (l.length + j) x (by rw [List.getElem?_append_right (by omega), show l.length + j - l.length = j from by omega]; exact hx)
theorem runS_not {W : wlT} {row : Nat → Int32} {len : Nat} {l : List Int32} {f : Nat → Bool} {a : Nat} (ha : 1 ≤ a)
    (hW : ∀ i d st hd lt k n, d < 32 → i < len → row i = entry (nI 33) 0 → W n (nI (i + 1)) (upd st d (nI 16777215 &&& (st d ^^^ (-1)))) (nI (d + 1)) hd lt k → W (n + 1) (nI i) st (nI (d + 1)) hd lt k)
    (h : runS W row len l f a) : runS W row len (l ++ [entry (nI 33) 0]) (fun i => !(f i)) a := by
  intro i d st hd lt k n h1 h2 h3 h4
  rw [List.length_append, List.length_singleton] at h2 h4 ⊢
  obtain ⟨r1, r2⟩ := at_app1 h3
  rw [show n + (l.length + 1) = (n + 1) + l.length from by omega]
  refine h i d st hd lt k (n + 1) h1 (by omega) r1 (fun st' e1 e2 => ?_)
  refine hW _ d st' hd lt k n (by omega) (by omega) (by have := r2 0 _ rfl; rwa [Nat.add_zero] at this) ?_
  rw [Nat.add_assoc]
  refine h4 _ (fun j hj => ?_) ?_
  · rw [updne (by omega)]; exact e1 j hj
  · rw [upde]; exact hrs_not e2
theorem runS_op {W : wlT} {row : Nat → Int32} {len : Nat} {sep : Int32} {op : Bool → Bool → Bool} (o2 : Int32 → Int32 → Int32) (ho : ∀ x y f g, hrs x f → hrs y g → hrs (o2 x y) (fun i => op (f i) (g i)))
    (hW : ∀ i d st hd lt k n, d + 1 < 32 → i < len → row i = entry sep 0 → W n (nI (i + 1)) (upd st d (o2 (st d) (st (d + 1)))) (nI (d + 1)) hd lt k → W (n + 1) (nI i) st (nI (d + 2)) hd lt k)
    {l m : List Int32} {f g : Nat → Bool} {a b : Nat} (hb : 1 ≤ b) (hab : b + 1 ≤ a) (h : runS W row len l f a) (h' : runS W row len m g b) : runS W row len (l ++ m ++ [entry sep 0]) (fun i => op (f i) (g i)) a := by
  intro i d st hd lt k n h1 h2 h3 h4
  rw [List.length_append, List.length_append, List.length_singleton] at h2 h4 ⊢
  obtain ⟨r0, r3⟩ := at_app1 h3
  obtain ⟨r1, r2⟩ := at_app1 r0
  rw [List.length_append] at r3
  rw [show n + (l.length + m.length + 1) = (n + 1 + m.length) + l.length from by omega]
  refine h i d st hd lt k _ h1 (by omega) r1 (fun st' e1 e2 => ?_)
  refine h' _ (d + 1) st' hd lt k (n + 1) (by omega) (by omega) r2 (fun st2 g1 g2 => ?_)
  refine hW _ d st2 hd lt k n (by omega) (by omega) (by have := r3 0 _ rfl; rwa [Nat.add_zero, ← Nat.add_assoc] at this) ?_
  rw [show i + l.length + m.length + 1 = i + (l.length + m.length + 1) from by omega]
  refine h4 _ (fun j hj => ?_) ?_
  · rw [updne (by omega), g1 j (by omega)]; exact e1 j hj
  · rw [upde]; exact ho _ _ _ _ (by rw [g1 d (by omega)]; exact e2) g2
theorem wl_join {c B len0 : Nat} {gr : Nat → Int32} {C_L : List Nat} {C_len : Nat → Nat} {C_row : Nat → Nat → Int32} {Q : (Nat → Int32) → Int32 → (Nat → Int32) → (Nat → Int32) → Int32 → Prop} (hc : c ∈ C_L) (hl : C_len c = len0) (hl2 : len0 < 120) {i : Nat} {d : Nat} {st hd lt : Nat → Int32} {k : Int32} {n : Nat} {sg : Int32} (hi : i < len0) (hs : sg = nI 33 ∨ sg = nI 38 ∨ sg = nI 124) (hr : C_row c i = entry sg 0) (h : wp_X5_join sg st (nI d) (fun st' t' => wl_X5_weigh_12 c (nI B) gr C_L C_len C_row Q n (nI (i + 1)) st' t' hd lt k)) : wl_X5_weigh_12 c (nI B) gr C_L C_len C_row Q (n + 1) (nI i) st (nI d) hd lt k := by
  rw [wl_X5_weigh_12]
  unfold wb_X5_weigh_12
  have es : C_row c i >>> (nI 8 &&& 31) = sg := by
    rw [hr]
    rcases hs with z | z | z <;> rw [z]
    · exact entO.1
    · exact entO.2.1
    · exact entO.2.2.1
  rw [hl, nI_clamp (by omega), es, nI_add]
  refine ⟨hc, fun z => absurd z (by rw [nI_natle (by omega) (by omega)]; omega), fun _ => ⟨hc, vp_in_nI hi (by omega), fun x hx y hy => ?_⟩⟩
  rw [hx] at hy ⊢
  have hy2 : y = nI 1 := by
    rw [hy]
    rcases hs with z | z | z <;> rw [z] <;> rfl
  rw [hy2]
  exact ⟨fun z => absurd z (by decide), fun _ => h⟩
theorem wl_not {c B len0 : Nat} {gr : Nat → Int32} {C_L : List Nat} {C_len : Nat → Nat} {C_row : Nat → Nat → Int32} {Q : (Nat → Int32) → Int32 → (Nat → Int32) → (Nat → Int32) → Int32 → Prop} (hc : c ∈ C_L) (hl : C_len c = len0) (hl2 : len0 < 120) {i : Nat} {d : Nat} {st hd lt : Nat → Int32} {k : Int32} {n : Nat} (hd2 : d < 32) (hi : i < len0) (hr : C_row c i = entry (nI 33) 0) (h : wl_X5_weigh_12 c (nI B) gr C_L C_len C_row Q n (nI (i + 1)) (upd st d (nI 16777215 &&& (st d ^^^ (-1)))) (nI (d + 1)) hd lt k) : wl_X5_weigh_12 c (nI B) gr C_L C_len C_row Q (n + 1) (nI i) st (nI (d + 1)) hd lt k := by
  refine wl_join hc hl hl2 hi (Or.inl rfl) hr ?_
  unfold wp_X5_join
  rw [nI_subL (by omega), show d + 1 - 1 = d from by omega, nI_clamp (by omega)]
  exact ⟨fun _ => ⟨vp_in_nI hd2 (by omega), vp_in_nI hd2 (by omega), h⟩, fun z => absurd ⟨rfl, by rw [nI_natlt (by omega) (by omega)]; omega⟩ z⟩
theorem wl_two {c B len0 : Nat} {gr : Nat → Int32} {C_L : List Nat} {C_len : Nat → Nat} {C_row : Nat → Nat → Int32} {Q : (Nat → Int32) → Int32 → (Nat → Int32) → (Nat → Int32) → Int32 → Prop} (hc : c ∈ C_L) (hl : C_len c = len0) (hl2 : len0 < 120) {i : Nat} {d : Nat} {st hd lt : Nat → Int32} {k : Int32} {n : Nat} {sg : Int32} (hs : sg = nI 38 ∨ sg = nI 124) (hd2 : d + 1 < 32) (hi : i < len0) (hr : C_row c i = entry sg 0) (h : wl_X5_weigh_12 c (nI B) gr C_L C_len C_row Q n (nI (i + 1)) (upd st d (if sg = nI 38 then st d &&& st (d + 1) else st d ||| st (d + 1))) (nI (d + 1)) hd lt k) : wl_X5_weigh_12 c (nI B) gr C_L C_len C_row Q (n + 1) (nI i) st (nI (d + 2)) hd lt k := by
  refine wl_join hc hl hl2 hi (Or.inr hs) hr ?_
  have n33 : ¬ sg = nI 33 := by
    rcases hs with z | z <;> rw [z] <;> decide
  unfold wp_X5_join
  rw [nI_subL (by omega), show d + 2 - 1 = d + 1 from by omega, nI_subL (by omega), show d + 1 - 1 = d from by omega, nI_clamp (by omega), nI_clamp (by omega)]
  refine ⟨fun z => absurd z.1 n33, fun _ => ⟨fun _ => ⟨vp_in_nI hd2 (by omega), fun x hx => ⟨⟨fun _ => vp_in_nI (by omega) (by omega), fun _ => vp_in_nI (by omega) (by omega)⟩, fun y hy => ⟨vp_in_nI (by omega) (by omega), ?_⟩⟩⟩, fun z => absurd ⟨n33, by rw [nI_natlt (by omega) (by omega)]; omega⟩ z⟩⟩
  rw [hy, hx]
  exact h
theorem runS_fact {c B len0 : Nat} {gr s : Nat → Int32} {C_L : List Nat} {C_len : Nat → Nat} {C_row : Nat → Nat → Int32} {Q : (Nat → Int32) → Int32 → (Nat → Int32) → (Nat → Int32) → Int32 → Prop} (hgr : ∀ i, i < 30 → gr i = s (20 + i)) (hB : B < 450) (hc : c ∈ C_L) (hl : C_len c = len0) (hl2 : len0 < 120) {sg : Int32} {v : Nat} (hv : v < 100) (hsg : sg = nI 115 ∨ sg = nI 103 ∨ sg = nI 109 ∨ sg = nI 112 ∨ sg = nI 60 ∨ sg = nI 62) : runS (wl_X5_weigh_12 c (nI B) gr C_L C_len C_row Q) (C_row c) len0 [entry sg v] (fun h => factSem sg v (gS s) (24 * B + h)) 1 := by
  intro i d st hd lt k n h1 h2 h3 h4
  rw [List.length_singleton] at h2 h4 ⊢
  rw [wl_X5_weigh_12]
  unfold wb_X5_weigh_12
  have er : C_row c i = entry sg v := by
    have := h3 0 _ rfl
    rwa [Nat.add_zero] at this
  have ee : entry sg v >>> (nI 8 &&& 31) = sg ∧ entry sg v &&& nI 255 = nI v := by
    have := entF v hv
    rcases hsg with z | z | z | z | z | z <;> rw [z]
    · exact this.1
    · exact this.2.1
    · exact this.2.2.1
    · exact this.2.2.2.1
    · exact this.2.2.2.2.1
    · exact this.2.2.2.2.2
  rw [hl, nI_clamp (by omega), er, ee.1, ee.2, nI_add, nI_add, nI_clamp (by omega)]
  refine ⟨hc, fun z => absurd z (by rw [nI_natle (by omega) (by omega)]; omega), fun _ => ⟨hc, vp_in_nI (by omega) (by omega), fun x hx y hy => ?_⟩⟩
  rw [hx] at hy ⊢
  have hy2 : y = nI 0 := by
    rw [hy]
    rcases hsg with z | z | z | z | z | z <;> rw [z] <;> rfl
  rw [hy2]
  refine ⟨fun _ => ⟨fun z => ?_, fun _ => ⟨fun z => absurd z (by rw [nI_natle (by omega) (by omega)]; omega), fun _ => ⟨hc, vp_in_nI (by omega) (by omega), ?_⟩⟩⟩, fun z => absurd rfl z⟩
  · exfalso
    revert z
    rcases hsg with w | w | w | w | w | w <;> rw [w] <;> decide
  · refine cls_facth hgr hB hv hsg (fun r hr => ⟨vp_in_nI (by omega) (by omega), h4 _ (fun j hj => updne (by omega)) ?_⟩)
    rw [upde]
    exact hr
