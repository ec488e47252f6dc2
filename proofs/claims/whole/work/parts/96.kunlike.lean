theorem b32_xor (x y : Int32) (i : Nat) : b32 (x ^^^ y) i = xor (b32 x i) (b32 y i) := by
  unfold b32
  rw [Int32.toBitVec_xor, BitVec.getLsbD_xor]
theorem hrs_xor {x y : Int32} {f g : Nat → Bool} (h : hrs x f) (k : hrs y g) : hrs (x ^^^ y) (fun i => xor (f i) (g i)) := by
  intro i
  have a := h i
  have b := k i
  rw [b32_xor]
  cases c1 : b32 x i <;> cases c2 : b32 y i <;> cases c3 : f i <;> cases c4 : g i <;> simp [c1, c2, c3, c4] at a b ⊢ <;> omega
theorem popS_add (b : Nat → Nat) (a : Nat) : ∀ n, popS b (a + n) = popS b a + popS (fun i => b (a + i)) n := by
  intro n
  induction n with
  | zero => rfl
  | succ n ih =>
    rw [show a + (n + 1) = a + n + 1 from by omega, popS, popS, ih]
    omega
def bN (f : Nat → Bool) : Nat → Nat := fun i => if f i then 1 else 0
theorem hrs_pop {x : Int32} {f : Nat → Bool} (h : hrs x f) : f_J6_bitCount_0f7a4 x = nI (popS (bN f) 24) := by
  rw [bc32, popS_top (m := 24) 32 (by omega) (fun i hi => ?_)]
  · congr 1
    refine popS_congr 24 (fun i hi => ?_)
    unfold bN
    have := h i
    cases c1 : b32 x i <;> cases c2 : f i <;> simp [c1, c2] at this ⊢ <;> omega
  · have := h i
    cases c1 : b32 x i
    · rfl
    · exact absurd (this.mp c1).1 (by omega)
theorem bit_wide (x : Int32) (k : Nat) (hk : k < 32) : bitL x.toInt64 k = b32 x k := by
  unfold bitL b32
  rw [Int32.toBitVec_toInt64, BitVec.getLsbD_signExtend]
  simp [hk, show k < 64 from by omega]
theorem hrs_least {x : Int32} {f : Nat → Bool} (h : hrs x f) (hz : ¬ x = 0) : ∃ k, k < 24 ∧ f k = true ∧ (∀ j, j < k → f j = false) ∧ f_X11_leastBit x.toInt64 = nI k := by
  have ex : ∃ k, b32 x k = true := by
    apply Classical.byContradiction
    intro g
    refine hz (b32_ext (fun i _ => ?_))
    have h0 : b32 (nI 0) i = false := b32_0 i
    have h1 : b32 x i = false := by
      cases e : b32 x i
      · rfl
      · exact absurd ⟨i, e⟩ g
    rw [h1]
    exact h0.symm
  obtain ⟨k0, hk0⟩ := ex
  have lst : ∀ n, (∀ j, j < n → b32 x j = false) ∨ ∃ k, k < n ∧ b32 x k = true ∧ ∀ j, j < k → b32 x j = false := by
    intro n
    induction n with
    | zero => exact Or.inl (fun j hj => by omega)
    | succ n ih =>
      rcases ih with q | ⟨k, q1, q2, q3⟩
      · cases e : b32 x n
        · refine Or.inl (fun j hj => ?_)
          by_cases ej : j = n
          · rw [ej]; exact e
          · exact q j (by omega)
        · exact Or.inr ⟨n, by omega, e, q⟩
      · exact Or.inr ⟨k, by omega, q2, q3⟩
  rcases lst (k0 + 1) with q | ⟨k, q1, q2, q3⟩
  · rw [q k0 (by omega)] at hk0
    cases hk0
  · have hk := (h k).mp q2
    refine ⟨k, hk.1, hk.2, fun j hj => ?_, ?_⟩
    · cases e : f j
      · rfl
      · have : b32 x j = true := (h j).mpr ⟨by omega, e⟩
        rw [q3 j hj] at this
        cases this
    · refine leastBit_eq (by omega) ?_ (fun j hj => ?_)
      · rw [bit_wide _ _ (by omega)]; exact q2
      · rw [bit_wide _ _ (by omega)]; exact q3 j hj
def unF (s : Nat → Int32) (o o' : Option Nat) (a : Nat) : Bool := xor (slO s o a) (slO s o' a)
def unR (f : Nat → Bool) (v : Int32) : Prop := (v = -5 ∧ ∀ a, a < 10800 → f a = false) ∨ ∃ a, a < 10800 ∧ v = nI a ∧ f a = true ∧ ∀ b, b < a → f b = false
theorem unR_eq {f : Nat → Bool} {v w : Int32} (h : unR f v) (k : unR f w) : v = w := by
  rcases h with ⟨h1, h2⟩ | ⟨a, h1, h2, h3, h4⟩
  · rcases k with ⟨k1, k2⟩ | ⟨b, k1, k2, k3, k4⟩
    · rw [h1, k1]
    · rw [h2 b k1] at k3; cases k3
  · rcases k with ⟨k1, k2⟩ | ⟨b, k1, k2, k3, k4⟩
    · rw [k2 a h1] at h3; cases h3
    · have : a = b := by
        rcases Nat.lt_trichotomy a b with q | q | q
        · rw [k4 a q] at h3; cases h3
        · exact q
        · rw [h4 b q] at k3; cases k3
      rw [h2, k2, this]
theorem cls_unlikeCount {t1 t2 t : Nat} {o o' : Option Nat} {gr s stack hd lt T_number T_tongue T_day : Nat → Int32} {texts ruling : Nat → Option Nat} {top k : Int32} {T_L : List Nat} {T_code : Nat → Option Nat} {C_L : List Nat} {C_len : Nat → Nat} {C_row : Nat → Nat → Int32} {Q : Int32 → (Nat → Int32) → Int32 → (Nat → Int32) → (Nat → Int32) → Int32 → Prop} (hgr : ∀ i, i < 30 → gr i = s (20 + i)) (hx : lawT texts T_L T_number T_tongue T_day T_code C_L C_len C_row s t) (h1 : t1 < 3) (h2 : t2 < 3) (ho : ∀ m, o = some m → m < t) (ho' : ∀ m, o' = some m → m < t) (hru : ruling t1 = o.bind texts) (hru' : ruling t2 = o'.bind texts) (hQ : ∀ st top hd lt k, Q (nI (popS (bN (unF s o o')) 10800)) st top hd lt k) : wp_X5_unlikeCount (nI t1) (nI t2) gr ruling stack top hd lt k T_L T_code C_L C_len C_row Q := by
  unfold wp_X5_unlikeCount
  have step : ∀ m B st top hd lt k, B + m = 450 → wl_X5_unlikeCount_5 (nI t1) (nI t2) gr ruling T_L T_code C_L C_len C_row Q (m + 1) (nI (popS (bN (unF s o o')) (24 * B))) (nI B) st top hd lt k := by
    intro m
    induction m with
    | zero =>
      intro B st top hd lt k hB
      rw [wl_X5_unlikeCount_5]
      unfold wb_X5_unlikeCount_5
      refine ⟨fun _ => ?_, fun z => absurd (by rw [nI_natle (by omega) (by omega)]; omega) z⟩
      rw [show 24 * B = 10800 from by omega]
      exact hQ _ _ _ _ _
    | succ m ih =>
      intro B st top hd lt k hB
      rw [wl_X5_unlikeCount_5]
      unfold wb_X5_unlikeCount_5
      refine ⟨fun z => absurd z (by rw [nI_natle (by omega) (by omega)]; omega), fun _ => ?_⟩
      refine cls_tongueHours hgr hx (by omega) h1 ho hru (fun x st top hd lt k w1 => ?_)
      refine cls_tongueHours hgr hx (by omega) h2 ho' hru' (fun y st top hd lt k w2 v hv => ?_)
      rw [hv, hrs_pop (hrs_xor w1 w2), nI_add, nI_add]
      have e := popS_add (bN (unF s o o')) (24 * B) 24
      rw [show popS (bN (fun i => xor (slO s o (24 * B + i)) (slO s o' (24 * B + i)))) 24 = popS (fun i => bN (unF s o o') (24 * B + i)) 24 from rfl, ← e, show 24 * B + 24 = 24 * (B + 1) from by omega]
      exact ih (B + 1) _ _ _ _ _ (by omega)
  exact ⟨_, step 450 0 _ _ _ _ _ (by omega)⟩
theorem cls_leastUnlike {t1 t2 t : Nat} {o o' : Option Nat} {gr s stack hd lt T_number T_tongue T_day : Nat → Int32} {texts ruling : Nat → Option Nat} {top k : Int32} {T_L : List Nat} {T_code : Nat → Option Nat} {C_L : List Nat} {C_len : Nat → Nat} {C_row : Nat → Nat → Int32} {Q : Int32 → (Nat → Int32) → Int32 → (Nat → Int32) → (Nat → Int32) → Int32 → Prop} (hgr : ∀ i, i < 30 → gr i = s (20 + i)) (hx : lawT texts T_L T_number T_tongue T_day T_code C_L C_len C_row s t) (h1 : t1 < 3) (h2 : t2 < 3) (ho : ∀ m, o = some m → m < t) (ho' : ∀ m, o' = some m → m < t) (hru : ruling t1 = o.bind texts) (hru' : ruling t2 = o'.bind texts) (hQ : ∀ v st top hd lt k, unR (unF s o o') v → Q v st top hd lt k) : wp_X5_leastUnlike (nI t1) (nI t2) gr ruling stack top hd lt k T_L T_code C_L C_len C_row Q := by
  unfold wp_X5_leastUnlike
  have step : ∀ m B st top hd lt k, B + m = 450 → (∀ a, a < 24 * B → unF s o o' a = false) → wl_X5_leastUnlike_2 (nI t1) (nI t2) gr ruling T_L T_code C_L C_len C_row Q (m + 1) (nI B) st top hd lt k := by
    intro m
    induction m with
    | zero =>
      intro B st top hd lt k hB hf
      rw [wl_X5_leastUnlike_2]
      unfold wb_X5_leastUnlike_2
      exact ⟨fun _ => hQ _ _ _ _ _ _ (Or.inl ⟨rfl, fun a ha => hf a (by omega)⟩), fun z => absurd (by rw [nI_natle (by omega) (by omega)]; omega) z⟩
    | succ m ih =>
      intro B st top hd lt k hB hf
      rw [wl_X5_leastUnlike_2]
      unfold wb_X5_leastUnlike_2
      refine ⟨fun z => absurd z (by rw [nI_natle (by omega) (by omega)]; omega), fun _ => ?_⟩
      refine cls_tongueHours hgr hx (by omega) h1 ho hru (fun x st top hd lt k w1 => ?_)
      refine cls_tongueHours hgr hx (by omega) h2 ho' hru' (fun y st top hd lt k w2 => ?_)
      have w := hrs_xor w1 w2
      refine ⟨fun z => ?_, fun z => ?_⟩
      · rw [nI_add]
        refine ih (B + 1) _ _ _ _ _ (by omega) (fun a ha => ?_)
        rcases Nat.lt_or_ge a (24 * B) with q | q
        · exact hf a q
        · cases e : unF s o o' a
          · rfl
          · have := (w (a - 24 * B)).mpr ⟨by omega, by show xor (slO s o (24 * B + (a - 24 * B))) (slO s o' (24 * B + (a - 24 * B))) = true; rw [show 24 * B + (a - 24 * B) = a from by omega]; exact e⟩
            rw [z] at this
            have h0 : b32 (nI 0) (a - 24 * B) = false := b32_0 _
            rw [show (0 : Int32) = nI 0 from rfl, h0] at this
            cases this
      · obtain ⟨j, j1, j2, j3, j4⟩ := hrs_least w z
        rw [j4, nI_mul, nI_add]
        refine hQ _ _ _ _ _ _ (Or.inr ⟨24 * B + j, by omega, by rw [Nat.mul_comm], j2, fun b hb => ?_⟩)
        rcases Nat.lt_or_ge b (24 * B) with q | q
        · exact hf b q
        · have := j3 (b - 24 * B) (by omega)
          have t2 : unF s o o' (24 * B + (b - 24 * B)) = false := this
          rw [show 24 * B + (b - 24 * B) = b from by omega] at t2
          exact t2
  exact ⟨_, step 450 0 _ _ _ _ _ (by omega) (fun a ha => by omega)⟩
theorem mod_unlikeOf {n t q : Nat} {u1 u2 d : Int32} {s letBy letStamp : Nat → Int32} {stamp : Int32} {Q : Int32 → Int32 → Int32 → Int32 → Int32 → Int32 → (Nat → Int32) → (Nat → Int32) → Prop} {r1 r2 r3 r4 r5 : Int32} (hn : n + 1 < 2 ^ 31) (ht : t ≤ 16) (h1 : s 1 = nI t) (hs : ∀ i, i < t → ∃ c, SlotOK s i c) (hI : ICacheT n letBy letStamp stamp s) (hq : q ≤ 1) (hQ0 : q = 0 → ∀ g1 g2 g3 g4 g5 lb ls, ICacheT n lb ls stamp s → Q (nI (popS (bN (unF s (txS s u1 d t) (txS s u2 d t))) 10800)) g1 g2 g3 g4 g5 lb ls) (hQ1 : q = 1 → ∀ v g1 g2 g3 g4 g5 lb ls, unR (unF s (txS s u1 d t) (txS s u2 d t)) v → ICacheT n lb ls stamp s → Q v g1 g2 g3 g4 g5 lb ls) : wp_X12_unlikeOf u1 u2 d (nI q) s r1 r2 r3 r4 r5 letBy letStamp stamp Q := by
  unfold wp_X12_unlikeOf
  have step : ∀ m i g1 g2 g3 g4 g5 lb ls, i + m = 10800 → ICacheT n lb ls stamp s → (q = 1 → ∀ b, b < i → unF s (txS s u1 d t) (txS s u2 d t) b = false) → wl_X12_unlikeOf_6 u1 u2 d (nI q) s stamp Q (m + 1) (nI (popS (bN (unF s (txS s u1 d t) (txS s u2 d t))) i)) (nI i) g1 g2 g3 g4 g5 lb ls := by
    intro m
    induction m with
    | zero =>
      intro i g1 g2 g3 g4 g5 lb ls hi hc hf
      rw [wl_X12_unlikeOf_6]
      unfold wb_X12_unlikeOf_6
      refine ⟨fun _ y hy => ?_, fun z => absurd (by rw [nI_natle (by omega) (by omega)]; omega) z⟩
      rcases Nat.lt_or_ge q 1 with c | c
      · have q0 : q = 0 := by omega
        rw [q0, if_pos (of_eq_true nI0eq), show i = 10800 from hi] at hy
        rw [hy]
        exact hQ0 q0 _ _ _ _ _ _ _ hc
      · have q1 : q = 1 := by omega
        rw [q1, if_neg (by rw [nI1ne]; exact id)] at hy
        rw [hy]
        exact hQ1 q1 _ _ _ _ _ _ _ _ (Or.inl ⟨rfl, fun a ha => hf q1 a (by omega)⟩) hc
    | succ m ih =>
      intro i g1 g2 g3 g4 g5 lb ls hi hc hf
      rw [wl_X12_unlikeOf_6]
      unfold wb_X12_unlikeOf_6
      refine ⟨fun z => absurd z (by rw [nI_natle (by omega) (by omega)]; omega), fun _ => ?_⟩
      refine mod_letsBy hn ht h1 hs (by omega) hc (fun k1 k2 k3 k4 k5 lb ls hc => ?_)
      refine mod_letsBy hn ht h1 hs (by omega) hc (fun k1 k2 k3 k4 k5 lb ls hc => ?_)
      have en : (nI (if slO s (txS s u1 d t) i = true then 1 else 0) = nI (if slO s (txS s u2 d t) i = true then 1 else 0)) ↔ unF s (txS s u1 d t) (txS s u2 d t) i = false := by
        unfold unF
        cases slO s (txS s u1 d t) i <;> cases slO s (txS s u2 d t) i <;> decide
      rw [nI_add, nI_add]
      refine ⟨fun z => ?_, fun z => ?_⟩
      · have f0 := en.mp z
        have := ih (i + 1) k1 k2 k3 k4 k5 lb ls (by omega) hc (fun q1 b hb => ?_)
        · rw [popS, show bN (unF s (txS s u1 d t) (txS s u2 d t)) i = 0 from by unfold bN; rw [f0]; rfl] at this
          exact this
        · by_cases eb : b = i
          · rw [eb]; exact f0
          · exact hf q1 b (by omega)
      · have f1 : unF s (txS s u1 d t) (txS s u2 d t) i = true := by
          cases e : unF s (txS s u1 d t) (txS s u2 d t) i
          · exact absurd (en.mpr e) z
          · rfl
        refine ⟨fun w => ?_, fun w => ?_⟩
        · have := ih (i + 1) k1 k2 k3 k4 k5 lb ls (by omega) hc (fun q1 b hb => absurd (by rw [q1]) w)
          rw [popS, show bN (unF s (txS s u1 d t) (txS s u2 d t)) i = 1 from by unfold bN; rw [f1]; rfl] at this
          exact this
        · rw [nI_nateq (by omega) (by omega)] at w
          exact hQ1 w _ _ _ _ _ _ _ _ (Or.inr ⟨i, by omega, rfl, f1, hf w⟩) hc
  exact ⟨_, step 10800 0 _ _ _ _ _ _ _ (by omega) hI (fun _ b hb => by omega)⟩
