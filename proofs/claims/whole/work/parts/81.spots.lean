/-- a bit of a 32-bit word -/
def b32 (x : Int32) (i : Nat) : Bool := x.toBitVec.getLsbD i
theorem b32_or (x y : Int32) (i : Nat) : b32 (x ||| y) i = (b32 x i || b32 y i) := by
  unfold b32
  rw [Int32.toBitVec_or, BitVec.getLsbD_or]
theorem b32_and (x y : Int32) (i : Nat) : b32 (x &&& y) i = (b32 x i && b32 y i) := by
  unfold b32
  rw [Int32.toBitVec_and, BitVec.getLsbD_and]
theorem b32_hi (x : Int32) (i : Nat) (hi : 32 ≤ i) : b32 x i = false := BitVec.getLsbD_of_ge _ _ hi
theorem b32_0 (i : Nat) : b32 (nI 0) i = false := by
  show (0#32).getLsbD i = false
  simp
theorem b32_ext {x y : Int32} (h : ∀ i, i < 32 → b32 x i = b32 y i) : x = y := by
  apply Int32.toBitVec_inj.mp
  apply BitVec.eq_of_getLsbD_eq
  exact h
theorem sh31 : ∀ i, i < 32 → (((nI i &&& 31).toBitVec).smod 32).toNat = i := by decide +kernel
theorem sh31u : ∀ k, k < 32 → ((((nI k).toUInt32 &&& Int32.toUInt32 31)).toBitVec % 32#32).toNat = k := by decide +kernel
theorem b32_shl (n : Nat) (hn : n < 32) (x : Int32) {j : Nat} (hj : j < 32) : b32 (x <<< (nI n &&& 31)) j = (decide (n ≤ j) && b32 x (j - n)) := by
  unfold b32
  have e : (x <<< (nI n &&& 31)).toBitVec = x.toBitVec <<< n := by
    rw [Int32.toBitVec_shiftLeft, BitVec.shiftLeft_eq', sh31 n hn]
  rw [e, BitVec.getLsbD_shiftLeft]
  by_cases h : j < n
  · have : ¬ n ≤ j := by omega
    simp [h, this]
  · have : n ≤ j := by omega
    simp [h, hj, this]
theorem b32_ushr (n : Nat) (hn : n < 32) (x : Int32) (j : Nat) : b32 ((x.toUInt32 >>> ((nI n).toUInt32 &&& Int32.toUInt32 31)).toInt32) j = b32 x (n + j) := by
  unfold b32
  show (x.toUInt32 >>> ((nI n).toUInt32 &&& Int32.toUInt32 31)).toBitVec.getLsbD j = _
  rw [UInt32.toBitVec_shiftRight, BitVec.ushiftRight_eq', BitVec.getLsbD_ushiftRight]
  rw [show (((nI n).toUInt32 &&& Int32.toUInt32 31).toBitVec % 32).toNat = n from sh31u n hn]
  rfl
theorem b32_1 (k : Nat) : b32 (nI 1) k = decide (k = 0) := by
  cases k with
  | zero => rfl
  | succ k =>
    show (1#32).getLsbD (k + 1) = _
    simp
theorem b32_one (i j : Nat) (hi : i < 32) : b32 (nI 1 <<< (nI i &&& 31)) j = decide (j = i) := by
  rcases Nat.lt_or_ge j 32 with q | q
  · rw [b32_shl i hi _ q, b32_1]
    by_cases h : j = i
    · subst h; simp
    · by_cases g : i ≤ j
      · have : j - i ≠ 0 := by omega
        simp [h, this]
      · simp [h, g]
  · rw [b32_hi _ _ q]
    have : j ≠ i := by omega
    simp [this]
theorem b32_test (x : Int32) (i : Nat) (hi : i < 32) : ((x >>> (nI i &&& 31)) &&& nI 1) = nI (if b32 x i then 1 else 0) := by
  apply b32_ext
  intro j hj
  have e : (x >>> (nI i &&& 31)).toBitVec = x.toBitVec.sshiftRight i := by
    rw [Int32.toBitVec_shiftRight, BitVec.sshiftRight_eq', sh31 i hi]
  rw [b32_and, b32_1]
  by_cases h0 : j = 0
  · subst h0
    have f : b32 (x >>> (nI i &&& 31)) 0 = b32 x i := by
      unfold b32
      rw [e, BitVec.getLsbD_sshiftRight]
      simp [hi]
    rw [f]
    cases b32 x i
    · rfl
    · rfl
  · have n0 : decide (j = 0) = false := decide_eq_false h0
    rw [n0, Bool.and_false]
    cases b32 x i
    · exact (b32_0 j).symm
    · show false = b32 (nI 1) j
      rw [b32_1, n0]
theorem b32_testz (x : Int32) (i : Nat) (hi : i < 32) : (((x >>> (nI i &&& 31)) &&& nI 1) = 0) = (b32 x i = false) := by
  rw [b32_test x i hi]
  cases b32 x i
  · exact eq_true (by decide) |>.trans (eq_true rfl).symm
  · exact (eq_false (by decide)).trans (eq_false (by decide)).symm
theorem b32_z {x : Int32} : (x = 0) = ∀ i, i < 32 → b32 x i = false := by
  apply propext
  constructor
  · intro h i _
    rw [h]
    exact b32_0 i
  · intro h
    have : x = nI 0 := b32_ext (fun i hi => by rw [h i hi, b32_0])
    rw [this]; rfl
theorem c_last : ∀ j, j < 32 → b32 (-545392673) j = decide (j % 6 ≠ 5) := by decide +kernel
theorem c_first : ∀ j, j < 32 → b32 (-17043522) j = decide (¬ (j % 6 = 0 ∧ j < 30)) := by decide +kernel
theorem c_all : ∀ j, j < 32 → b32 (nI 1073741823) j = decide (j < 30) := by decide +kernel
/-- a set of spots: no bit but theirs -/
def spo (x : Int32) : Prop := ∀ i, 30 ≤ i → b32 x i = false
theorem spo_lt {x : Int32} (h : spo x) {i : Nat} (hi : b32 x i = true) : i < 30 := by
  apply Classical.byContradiction
  intro g
  rw [h i (by omega)] at hi
  cases hi
theorem wB_bit {x : Int32} (hx : spo x) (j : Nat) : b32 (f_X11_withBeside x) j = true ↔ j < 30 ∧ (b32 x j = true ∨ ∃ b, b < 30 ∧ besideN b j = true ∧ b32 x b = true) := by
  have raw : ∀ j, j < 30 → b32 (f_X11_withBeside x) j = ((((b32 x j) || ((decide (1 ≤ j) && (b32 x (j - 1) && b32 (-545392673) (j - 1))) || (b32 x (1 + j) && b32 (-17043522) (1 + j)))) || (decide (6 ≤ j) && b32 x (j - 6))) || b32 x (6 + j)) := by
    intro j hj
    unfold f_X11_withBeside
    rw [b32_and, c_all j (by omega), decide_eq_true hj, Bool.and_true, b32_or, b32_or, b32_or, b32_or, b32_shl 1 (by omega) _ (by omega), b32_ushr 1 (by omega), b32_shl 6 (by omega) _ (by omega), b32_ushr 6 (by omega), b32_and, b32_and]
  constructor
  · intro h
    have hj : j < 30 := by
      apply Classical.byContradiction
      intro g
      unfold f_X11_withBeside at h
      rw [b32_and] at h
      rcases Nat.lt_or_ge j 32 with q | q
      · rw [c_all j q, decide_eq_false g, Bool.and_false] at h; cases h
      · rw [b32_hi (nI 1073741823) j q, Bool.and_false] at h; cases h
    refine ⟨hj, ?_⟩
    rw [raw j hj] at h
    rw [Bool.or_eq_true, Bool.or_eq_true, Bool.or_eq_true, Bool.or_eq_true, Bool.and_eq_true, Bool.and_eq_true, Bool.and_eq_true, Bool.and_eq_true, decide_eq_true_eq, decide_eq_true_eq] at h
    rcases h with (((h | (⟨h1, h2, h3⟩ | ⟨h2, h3⟩)) | ⟨h1, h2⟩) | h2)
    · exact Or.inl h
    · have := spo_lt hx h2
      rw [c_last (j - 1) (by omega), decide_eq_true_eq] at h3
      refine Or.inr ⟨j - 1, by omega, ?_, h2⟩
      unfold besideN
      exact decide_eq_true (by omega)
    · have := spo_lt hx h2
      rw [c_first (1 + j) (by omega), decide_eq_true_eq] at h3
      refine Or.inr ⟨1 + j, by omega, ?_, h2⟩
      unfold besideN
      exact decide_eq_true (by omega)
    · refine Or.inr ⟨j - 6, by omega, ?_, h2⟩
      unfold besideN
      exact decide_eq_true (by omega)
    · have := spo_lt hx h2
      refine Or.inr ⟨6 + j, by omega, ?_, h2⟩
      unfold besideN
      exact decide_eq_true (by omega)
  · rintro ⟨hj, h⟩
    rw [raw j hj]
    rw [Bool.or_eq_true, Bool.or_eq_true, Bool.or_eq_true, Bool.or_eq_true, Bool.and_eq_true, Bool.and_eq_true, Bool.and_eq_true, Bool.and_eq_true, decide_eq_true_eq, decide_eq_true_eq]
    rcases h with h | ⟨b, hb, h1, h2⟩
    · exact Or.inl (Or.inl (Or.inl h))
    · unfold besideN at h1
      rw [decide_eq_true_eq] at h1
      have : b + 1 = j ∧ b % 6 ≠ 5 ∨ b = 1 + j ∧ ¬ (b % 6 = 0) ∨ b + 6 = j ∨ b = 6 + j := by omega
      rcases this with ⟨rfl, e⟩ | ⟨rfl, e⟩ | rfl | rfl
      · refine Or.inl (Or.inl (Or.inr (Or.inl ⟨by omega, ?_, ?_⟩)))
        · rw [Nat.add_sub_cancel]; exact h2
        · rw [Nat.add_sub_cancel, c_last b (by omega)]; exact decide_eq_true e
      · refine Or.inl (Or.inl (Or.inr (Or.inr ⟨h2, ?_⟩)))
        rw [c_first (1 + j) (by omega)]
        exact decide_eq_true (fun z => e z.1)
      · refine Or.inl (Or.inr ⟨by omega, ?_⟩)
        rw [Nat.add_sub_cancel]; exact h2
      · exact Or.inr h2
theorem wB_spo {x : Int32} (hx : spo x) : spo (f_X11_withBeside x) := fun i hi => Bool.eq_false_iff.mpr (fun z => by
  have := ((wB_bit hx i).mp z).1
  omega)
theorem and_spo {x y : Int32} (h : spo y) : spo (x &&& y) := fun i hi => by rw [b32_and, h i hi, Bool.and_false]
/-- the class's spots that are no walls -/
theorem cls_open {gr : Nat → Int32} {Q : Int32 → Prop} (hQ : ∀ y, (∀ i, b32 y i = true ↔ i < 30 ∧ ¬ gr i = nI 5) → Q y) : wp_X4_openSpots gr Q := by
  unfold wp_X4_openSpots
  refine meas2 (F := wl_X4_openSpots_4 gr Q) (fun x v => ∃ k, k ≤ 30 ∧ v = nI k ∧ ∀ i, b32 x i = true ↔ i < k ∧ ¬ gr i = nI 5) (fun _ v => 30 - v.toNatClampNeg) ?_ _ _ ⟨0, by omega, rfl, fun i => ⟨fun z => absurd z (by rw [b32_0]; decide), fun z => absurd z.1 (by omega)⟩⟩
  rintro x v ⟨k, hk, rfl, hx⟩ m ih
  rw [wl_X4_openSpots_4]
  by_cases w : k = 30
  · subst w
    simp (disch := omega) only [wb_X4_openSpots_4, nI_natle, Nat.le_refl, not_true_eq_false, not_false_eq_true, forall_const, true_implies, false_implies, implies_true, and_true, true_and, and_false, false_and, or_true, true_or, or_false, false_or, forall_eq, ↓reduceIte, ne_eq, nI1ne, nI0eq, Classical.not_not, eq_self, reduceCtorEq]
    exact hQ x hx
  · simp (disch := omega) only [wb_X4_openSpots_4, nI_natle, show ¬ 30 ≤ k from by omega, vpin, nI_clamp, nI_add, not_true_eq_false, not_false_eq_true, forall_const, true_implies, false_implies, implies_true, and_true, true_and, and_false, false_and, or_true, true_or, or_false, false_or, forall_eq, ↓reduceIte, ne_eq, nI1ne, nI0eq, Classical.not_not, eq_self, reduceCtorEq]
    refine ih _ _ ⟨k + 1, by omega, rfl, fun i => ?_⟩ (by rw [nI_clamp (by omega), nI_clamp (by omega)]; omega)
    by_cases g : gr k = nI 5
    · rw [if_pos g, hx]
      refine ⟨fun z => ⟨by omega, z.2⟩, fun z => ⟨?_, z.2⟩⟩
      by_cases e : i = k
      · rw [e] at z; exact absurd g z.2
      · omega
    · rw [if_neg g, b32_or, Bool.or_eq_true, hx, b32_one k i (by omega), decide_eq_true_eq]
      constructor
      · rintro (z | rfl)
        · exact ⟨by omega, z.2⟩
        · exact ⟨by omega, g⟩
      · intro z
        by_cases e : i = k
        · exact Or.inr e
        · exact Or.inl ⟨by omega, z.2⟩
