theorem nI1ne : (nI 1 = (0 : Int32)) = False := eq_false (by decide)
theorem nI0eq : (nI 0 = (0 : Int32)) = True := eq_true (by decide)
theorem nI1e0 : (nI 1 = nI 0) = False := eq_false (by decide)
def isN (x : Int32) (n : Nat) : Prop := ∃ k : Nat, k ≤ n ∧ x = nI k
theorem within_eq (a b c : Int32) : f_X11_isWithin a b c = f_X12_in a b c := rfl
theorem nI_natlt {a b : Nat} (ha : a < 2 ^ 31) (hb : b < 2 ^ 31) : (nI a < nI b) = (a < b) := propext (nI_ltI ha hb)
theorem nI_natle {a b : Nat} (ha : a < 2 ^ 31) (hb : b < 2 ^ 31) : (nI a ≤ nI b) = (a ≤ b) := propext (nI_leI ha hb)
theorem nI_nateq {a b : Nat} (ha : a < 2 ^ 31) (hb : b < 2 ^ 31) : (nI a = nI b) = (a = b) := propext (nI_eq ha hb)
theorem vpin {k N : Nat} (h : k < N) (hN : N < 2 ^ 31) : vp_in (nI k) N = True := eq_true (vp_in_nI h hN)
theorem updne {f : Nat → Int32} {i j : Nat} {v : Int32} (h : j ≠ i) : upd f i v j = f j := by simp [upd, h]
theorem upde {f : Nat → Int32} {i : Nat} {v : Int32} : upd f i v i = v := by simp [upd]
theorem updeq {f : Nat → Int32} {i j : Nat} {v : Int32} (h : j = i) : upd f i v j = v := by simp [upd, h]
theorem upLne {f : Nat → Int64} {i j : Nat} {v : Int64} (h : j ≠ i) : vp_updL f i v j = f j := by simp [vp_updL, h]
theorem upLe {f : Nat → Int64} {i : Nat} {v : Int64} : vp_updL f i v i = v := by simp [vp_updL]
theorem upene {α : Type} {f : Nat → α} {i j : Nat} {v : α} (h : j ≠ i) : va_up f i v j = f j := by simp [va_up, h]
theorem upee {α : Type} {f : Nat → α} {i : Nat} {v : α} : va_up f i v i = v := by simp [va_up]
theorem nI_subL {a b : Nat} (h : b ≤ a) : nI a - nI b = nI (a - b) := by
  have h2 := nI_add (a - b) b
  rw [Nat.sub_add_cancel h] at h2
  rw [← h2, Int32.add_sub_cancel]
theorem nI_m1 {a : Nat} (h : 0 < a) : nI a + (-1) = nI (a - 1) := by
  rw [← nI_subL (show 1 ≤ a from h), Int32.sub_eq_add_neg]
  rfl
theorem in_def (x a b : Int32) : f_X12_in x a b = if x < a then nI 0 else if b < x then nI 0 else nI 1 := rfl
theorem in_cases (x : Int32) (a b : Nat) (hab : a ≤ b) (hb : b < 2 ^ 31) : f_X12_in x (nI a) (nI b) = nI 0 ∧ (∀ k, a ≤ k → k ≤ b → x ≠ nI k) ∨ f_X12_in x (nI a) (nI b) = nI 1 ∧ ∃ k, a ≤ k ∧ k ≤ b ∧ x = nI k := by
  unfold f_X12_in
  by_cases h1 : x < nI a
  · left
    rw [if_pos h1]
    refine ⟨rfl, fun k hk hkb e => ?_⟩
    subst e
    rw [nI_natlt (by omega) (by omega)] at h1
    omega
  · rw [if_neg h1]
    by_cases h2 : nI b < x
    · left
      rw [if_pos h2]
      refine ⟨rfl, fun k hk hkb e => ?_⟩
      subst e
      rw [nI_natlt (by omega) (by omega)] at h2
      omega
    · right
      rw [if_neg h2]
      refine ⟨rfl, ?_⟩
      have ha : a < 2 ^ 31 := by omega
      have h0 : ¬ x < 0 := by
        intro h3
        rw [Int32.lt_iff_toInt_lt] at h1 h3
        rw [nI_toInt ha] at h1
        simp at h3
        omega
      obtain ⟨k, hk, rfl⟩ := nI_of h0
      rw [nI_natlt hk ha] at h1
      rw [nI_natlt hb hk] at h2
      exact ⟨k, by omega, by omega, rfl⟩
theorem in_cases1 (x : Int32) (c : Nat) (hc : c < 2 ^ 31) : f_X12_in x (nI 0) (nI c - nI 1) = nI 0 ∧ (∀ k, k < c → x ≠ nI k) ∨ f_X12_in x (nI 0) (nI c - nI 1) = nI 1 ∧ ∃ k, k < c ∧ x = nI k := by
  by_cases h : c = 0
  · subst h
    left
    refine ⟨?_, fun k hk => by omega⟩
    unfold f_X12_in
    by_cases h1 : x < nI 0
    · rw [if_pos h1]
    · rw [if_neg h1, if_pos]
      obtain ⟨k, hk, rfl⟩ := nI_of (x := x) h1
      rw [Int32.lt_iff_toInt_lt, nI_toInt hk]
      have : (nI 0 - nI 1).toInt = -1 := by decide
      omega
  · rw [nI_subL (by omega)]
    rcases in_cases x 0 (c - 1) (by omega) (by omega) with ⟨h1, h2⟩ | ⟨h1, k, h2, h3, h4⟩
    · exact Or.inl ⟨h1, fun k hk => h2 k (by omega) (by omega)⟩
    · exact Or.inr ⟨h1, k, by omega, h4⟩
theorem run1 {A1 : Type} {F : Nat → A1 → Prop} (N : Nat) (a1 : Nat → A1) (hs : ∀ i, i < N → ∀ m, F m (a1 (i + 1)) → F (m + 1) (a1 i)) (he : ∀ m, F (m + 1) (a1 N)) : ∃ n, F n (a1 0) := by
  have h : ∀ j, j ≤ N → F (j + 1) (a1 (N - j)) := by
    intro j
    induction j with
    | zero => intro _; exact he 0
    | succ j ih =>
      intro hj
      have h2 := hs (N - (j + 1)) (by omega) (j + 1)
      rw [show N - (j + 1) + 1 = N - j from by omega] at h2
      exact h2 (ih (by omega))
  have h3 := h N (Nat.le_refl N)
  rw [Nat.sub_self] at h3
  exact ⟨N + 1, h3⟩
theorem meas1 {A1 : Type} {F : Nat → A1 → Prop} (I : A1 → Prop) (μ : A1 → Nat) (h : ∀ (x1 : A1), I x1 → ∀ m, (∀ (y1 : A1), I y1 → μ y1 < μ x1 → F m y1) → F (m + 1) x1) (x1 : A1) (hI : I x1) : ∃ n, F n x1 := by
  have g : ∀ m, ∀ (y1 : A1), I y1 → μ y1 < m → F m y1 := by
    intro m
    induction m with
    | zero => intro y1 _ h1; omega
    | succ m ih =>
      intro y1 h1 h2
      exact h y1 h1 m (fun z1 h3 h4 => ih z1 h3 (by omega))
  exact ⟨μ x1 + 1, g (μ x1 + 1) x1 hI (Nat.lt_succ_self _)⟩
theorem run2 {A1 : Type} {A2 : Type} {F : Nat → A1 → A2 → Prop} (N : Nat) (a1 : Nat → A1) (a2 : Nat → A2) (hs : ∀ i, i < N → ∀ m, F m (a1 (i + 1)) (a2 (i + 1)) → F (m + 1) (a1 i) (a2 i)) (he : ∀ m, F (m + 1) (a1 N) (a2 N)) : ∃ n, F n (a1 0) (a2 0) := by
  have h : ∀ j, j ≤ N → F (j + 1) (a1 (N - j)) (a2 (N - j)) := by
    intro j
    induction j with
    | zero => intro _; exact he 0
    | succ j ih =>
      intro hj
      have h2 := hs (N - (j + 1)) (by omega) (j + 1)
      rw [show N - (j + 1) + 1 = N - j from by omega] at h2
      exact h2 (ih (by omega))
  have h3 := h N (Nat.le_refl N)
  rw [Nat.sub_self] at h3
  exact ⟨N + 1, h3⟩
theorem meas2 {A1 : Type} {A2 : Type} {F : Nat → A1 → A2 → Prop} (I : A1 → A2 → Prop) (μ : A1 → A2 → Nat) (h : ∀ (x1 : A1) (x2 : A2), I x1 x2 → ∀ m, (∀ (y1 : A1) (y2 : A2), I y1 y2 → μ y1 y2 < μ x1 x2 → F m y1 y2) → F (m + 1) x1 x2) (x1 : A1) (x2 : A2) (hI : I x1 x2) : ∃ n, F n x1 x2 := by
  have g : ∀ m, ∀ (y1 : A1) (y2 : A2), I y1 y2 → μ y1 y2 < m → F m y1 y2 := by
    intro m
    induction m with
    | zero => intro y1 y2 _ h1; omega
    | succ m ih =>
      intro y1 y2 h1 h2
      exact h y1 y2 h1 m (fun z1 z2 h3 h4 => ih z1 z2 h3 (by omega))
  exact ⟨μ x1 x2 + 1, g (μ x1 x2 + 1) x1 x2 hI (Nat.lt_succ_self _)⟩
theorem run3 {A1 : Type} {A2 : Type} {A3 : Type} {F : Nat → A1 → A2 → A3 → Prop} (N : Nat) (a1 : Nat → A1) (a2 : Nat → A2) (a3 : Nat → A3) (hs : ∀ i, i < N → ∀ m, F m (a1 (i + 1)) (a2 (i + 1)) (a3 (i + 1)) → F (m + 1) (a1 i) (a2 i) (a3 i)) (he : ∀ m, F (m + 1) (a1 N) (a2 N) (a3 N)) : ∃ n, F n (a1 0) (a2 0) (a3 0) := by
  have h : ∀ j, j ≤ N → F (j + 1) (a1 (N - j)) (a2 (N - j)) (a3 (N - j)) := by
    intro j
    induction j with
    | zero => intro _; exact he 0
    | succ j ih =>
      intro hj
      have h2 := hs (N - (j + 1)) (by omega) (j + 1)
      rw [show N - (j + 1) + 1 = N - j from by omega] at h2
      exact h2 (ih (by omega))
  have h3 := h N (Nat.le_refl N)
  rw [Nat.sub_self] at h3
  exact ⟨N + 1, h3⟩
theorem meas3 {A1 : Type} {A2 : Type} {A3 : Type} {F : Nat → A1 → A2 → A3 → Prop} (I : A1 → A2 → A3 → Prop) (μ : A1 → A2 → A3 → Nat) (h : ∀ (x1 : A1) (x2 : A2) (x3 : A3), I x1 x2 x3 → ∀ m, (∀ (y1 : A1) (y2 : A2) (y3 : A3), I y1 y2 y3 → μ y1 y2 y3 < μ x1 x2 x3 → F m y1 y2 y3) → F (m + 1) x1 x2 x3) (x1 : A1) (x2 : A2) (x3 : A3) (hI : I x1 x2 x3) : ∃ n, F n x1 x2 x3 := by
  have g : ∀ m, ∀ (y1 : A1) (y2 : A2) (y3 : A3), I y1 y2 y3 → μ y1 y2 y3 < m → F m y1 y2 y3 := by
    intro m
    induction m with
    | zero => intro y1 y2 y3 _ h1; omega
    | succ m ih =>
      intro y1 y2 y3 h1 h2
      exact h y1 y2 y3 h1 m (fun z1 z2 z3 h3 h4 => ih z1 z2 z3 h3 (by omega))
  exact ⟨μ x1 x2 x3 + 1, g (μ x1 x2 x3 + 1) x1 x2 x3 hI (Nat.lt_succ_self _)⟩
theorem run4 {A1 : Type} {A2 : Type} {A3 : Type} {A4 : Type} {F : Nat → A1 → A2 → A3 → A4 → Prop} (N : Nat) (a1 : Nat → A1) (a2 : Nat → A2) (a3 : Nat → A3) (a4 : Nat → A4) (hs : ∀ i, i < N → ∀ m, F m (a1 (i + 1)) (a2 (i + 1)) (a3 (i + 1)) (a4 (i + 1)) → F (m + 1) (a1 i) (a2 i) (a3 i) (a4 i)) (he : ∀ m, F (m + 1) (a1 N) (a2 N) (a3 N) (a4 N)) : ∃ n, F n (a1 0) (a2 0) (a3 0) (a4 0) := by
  have h : ∀ j, j ≤ N → F (j + 1) (a1 (N - j)) (a2 (N - j)) (a3 (N - j)) (a4 (N - j)) := by
    intro j
    induction j with
    | zero => intro _; exact he 0
    | succ j ih =>
      intro hj
      have h2 := hs (N - (j + 1)) (by omega) (j + 1)
      rw [show N - (j + 1) + 1 = N - j from by omega] at h2
      exact h2 (ih (by omega))
  have h3 := h N (Nat.le_refl N)
  rw [Nat.sub_self] at h3
  exact ⟨N + 1, h3⟩
theorem meas4 {A1 : Type} {A2 : Type} {A3 : Type} {A4 : Type} {F : Nat → A1 → A2 → A3 → A4 → Prop} (I : A1 → A2 → A3 → A4 → Prop) (μ : A1 → A2 → A3 → A4 → Nat) (h : ∀ (x1 : A1) (x2 : A2) (x3 : A3) (x4 : A4), I x1 x2 x3 x4 → ∀ m, (∀ (y1 : A1) (y2 : A2) (y3 : A3) (y4 : A4), I y1 y2 y3 y4 → μ y1 y2 y3 y4 < μ x1 x2 x3 x4 → F m y1 y2 y3 y4) → F (m + 1) x1 x2 x3 x4) (x1 : A1) (x2 : A2) (x3 : A3) (x4 : A4) (hI : I x1 x2 x3 x4) : ∃ n, F n x1 x2 x3 x4 := by
  have g : ∀ m, ∀ (y1 : A1) (y2 : A2) (y3 : A3) (y4 : A4), I y1 y2 y3 y4 → μ y1 y2 y3 y4 < m → F m y1 y2 y3 y4 := by
    intro m
    induction m with
    | zero => intro y1 y2 y3 y4 _ h1; omega
    | succ m ih =>
      intro y1 y2 y3 y4 h1 h2
      exact h y1 y2 y3 y4 h1 m (fun z1 z2 z3 z4 h3 h4 => ih z1 z2 z3 z4 h3 (by omega))
  exact ⟨μ x1 x2 x3 x4 + 1, g (μ x1 x2 x3 x4 + 1) x1 x2 x3 x4 hI (Nat.lt_succ_self _)⟩
theorem run5 {A1 : Type} {A2 : Type} {A3 : Type} {A4 : Type} {A5 : Type} {F : Nat → A1 → A2 → A3 → A4 → A5 → Prop} (N : Nat) (a1 : Nat → A1) (a2 : Nat → A2) (a3 : Nat → A3) (a4 : Nat → A4) (a5 : Nat → A5) (hs : ∀ i, i < N → ∀ m, F m (a1 (i + 1)) (a2 (i + 1)) (a3 (i + 1)) (a4 (i + 1)) (a5 (i + 1)) → F (m + 1) (a1 i) (a2 i) (a3 i) (a4 i) (a5 i)) (he : ∀ m, F (m + 1) (a1 N) (a2 N) (a3 N) (a4 N) (a5 N)) : ∃ n, F n (a1 0) (a2 0) (a3 0) (a4 0) (a5 0) := by
  have h : ∀ j, j ≤ N → F (j + 1) (a1 (N - j)) (a2 (N - j)) (a3 (N - j)) (a4 (N - j)) (a5 (N - j)) := by
    intro j
    induction j with
    | zero => intro _; exact he 0
    | succ j ih =>
      intro hj
      have h2 := hs (N - (j + 1)) (by omega) (j + 1)
      rw [show N - (j + 1) + 1 = N - j from by omega] at h2
      exact h2 (ih (by omega))
  have h3 := h N (Nat.le_refl N)
  rw [Nat.sub_self] at h3
  exact ⟨N + 1, h3⟩
theorem meas5 {A1 : Type} {A2 : Type} {A3 : Type} {A4 : Type} {A5 : Type} {F : Nat → A1 → A2 → A3 → A4 → A5 → Prop} (I : A1 → A2 → A3 → A4 → A5 → Prop) (μ : A1 → A2 → A3 → A4 → A5 → Nat) (h : ∀ (x1 : A1) (x2 : A2) (x3 : A3) (x4 : A4) (x5 : A5), I x1 x2 x3 x4 x5 → ∀ m, (∀ (y1 : A1) (y2 : A2) (y3 : A3) (y4 : A4) (y5 : A5), I y1 y2 y3 y4 y5 → μ y1 y2 y3 y4 y5 < μ x1 x2 x3 x4 x5 → F m y1 y2 y3 y4 y5) → F (m + 1) x1 x2 x3 x4 x5) (x1 : A1) (x2 : A2) (x3 : A3) (x4 : A4) (x5 : A5) (hI : I x1 x2 x3 x4 x5) : ∃ n, F n x1 x2 x3 x4 x5 := by
  have g : ∀ m, ∀ (y1 : A1) (y2 : A2) (y3 : A3) (y4 : A4) (y5 : A5), I y1 y2 y3 y4 y5 → μ y1 y2 y3 y4 y5 < m → F m y1 y2 y3 y4 y5 := by
    intro m
    induction m with
    | zero => intro y1 y2 y3 y4 y5 _ h1; omega
    | succ m ih =>
      intro y1 y2 y3 y4 y5 h1 h2
      exact h y1 y2 y3 y4 y5 h1 m (fun z1 z2 z3 z4 z5 h3 h4 => ih z1 z2 z3 z4 z5 h3 (by omega))
  exact ⟨μ x1 x2 x3 x4 x5 + 1, g (μ x1 x2 x3 x4 x5 + 1) x1 x2 x3 x4 x5 hI (Nat.lt_succ_self _)⟩
theorem run6 {A1 : Type} {A2 : Type} {A3 : Type} {A4 : Type} {A5 : Type} {A6 : Type} {F : Nat → A1 → A2 → A3 → A4 → A5 → A6 → Prop} (N : Nat) (a1 : Nat → A1) (a2 : Nat → A2) (a3 : Nat → A3) (a4 : Nat → A4) (a5 : Nat → A5) (a6 : Nat → A6) (hs : ∀ i, i < N → ∀ m, F m (a1 (i + 1)) (a2 (i + 1)) (a3 (i + 1)) (a4 (i + 1)) (a5 (i + 1)) (a6 (i + 1)) → F (m + 1) (a1 i) (a2 i) (a3 i) (a4 i) (a5 i) (a6 i)) (he : ∀ m, F (m + 1) (a1 N) (a2 N) (a3 N) (a4 N) (a5 N) (a6 N)) : ∃ n, F n (a1 0) (a2 0) (a3 0) (a4 0) (a5 0) (a6 0) := by
  have h : ∀ j, j ≤ N → F (j + 1) (a1 (N - j)) (a2 (N - j)) (a3 (N - j)) (a4 (N - j)) (a5 (N - j)) (a6 (N - j)) := by
    intro j
    induction j with
    | zero => intro _; exact he 0
    | succ j ih =>
      intro hj
      have h2 := hs (N - (j + 1)) (by omega) (j + 1)
      rw [show N - (j + 1) + 1 = N - j from by omega] at h2
      exact h2 (ih (by omega))
  have h3 := h N (Nat.le_refl N)
  rw [Nat.sub_self] at h3
  exact ⟨N + 1, h3⟩
theorem meas6 {A1 : Type} {A2 : Type} {A3 : Type} {A4 : Type} {A5 : Type} {A6 : Type} {F : Nat → A1 → A2 → A3 → A4 → A5 → A6 → Prop} (I : A1 → A2 → A3 → A4 → A5 → A6 → Prop) (μ : A1 → A2 → A3 → A4 → A5 → A6 → Nat) (h : ∀ (x1 : A1) (x2 : A2) (x3 : A3) (x4 : A4) (x5 : A5) (x6 : A6), I x1 x2 x3 x4 x5 x6 → ∀ m, (∀ (y1 : A1) (y2 : A2) (y3 : A3) (y4 : A4) (y5 : A5) (y6 : A6), I y1 y2 y3 y4 y5 y6 → μ y1 y2 y3 y4 y5 y6 < μ x1 x2 x3 x4 x5 x6 → F m y1 y2 y3 y4 y5 y6) → F (m + 1) x1 x2 x3 x4 x5 x6) (x1 : A1) (x2 : A2) (x3 : A3) (x4 : A4) (x5 : A5) (x6 : A6) (hI : I x1 x2 x3 x4 x5 x6) : ∃ n, F n x1 x2 x3 x4 x5 x6 := by
  have g : ∀ m, ∀ (y1 : A1) (y2 : A2) (y3 : A3) (y4 : A4) (y5 : A5) (y6 : A6), I y1 y2 y3 y4 y5 y6 → μ y1 y2 y3 y4 y5 y6 < m → F m y1 y2 y3 y4 y5 y6 := by
    intro m
    induction m with
    | zero => intro y1 y2 y3 y4 y5 y6 _ h1; omega
    | succ m ih =>
      intro y1 y2 y3 y4 y5 y6 h1 h2
      exact h y1 y2 y3 y4 y5 y6 h1 m (fun z1 z2 z3 z4 z5 z6 h3 h4 => ih z1 z2 z3 z4 z5 z6 h3 (by omega))
  exact ⟨μ x1 x2 x3 x4 x5 x6 + 1, g (μ x1 x2 x3 x4 x5 x6 + 1) x1 x2 x3 x4 x5 x6 hI (Nat.lt_succ_self _)⟩
theorem run7 {A1 : Type} {A2 : Type} {A3 : Type} {A4 : Type} {A5 : Type} {A6 : Type} {A7 : Type} {F : Nat → A1 → A2 → A3 → A4 → A5 → A6 → A7 → Prop} (N : Nat) (a1 : Nat → A1) (a2 : Nat → A2) (a3 : Nat → A3) (a4 : Nat → A4) (a5 : Nat → A5) (a6 : Nat → A6) (a7 : Nat → A7) (hs : ∀ i, i < N → ∀ m, F m (a1 (i + 1)) (a2 (i + 1)) (a3 (i + 1)) (a4 (i + 1)) (a5 (i + 1)) (a6 (i + 1)) (a7 (i + 1)) → F (m + 1) (a1 i) (a2 i) (a3 i) (a4 i) (a5 i) (a6 i) (a7 i)) (he : ∀ m, F (m + 1) (a1 N) (a2 N) (a3 N) (a4 N) (a5 N) (a6 N) (a7 N)) : ∃ n, F n (a1 0) (a2 0) (a3 0) (a4 0) (a5 0) (a6 0) (a7 0) := by
  have h : ∀ j, j ≤ N → F (j + 1) (a1 (N - j)) (a2 (N - j)) (a3 (N - j)) (a4 (N - j)) (a5 (N - j)) (a6 (N - j)) (a7 (N - j)) := by
    intro j
    induction j with
    | zero => intro _; exact he 0
    | succ j ih =>
      intro hj
      have h2 := hs (N - (j + 1)) (by omega) (j + 1)
      rw [show N - (j + 1) + 1 = N - j from by omega] at h2
      exact h2 (ih (by omega))
  have h3 := h N (Nat.le_refl N)
  rw [Nat.sub_self] at h3
  exact ⟨N + 1, h3⟩
theorem meas7 {A1 : Type} {A2 : Type} {A3 : Type} {A4 : Type} {A5 : Type} {A6 : Type} {A7 : Type} {F : Nat → A1 → A2 → A3 → A4 → A5 → A6 → A7 → Prop} (I : A1 → A2 → A3 → A4 → A5 → A6 → A7 → Prop) (μ : A1 → A2 → A3 → A4 → A5 → A6 → A7 → Nat) (h : ∀ (x1 : A1) (x2 : A2) (x3 : A3) (x4 : A4) (x5 : A5) (x6 : A6) (x7 : A7), I x1 x2 x3 x4 x5 x6 x7 → ∀ m, (∀ (y1 : A1) (y2 : A2) (y3 : A3) (y4 : A4) (y5 : A5) (y6 : A6) (y7 : A7), I y1 y2 y3 y4 y5 y6 y7 → μ y1 y2 y3 y4 y5 y6 y7 < μ x1 x2 x3 x4 x5 x6 x7 → F m y1 y2 y3 y4 y5 y6 y7) → F (m + 1) x1 x2 x3 x4 x5 x6 x7) (x1 : A1) (x2 : A2) (x3 : A3) (x4 : A4) (x5 : A5) (x6 : A6) (x7 : A7) (hI : I x1 x2 x3 x4 x5 x6 x7) : ∃ n, F n x1 x2 x3 x4 x5 x6 x7 := by
  have g : ∀ m, ∀ (y1 : A1) (y2 : A2) (y3 : A3) (y4 : A4) (y5 : A5) (y6 : A6) (y7 : A7), I y1 y2 y3 y4 y5 y6 y7 → μ y1 y2 y3 y4 y5 y6 y7 < m → F m y1 y2 y3 y4 y5 y6 y7 := by
    intro m
    induction m with
    | zero => intro y1 y2 y3 y4 y5 y6 y7 _ h1; omega
    | succ m ih =>
      intro y1 y2 y3 y4 y5 y6 y7 h1 h2
      exact h y1 y2 y3 y4 y5 y6 y7 h1 m (fun z1 z2 z3 z4 z5 z6 z7 h3 h4 => ih z1 z2 z3 z4 z5 z6 z7 h3 (by omega))
  exact ⟨μ x1 x2 x3 x4 x5 x6 x7 + 1, g (μ x1 x2 x3 x4 x5 x6 x7 + 1) x1 x2 x3 x4 x5 x6 x7 hI (Nat.lt_succ_self _)⟩
