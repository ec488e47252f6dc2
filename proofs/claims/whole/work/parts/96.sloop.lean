theorem mod_falls2 {r q : Nat} {M : Nat → Nat → Bool} {s stands falling : Nat → Int32} {p : Int32} {y : Int64} {Q : Int32 → (Nat → Int32) → Prop} (hr : r ≤ 50) (h2 : s 2 = nI r) (hM : ∀ i, i < r → ∀ j, j < 50 → s (1910 + 50 * i + j) = nI (if M i j then 1 else 0)) (hMr : ∀ i j, i < r → M i j = true → j < r) (hq : q ≤ 6) (h8 : s 8 = nI q) (hst : ∀ i, i < 50 → isB (stands i) (bitL y i = true)) (hQ : ∀ f', Q (nI (fcN s M r q y p)) f') : wp_X12_fallsBy p s stands falling Q := by
  refine mod_fallsBy hr h2 hM hMr hq h8 hst (fun f' _ z hz => ?_)
  rw [fcN_eq hz]
  exact hQ f'
theorem bsK_lt {P : Nat → Bool} {f : Nat → Nat} : ∀ n k, bsK P f n = some k → k < n := by
  intro n
  induction n with
  | zero => intro k h; cases h
  | succ n ih =>
    intro k h
    rw [bsK] at h
    by_cases c : P n = true
    · rw [if_pos c] at h
      cases e : bsK P f n with
      | none =>
        rw [e] at h
        cases h
        omega
      | some m =>
        rw [e] at h
        have h2 : (if f m ≤ f n then some m else some n) = some k := h
        have := ih m e
        by_cases c2 : f m ≤ f n
        · rw [if_pos c2] at h2
          cases h2
          omega
        · rw [if_neg c2] at h2
          cases h2
          omega
    · rw [if_neg c] at h
      have := ih k h
      omega
