/-- how many standing rulings fall by these answers -/
noncomputable def fcN (s : Nat → Int32) (M : Nat → Nat → Bool) (r q : Nat) (y : Int64) (p : Int32) : Nat := popS (bN (fun i => @decide (Cl r M (fun i => fbB s p i q = true) i) (Classical.propDecidable _) && bitL y i)) 50
theorem fcN_le {s : Nat → Int32} {M : Nat → Nat → Bool} {r q : Nat} {y : Int64} {p : Int32} : fcN s M r q y p ≤ 50 := popS_le (fun i => by unfold bN; split <;> omega) 50
theorem fcN_eq {s : Nat → Int32} {M : Nat → Nat → Bool} {r q : Nat} {y : Int64} {p : Int32} {z : Nat → Bool} (h : ∀ i, i < 50 → (z i = true ↔ Cl r M (fun i => fbB s p i q = true) i)) : popS (bN (fun i => z i && bitL y i)) 50 = fcN s M r q y p := by
  unfold fcN
  refine popS_congr 50 (fun i hi => ?_)
  have e : z i = @decide (Cl r M (fun i => fbB s p i q = true) i) (Classical.propDecidable _) := by
    cases u : z i
    · refine (@decide_eq_false _ (Classical.propDecidable _) (fun c => ?_)).symm
      rw [(h i hi).mpr c] at u
      cases u
    · exact (@decide_eq_true _ (Classical.propDecidable _) ((h i hi).mp u)).symm
  show (if (z i && bitL y i) = true then 1 else 0) = (if (_ && bitL y i) = true then 1 else 0)
  rw [e]
theorem Cl_low {r : Nat} {M : Nat → Nat → Bool} {S T : Nat → Prop} (hr : r ≤ 50) (hMr : ∀ i j, i < r → M i j = true → j < r) (hST : ∀ j, j < 50 → S j → T j) {i : Nat} (hi : i < 50) (c : Cl r M S i) : Cl r M T i := c (fun i => i < 50 → Cl r M T i) (fun j hj h5 => Cl_seed (hST j h5 hj)) (fun a b ha hb hP _ => Cl_step ha hb (hP (by have := hMr a b ha hb; omega))) hi
theorem cls_falls2 {r q : Nat} {leans fl fn : Nat → Int64} {s : Nat → Int32} {p : Int32} {y : Int64} {Q : Int32 → Prop} (hr : r ≤ 50) (hq : q ≤ 6) (hf : ∀ k, k < q → ∀ i, i < 50 → s (572 + 50 * k + i) = nI (if bitL (fl k) i then 1 else 0) ∧ s (872 + 50 * k + i) = nI (if bitL (fn k) i then 1 else 0)) (hy : ∀ i, bitL y i = true → i < r) (hMr : ∀ i j, i < r → Mx leans i j = true → j < r) (hQ : Q (nI (fcN s (Mx leans) r q y p))) : wp_X11_fallsBy p y (nI r) leans fl fn (nI q) Q := by
  refine cls_fallsBy hr hq hf hy (fun z x hx hz => ?_)
  rw [fcN_eq (s := s) (M := Mx leans) (r := r) (q := q) (p := p) (fun i hi => ?_)]
  · exact hQ
  · rw [hz i]
    exact ⟨Cl_low hr hMr (fun j hj hs => by rw [← hx j hj]; exact hs) hi, Cl_low hr hMr (fun j hj hs => by rw [hx j hj]; exact hs) hi⟩
/-- the best of the first n: of those that serve, the one with fewest, and of these the first -/
def bsK (P : Nat → Bool) (f : Nat → Nat) : Nat → Option Nat
  | 0 => none
  | n + 1 => if P n then (match bsK P f n with
      | none => some n
      | some m => if f m ≤ f n then some m else some n) else bsK P f n
def o5 : Option Nat → Int32
  | none => -5
  | some k => nI k
def oF (f : Nat → Nat) (d : Nat) : Option Nat → Nat
  | none => d
  | some k => f k
theorem bsK_none {P : Nat → Bool} {f : Nat → Nat} : ∀ n, (∀ i, i < n → P i = false) → bsK P f n = none := by
  intro n
  induction n with
  | zero => intro _; rfl
  | succ n ih =>
    intro h
    rw [bsK, if_neg (by rw [h n (by omega)]; decide)]
    exact ih (fun i hi => h i (by omega))
theorem popS_full {g : Nat → Bool} : ∀ w, popS (bN g) w = w ↔ ∀ j, j < w → g j = true := by
  intro w
  have le : ∀ n, popS (bN g) n ≤ n := popS_le (fun i => by unfold bN; split <;> omega)
  induction w with
  | zero => exact ⟨fun _ j hj => by omega, fun _ => rfl⟩
  | succ w ih =>
    rw [popS]
    have l := le w
    unfold bN at l ih ⊢
    constructor
    · intro h j hj
      cases e : g w
      · rw [e] at h
        have h2 : popS (fun i => if g i = true then 1 else 0) w + 0 = w + 1 := h
        omega
      · rw [e] at h
        have h2 : popS (fun i => if g i = true then 1 else 0) w + 1 = w + 1 := h
        by_cases ej : j = w
        · rw [ej]; exact e
        · exact (ih.mp (by omega)) j (by omega)
    · intro h
      rw [ih.mpr (fun j hj => h j (by omega)), h w (by omega)]
      rfl
