theorem entF : ∀ v, v < 100 → (entry (nI 115) v >>> (nI 8 &&& 31) = nI 115 ∧ entry (nI 115) v &&& nI 255 = nI v) ∧ (entry (nI 103) v >>> (nI 8 &&& 31) = nI 103 ∧ entry (nI 103) v &&& nI 255 = nI v) ∧ (entry (nI 109) v >>> (nI 8 &&& 31) = nI 109 ∧ entry (nI 109) v &&& nI 255 = nI v) ∧ (entry (nI 112) v >>> (nI 8 &&& 31) = nI 112 ∧ entry (nI 112) v &&& nI 255 = nI v) ∧ (entry (nI 60) v >>> (nI 8 &&& 31) = nI 60 ∧ entry (nI 60) v &&& nI 255 = nI v) ∧ (entry (nI 62) v >>> (nI 8 &&& 31) = nI 62 ∧ entry (nI 62) v &&& nI 255 = nI v) := by decide +kernel
theorem entO : entry (nI 33) 0 >>> (nI 8 &&& 31) = nI 33 ∧ entry (nI 38) 0 >>> (nI 8 &&& 31) = nI 38 ∧ entry (nI 124) 0 >>> (nI 8 &&& 31) = nI 124 ∧ entry (nI 108) 0 >>> (nI 8 &&& 31) = nI 108 ∧ entry (nI 98) 0 >>> (nI 8 &&& 31) = nI 98 := by decide +kernel
theorem hrL : ∀ v, v < 100 → ∀ h, h < 32 → b32 ((nI 1 <<< ((if nI 24 < nI v then nI 24 else nI v) &&& 31)) - nI 1) h = decide (h < 24 ∧ h < v) := by decide +kernel
theorem hrG : ∀ v, v < 100 → ∀ h, h < 32 → b32 (nI 16777215 &&& ((-2) <<< ((if nI 24 < nI v then nI 24 else nI v) &&& 31))) h = decide (h < 24 ∧ v < h) := by decide +kernel
theorem hrA : ∀ h, h < 32 → b32 (nI 16777215) h = decide (h < 24) := by decide +kernel
/-- the hours at which it is so -/
def hrs (x : Int32) (f : Nat → Bool) : Prop := ∀ h, b32 x h = true ↔ h < 24 ∧ f h = true
theorem hrs_of {x : Int32} {f : Nat → Bool} (h : ∀ i, i < 32 → (b32 x i = true ↔ i < 24 ∧ f i = true)) : hrs x f := by
  intro i
  rcases Nat.lt_or_ge i 32 with q | q
  · exact h i q
  · rw [b32_hi _ _ q]
    exact ⟨fun z => absurd z (by decide), fun z => by omega⟩
theorem hrs_const {c : Prop} [Decidable c] {f : Nat → Bool} (h : ∀ i, i < 24 → (f i = true ↔ c)) : hrs (if c then nI 16777215 else nI 0) f := by
  refine hrs_of (fun i hi => ?_)
  by_cases g : c
  · rw [if_pos g, hrA i hi, decide_eq_true_eq]
    exact ⟨fun z => ⟨z, (h i z).mpr g⟩, fun z => z.1⟩
  · rw [if_neg g, b32_0]
    exact ⟨fun z => absurd z (by decide), fun z => absurd ((h i z.1).mp z.2) g⟩
theorem cls_facth {gr s : Nat → Int32} {B v : Nat} {sg : Int32} {Q : Int32 → Prop} (hgr : ∀ i, i < 30 → gr i = s (20 + i)) (hB : B < 450) (hv : v < 100) (hsg : sg = nI 115 ∨ sg = nI 103 ∨ sg = nI 109 ∨ sg = nI 112 ∨ sg = nI 60 ∨ sg = nI 62) (hQ : ∀ y, hrs y (fun h => factSem sg v (gS s) (24 * B + h)) → Q y) : wp_X5_factHours sg (nI v) (nI B) gr Q := by
  unfold wp_X5_factHours
  intro x hx
  rw [pk_div (a := B) (by omega) (by omega) (by omega), pk_rem (by omega) (by omega) (by omega)] at hx
  subst hx
  have fs : ∀ h, h < 24 → factSem sg v (gS s) (24 * B + h) = (if sg = nI 115 then decide (B / 150 = v) else if sg = nI 103 then decide (s (20 + B / 5 % 30) = nI v) else if sg = nI 109 then decide (B % 5 = v) else if sg = nI 112 then decide (B / 5 % 30 = v) else if sg = nI 60 then decide (h < v) else decide (v < h)) := by
    intro h hh
    unfold factSem gS
    rw [show (24 * B + h) / 3600 = B / 150 by omega, show (24 * B + h) / 120 % 30 = B / 5 % 30 by omega, show (24 * B + h) / 24 % 5 = B % 5 by omega, show (24 * B + h) % 24 = h by omega, Nat.mod_mod]
  have e150 : nI B / nI 150 = nI (B / 150) := pk_div (by omega) (by omega) (by omega)
  have e5 : nI B - nI B / nI 5 * nI 5 = nI (B % 5) := pk_rem (by omega) (by omega) (by omega)
  refine ⟨fun h1 => ?_, fun h1 => ⟨vp_in_nI (by omega) (by omega), fun y hy => ?_⟩, fun h1 y hy => ?_, fun h1 y hy => ?_, fun h1 y hy => ?_, fun n1 n2 n3 n4 n5 => ?_⟩
  · refine hQ _ (hrs_of (fun i hi => ?_))
    rw [hrL v hv i hi, decide_eq_true_eq]
    constructor
    · rintro ⟨a, b⟩
      refine ⟨a, ?_⟩
      show factSem sg v (gS s) (24 * B + i) = true
      rw [fs i a, h1, if_neg (by decide), if_neg (by decide), if_neg (by decide), if_neg (by decide), if_pos rfl]
      exact decide_eq_true b
    · rintro ⟨a, b⟩
      have b2 : factSem sg v (gS s) (24 * B + i) = true := b
      rw [fs i a, h1, if_neg (by decide), if_neg (by decide), if_neg (by decide), if_neg (by decide), if_pos rfl] at b2
      exact ⟨a, of_decide_eq_true b2⟩
  · rw [hy, nI_clamp (by omega), hgr _ (by omega)]
    refine hQ _ (hrs_const (fun i hi => ?_))
    show factSem sg v (gS s) (24 * B + i) = true ↔ _
    rw [fs i hi, h1, if_neg (by decide), if_pos rfl, decide_eq_true_eq]
  · rw [hy]
    refine hQ _ (hrs_const (fun i hi => ?_))
    show factSem sg v (gS s) (24 * B + i) = true ↔ _
    rw [fs i hi, h1, if_neg (by decide), if_neg (by decide), if_pos rfl, decide_eq_true_eq, e5, nI_nateq (by omega) (by omega)]
  · rw [hy]
    refine hQ _ (hrs_const (fun i hi => ?_))
    show factSem sg v (gS s) (24 * B + i) = true ↔ _
    rw [fs i hi, h1, if_neg (by decide), if_neg (by decide), if_neg (by decide), if_pos rfl, decide_eq_true_eq, nI_nateq (by omega) (by omega)]
  · rw [hy]
    refine hQ _ (hrs_const (fun i hi => ?_))
    show factSem sg v (gS s) (24 * B + i) = true ↔ _
    rw [fs i hi, h1, if_pos rfl, decide_eq_true_eq, e150, nI_nateq (by omega) (by omega)]
  · have h1 : sg = nI 62 := by
      rcases hsg with h | h | h | h | h | h
      · exact absurd h n5
      · exact absurd h n2
      · exact absurd h n3
      · exact absurd h n4
      · exact absurd h n1
      · exact h
    refine hQ _ (hrs_of (fun i hi => ?_))
    rw [hrG v hv i hi, decide_eq_true_eq]
    constructor
    · rintro ⟨a, b⟩
      refine ⟨a, ?_⟩
      show factSem sg v (gS s) (24 * B + i) = true
      rw [fs i a, h1, if_neg (by decide), if_neg (by decide), if_neg (by decide), if_neg (by decide), if_neg (by decide)]
      exact decide_eq_true b
    · rintro ⟨a, b⟩
      have b2 : factSem sg v (gS s) (24 * B + i) = true := b
      rw [fs i a, h1, if_neg (by decide), if_neg (by decide), if_neg (by decide), if_neg (by decide), if_neg (by decide)] at b2
      exact ⟨a, of_decide_eq_true b2⟩
