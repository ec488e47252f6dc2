/-- these bits and no others must be answered yes, that the first n wishes are met -/
def neB (s : Nat → Int32) (y : Int64) (r t q n : Nat) (v : Int32) : Prop := (∀ k, b32 v k = true → k < 6) ∧ ∀ p, (∀ k, b32 v k = true → b32 p k = true) ↔ ∀ j, j < n → meF s y r t q p (waS s j) = true
theorem neB_m5 {s : Nat → Int32} {y : Int64} {r t q n : Nat} {v : Int32} (h : neB s y r t q n v) : ¬ v = -5 := by
  intro e
  rw [e] at h
  have := h.1 10 (by decide)
  omega
theorem and_sub (p v : Int32) : p &&& v = v ↔ ∀ k, b32 v k = true → b32 p k = true := by
  constructor
  · intro h k hk
    rw [← h, b32_and, Bool.and_eq_true] at hk
    exact hk.1
  · intro h
    refine b32_ext (fun k _ => ?_)
    rw [b32_and]
    cases e : b32 v k
    · exact Bool.and_false _
    · rw [h k e]; rfl
theorem cls_needed {today : Int32} {rights : Nat → Option Nat} {leans : Nat → Int64} {heardOn : Nat → Int32} {overruled : Int64} {R_L : List Nat} {R_kind R_number R_side R_n R_cell R_day R_ruling R_share : Nat → Int32} {s : Nat → Int32} {r t q w : Nat} {d : Int32} {gr cells wa stack hd lt : Nat → Int32} {top k : Int32} {texts ruling T_code : Nat → Option Nat} {T_L : List Nat} {T_number T_tongue T_day : Nat → Int32} {C_L : List Nat} {C_len : Nat → Nat} {C_row : Nat → Nat → Int32} {Q : Int32 → (Nat → Option Nat) → Int64 → (Nat → Int32) → Int32 → (Nat → Int32) → (Nat → Int32) → Int32 → Prop} (hm : ICm today rights (nI r) leans heardOn overruled R_L R_kind R_number R_side R_n R_cell R_day R_ruling R_share s) (hr : r ≤ 50) (ht : t ≤ 15) (hd0 : d = s 0) (hgr : ∀ i, i < 30 → gr i = s (20 + i)) (hx : lawT texts T_L T_number T_tongue T_day T_code C_L C_len C_row s t) (hq : q ≤ 6) (hc : ∀ i, i < q → ∃ p m, p < 30 ∧ m < 5 ∧ s (560 + i) = nI p ∧ s (566 + i) = nI m ∧ cells i = nI (p * 5 + m)) (hw : w ≤ 10) (hwa : ∀ i, i < w → wa i = s (1172 + i) ∧ isN (s (1172 + i)) 10799) (hQ : ∀ y ru st top hd lt k v, (∀ i, bitL y i = true ↔ ((i < r ∧ s (1310 + i) = nI 6) ∧ ¬ Cl r (Mx leans) (Sx overruled) i) ∧ ¬ Cl r (Mx leans) (fun j => j < 2 ^ 31 ∧ HU r s j) i) → (neB s y r t q w v ∨ v = -5 ∧ ∃ i, i < w ∧ ∀ p, meF s y r t q p (waS s i) = false) → Q v ru y st top hd lt k) : wp_X11_neededAnswers gr d texts (nI t) rights (nI r) leans heardOn overruled cells (nI q) wa (nI w) ruling stack top hd lt k R_L R_kind R_n R_cell R_ruling T_L T_tongue T_day T_code C_L C_len C_row Q := by
  unfold wp_X11_neededAnswers
  subst hd0
  refine cls_openOn hm hr ht hx (fun ru y hru hy => ?_)
  have hy2 : ∀ i, bitL y i = true → i < r ∧ s (1310 + i) = nI 6 := fun i hi => ((hy i).mp hi).1.1
  have step : ∀ m i v st top hd lt k, i + m = w → neB s y r t q i v → wl_X11_neededAnswers_21 gr rights (nI r) cells (nI q) wa (nI w) R_L R_n R_cell T_L T_code C_L C_len C_row Q ru y (m + 1) v (nI i) st top hd lt k := by
    intro m
    induction m with
    | zero =>
      intro i v st top hd lt k hi hv
      rw [wl_X11_neededAnswers_21]
      unfold wb_X11_neededAnswers_21
      have e : i = w := hi
      rw [e] at hv ⊢
      exact ⟨fun _ => hQ _ _ _ _ _ _ _ _ hy (Or.inl hv), fun z => absurd (Int32.le_refl _) z⟩
    | succ m ih =>
      intro i v st top hd lt k hi hv
      rw [wl_X11_neededAnswers_21]
      unfold wb_X11_neededAnswers_21
      obtain ⟨ewa, a, ha, ea⟩ := hwa i (by omega)
      have ew : waS s i = a := by
        unfold waS
        rw [ea, nI_clamp (by omega)]
      rw [nI_clamp (by omega), ewa, ea, nI_add]
      refine ⟨fun z => absurd z (by rw [nI_natle (by omega) (by omega)]; omega), fun _ => ⟨vp_in_nI (by omega) (by omega), fun x hx2 => ?_⟩⟩
      rw [hx2, pk_div (a := a) (d := 24) (by omega) (by omega) (by omega), pk_rem (a := a / 24) (d := 150) (by omega) (by omega) (by omega)]
      refine cls_questionAbout hq hc ?_
      cases e2 : lastK (qbS s (a / 24)) q with
      | none =>
        refine ⟨fun _ => ?_, fun z => absurd (by decide) z⟩
        have em : ∀ p, meF s y r t q p (waS s i) = ctF s y r t (s 0) a := by
          intro p
          rw [ew]
          unfold meF
          rw [e2]
        refine cls_cityLets hm hr hgr hx (by omega) hru hy2 (fun st top hd lt k => ⟨fun z => ?_, fun z => ?_⟩)
        · have b1 : ctF s y r t (s 0) a = true := by
            cases e : ctF s y r t (s 0) a
            · rw [e] at z
              exact absurd (of_eq_true nI0eq) z
            · rfl
          refine ih (i + 1) v _ _ _ _ _ (by omega) ⟨hv.1, fun p => ?_⟩
          rw [hv.2 p]
          refine ⟨fun g j hj => ?_, fun g j hj => g j (by omega)⟩
          by_cases ej : j = i
          · rw [ej, em p, b1]
          · exact g j (by omega)
        · have b0 : ctF s y r t (s 0) a = false := by
            rw [nIb0] at z
            exact z
          exact hQ _ _ _ _ _ _ _ _ hy (Or.inr ⟨rfl, i, by omega, fun p => by rw [em p, b0]⟩)
      | some j =>
        have hj := (lastK_lt _ _ e2).1
        have em : ∀ p, meF s y r t q p (waS s i) = b32 p j := by
          intro p
          rw [ew]
          unfold meF
          rw [e2]
        refine ⟨fun z => absurd z (nI_pos (by omega)), fun _ x hx3 => ?_⟩
        rw [hx3]
        have bb : ∀ k, b32 (v ||| nI 1 <<< (oI (some j) &&& 31)) k = true ↔ b32 v k = true ∨ k = j := by
          intro k
          rw [b32_or, show oI (some j) = nI j from rfl, b32_one j k (by omega), Bool.or_eq_true, decide_eq_true_eq]
        refine ih (i + 1) _ _ _ _ _ _ (by omega) ⟨fun k hk => ?_, fun p => ?_⟩
        · rcases (bb k).mp hk with z | z
          · exact hv.1 k z
          · omega
        · constructor
          · intro g j' hj'
            by_cases ej : j' = i
            · rw [ej, em p]
              exact g j ((bb j).mpr (Or.inr rfl))
            · exact (hv.2 p).mp (fun k hk => g k ((bb k).mpr (Or.inl hk))) j' (by omega)
          · intro g k hk
            rcases (bb k).mp hk with z | z
            · exact (hv.2 p).mpr (fun j' hj' => g j' (by omega)) k z
            · rw [z, ← em p]
              exact g i (by omega)
  refine ⟨_, step w 0 (nI 0) _ _ _ _ _ (by omega) ⟨fun k hk => ?_, fun p => ⟨fun _ j hj => by omega, fun _ k hk => ?_⟩⟩⟩
  · rw [b32_0] at hk; cases hk
  · rw [b32_0] at hk; cases hk
