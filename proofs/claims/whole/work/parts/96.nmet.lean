theorem cls_metBy {today : Int32} {rights : Nat → Option Nat} {leans : Nat → Int64} {heardOn : Nat → Int32} {overruled : Int64} {R_L : List Nat} {R_kind R_number R_side R_n R_cell R_day R_ruling R_share : Nat → Int32} {s : Nat → Int32} {r t q w : Nat} {p d : Int32} {gr cells wa stack hd lt : Nat → Int32} {top k : Int32} {texts ruling T_code : Nat → Option Nat} {T_L : List Nat} {T_number T_tongue T_day : Nat → Int32} {C_L : List Nat} {C_len : Nat → Nat} {C_row : Nat → Nat → Int32} {Q : Int32 → (Nat → Option Nat) → Int64 → (Nat → Int32) → Int32 → (Nat → Int32) → (Nat → Int32) → Int32 → Prop} (hm : ICm today rights (nI r) leans heardOn overruled R_L R_kind R_number R_side R_n R_cell R_day R_ruling R_share s) (hr : r ≤ 50) (ht : t ≤ 15) (hd0 : d = s 0) (hgr : ∀ i, i < 30 → gr i = s (20 + i)) (hx : lawT texts T_L T_number T_tongue T_day T_code C_L C_len C_row s t) (hq : q ≤ 6) (hc : ∀ i, i < q → ∃ p m, p < 30 ∧ m < 5 ∧ s (560 + i) = nI p ∧ s (566 + i) = nI m ∧ cells i = nI (p * 5 + m)) (hw : w ≤ 10) (hwa : ∀ i, i < w → wa i = s (1172 + i) ∧ isN (s (1172 + i)) 10799) (hQ : ∀ y ru st top hd lt k, (∀ i, bitL y i = true ↔ ((i < r ∧ s (1310 + i) = nI 6) ∧ ¬ Cl r (Mx leans) (Sx overruled) i) ∧ ¬ Cl r (Mx leans) (fun j => j < 2 ^ 31 ∧ HU r s j) i) → Q (nI (meC s y r t q p w)) ru y st top hd lt k) : wp_X11_metBy p gr d texts (nI t) rights (nI r) leans heardOn overruled cells (nI q) wa (nI w) ruling stack top hd lt k R_L R_kind R_n R_cell R_ruling T_L T_tongue T_day T_code C_L C_len C_row Q := by
  unfold wp_X11_metBy
  subst hd0
  refine cls_openOn hm hr ht hx (fun ru y hru hy => ?_)
  have hy2 : ∀ i, bitL y i = true → i < r ∧ s (1310 + i) = nI 6 := fun i hi => ((hy i).mp hi).1.1
  have step : ∀ m i st top hd lt k, i + m = w → wl_X11_metBy_21 p gr rights (nI r) cells (nI q) wa (nI w) R_L R_n R_cell T_L T_code C_L C_len C_row Q ru y (m + 1) (nI (meC s y r t q p i)) (nI i) st top hd lt k := by
    intro m
    induction m with
    | zero =>
      intro i st top hd lt k hi
      rw [wl_X11_metBy_21]
      unfold wb_X11_metBy_21
      rw [show i = w from by omega]
      exact ⟨fun _ => hQ _ _ _ _ _ _ _ hy, fun z => absurd (Int32.le_refl _) z⟩
    | succ m ih =>
      intro i st top hd lt k hi
      rw [wl_X11_metBy_21]
      unfold wb_X11_metBy_21
      obtain ⟨ewa, a, ha, ea⟩ := hwa i (by omega)
      have ew : waS s i = a := by
        unfold waS
        rw [ea, nI_clamp (by omega)]
      have e : meC s y r t q p i + (if meF s y r t q p a = true then 1 else 0) = meC s y r t q p (i + 1) := by
        unfold meC
        rw [popS]
        congr 1
        show _ = if meF s y r t q p (waS s i) = true then 1 else 0
        rw [ew]
      have fin : ∀ (b : Bool) (v : Int32), b = meF s y r t q p a → (v = if b = false then nI (meC s y r t q p i) else nI (meC s y r t q p i + 1)) → v = nI (meC s y r t q p (i + 1)) := by
        intro b v hb hv
        rw [hv, ← e, hb]
        cases meF s y r t q p a
        · rfl
        · rw [if_neg (by decide)]; rfl
      rw [nI_clamp (by omega), ewa, ea, nI_add, nI_add]
      refine ⟨fun z => absurd z (by rw [nI_natle (by omega) (by omega)]; omega), fun _ => ⟨vp_in_nI (by omega) (by omega), fun x hx2 => ?_⟩⟩
      rw [hx2, pk_div (a := a) (d := 24) (by omega) (by omega) (by omega), pk_rem (a := a / 24) (d := 150) (by omega) (by omega) (by omega)]
      refine cls_questionAbout hq hc ?_
      cases e2 : lastK (qbS s (a / 24)) q with
      | none =>
        refine ⟨fun z => absurd z (by decide), fun _ => ?_⟩
        refine cls_cityLets hm hr hgr hx (by omega) hru hy2 (fun st top hd lt k v hv => ?_)
        rw [fin (ctF s y r t (s 0) a) v (by unfold meF; rw [e2]) (by rw [hv]; cases ctF s y r t (s 0) a <;> rfl)]
        exact ih (i + 1) _ _ _ _ _ (by omega)
      | some j =>
        have hj := (lastK_lt _ _ e2).1
        have n2 : (0 : Int32) ≤ oI (some j) := Int32.not_lt.mp (nI_pos (by omega))
        refine ⟨fun _ v hv => ?_, fun z => absurd n2 z⟩
        rw [fin (b32 p j) v (by unfold meF; rw [e2]) (by rw [hv, show oI (some j) = nI j from rfl, b32_test _ _ (by omega)]; cases b32 p j <;> rfl)]
        exact ih (i + 1) _ _ _ _ _ (by omega)
  exact ⟨_, step w 0 _ _ _ _ _ (by omega)⟩
