theorem core_judge {today : Int32} {rights : Nat → Option Nat} {count : Int32} {leans : Nat → Int64} {heardOn : Nat → Int32} {overruled : Int64} {termDays step : Int32} {R_L : List Nat} {R_kind R_number R_side R_n R_cell R_day R_ruling R_share : Nat → Int32} {gr stack hd lt tape T_number T_tongue T_day s fallen held stands falling letBy letStamp cells wa : Nat → Int32} {today0 bytes tc top k0 kr ks kw ko ka stamp p1 p2 qc wc : Int32} {texts ruling T_code : Nat → Option Nat} {standing : Int64} {fl fn : Nat → Int64} {T_L C_L : List Nat} {C_len : Nat → Nat} {C_row : Nat → Nat → Int32} {n : Nat} {R : (Nat → Int32) → (Nat → Int32) → Prop} (hL : ILand gr today0 tape bytes texts tc T_L T_number T_tongue T_day T_code C_L C_len C_row s) (hC : ICourt today rights count leans heardOn overruled termDays step R_L R_kind R_number R_side R_n R_cell R_day R_ruling R_share s) (hT : ICacheT n letBy letStamp stamp s) (hB : IBench cells fl fn qc wa wc s) (hn : n < 512) (hR : ∀ lb ls, ICacheT (n + 1) lb ls stamp s → R lb ls) : wp_X11_judge p1 p2 gr today0 texts tc rights count leans heardOn overruled cells fl fn qc wa wc ruling standing stack top hd lt k0 R_L R_kind R_n R_cell R_ruling T_L T_tongue T_day T_code C_L C_len C_row (fun r _ _ _ _ _ _ _ => wp_X12_judge p1 p2 s kr ks kw ko ka letBy letStamp stamp fallen held stands falling (fun r' _ _ _ _ _ lb ls _ _ _ _ => r = r' ∧ R lb ls)) := by
  have h0 := hR letBy letStamp (ICacheT_mono hT)
  obtain ⟨hg, htd, -, -, -, -, t, ht, rfl, h1, hx0⟩ := hL
  have hm0 := hC.2.2
  obtain ⟨-, r, -, hr, ec, -⟩ := id hm0
  subst ec
  have hm := hm0
  obtain ⟨h2, hM, hMr⟩ := ICm_M hm hr
  have hx : lawT texts T_L T_number T_tongue T_day T_code C_L C_len C_row s t := fun i hi => by
    obtain ⟨a, c, x1, x2, x3, x4, -, x6, -, x8, x9, x10⟩ := hx0 i hi
    exact ⟨a, c, x1, x2, x3, x4, x6, x8, x9, x10⟩
  have hs : ∀ i, i < t → ∃ c, SlotOK s i c := fun i hi => by
    obtain ⟨a, c, -, -, -, -, -, -, -, x10⟩ := hx i hi
    exact SlotOK_T x10
  have hgr : ∀ i, i < 30 → gr i = s (20 + i) := fun i hi => (hg i hi).1
  obtain ⟨⟨q, hq, eq1, h8, hqs⟩, w, hw, ew1, h9, hwa⟩ := hB
  subst eq1 ew1
  have look : ∀ (y : Int64), (∀ i, bitL y i = true ↔ ((i < r ∧ s (1310 + i) = nI 6) ∧ ¬ Cl r (Mx leans) (Sx overruled) i) ∧ ¬ Cl r (Mx leans) (fun j => j < 2 ^ 31 ∧ HU r s j) i) → ∀ K : (Nat → Int32) → (Nat → Int32) → (Nat → Int32) → Prop, (∀ f h st, (∀ i, i < 50 → isB (st i) (bitL y i = true)) → K f h st) → wp_X12_looks s fallen held stands K := by
    intro y hy K hK
    refine mod_looks hm hr (fun f h st _ _ q => hK f h st (fun i hi => ?_))
    have e : (((i < r ∧ s (1310 + i) = nI 6) ∧ ¬ Cl r (Mx leans) (Sx overruled) i) ∧ ¬ Cl r (Mx leans) (HS r s) i) = (bitL y i = true) := propext (hy i).symm
    rw [← e]
    exact q i hi
  unfold wp_X11_judge wp_X12_judge
  rw [within_eq p1, within_eq p2, h8]
  rw [show f_X0_allAnswers (nI q) = (nI 1 <<< (nI q &&& 31)) - nI 1 from rfl]
  by_cases g2 : f_X12_in p2 (nI 0) (nI 1) = 0
  · exact ⟨fun z => absurd g2 z, fun _ => ⟨fun z => absurd g2 z, fun _ => ⟨rfl, h0⟩⟩⟩
  by_cases g1 : f_X12_in p1 (nI 0) ((nI 1 <<< (nI q &&& 31)) - nI 1) = 0
  · exact ⟨fun _ => ⟨fun z => absurd g1 z, fun _ => ⟨fun _ => ⟨fun z => absurd g1 z, fun _ => ⟨rfl, h0⟩⟩, fun z => absurd z g2⟩⟩, fun z => absurd z g2⟩
  refine ⟨fun _ => ⟨fun _ => ⟨fun n2 => ?_, fun e2 => ?_⟩, fun z => absurd z g1⟩, fun z => absurd z g2⟩
  · refine cls_standing hm hr (fun y hy => ?_)
    have hy2 : ∀ i, bitL y i = true → i < r := fun i hi => ((hy i).mp hi).1.1.1
    refine cls_fallsBy hr hq (fun k hk i hi => (hqs k hk).2 i hi) hy2 (fun z x hx1 hz => ?_)
    refine ⟨fun _ => ⟨fun _ => look y hy _ (fun f h st hst => ⟨fun _ => ?_, fun e => absurd e n2⟩), fun e => absurd e g1⟩, fun e => absurd e g2⟩
    refine mod_fallsBy (M := Mx leans) (y := y) hr h2 hM hMr hq h8 hst (fun f' _ z' hz' => ⟨?_, h0⟩)
    congr 1
    refine popS_congr 50 (fun i hi => ?_)
    have low : ∀ S T : Nat → Prop, (∀ j, j < 50 → S j → T j) → Cl r (Mx leans) S i → Cl r (Mx leans) T i := by
      intro S T hST c
      exact c (fun i => i < 50 → Cl r (Mx leans) T i) (fun j hj h5 => Cl_seed (hST j h5 hj)) (fun a b ha hb hP h5 => Cl_step ha hb (hP (by have := hMr a b ha hb; omega))) hi
    have e : bitL z i = z' i := by
      have a1 : bitL z i = true ↔ z' i = true := by
        rw [hz i, hz' i hi]
        exact ⟨low _ _ (fun j hj hs => by rw [← hx1 j hj]; exact hs), low _ _ (fun j hj hs => by rw [hx1 j hj]; exact hs)⟩
      cases u : bitL z i <;> cases v : z' i <;> simp [u, v] at a1 ⊢
    show (if (bitL z i && bitL y i) = true then 1 else 0) = (if (z' i && bitL y i) = true then 1 else 0)
    rw [e]
  · refine cls_metBy hm hr ht htd.1 hgr hx hq (fun i hi => (hqs i hi).1) hw hwa (fun y ru st top hd lt k hy => ?_)
    have hy2 : ∀ i, bitL y i = true → i < r ∧ s (1310 + i) = nI 6 := fun i hi => ((hy i).mp hi).1.1
    refine ⟨fun _ => ⟨fun _ => look y hy _ (fun f h st hst => ⟨fun e => absurd e2 e, fun _ => ?_⟩), fun e => absurd e g1⟩, fun e => absurd e g2⟩
    exact mod_metBy (by omega) (by omega) h1 hs hT hr h2 (fun i hi => hst i (by omega)) hy2 hq h8 hw h9 (fun i hi => (hwa i hi).2) (fun k1 k2 k3 k4 k5 lb ls hc => ⟨rfl, hR _ _ (ICacheT_mono hc)⟩)
