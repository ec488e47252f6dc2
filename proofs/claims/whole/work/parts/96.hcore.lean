theorem core_force {today : Int32} {rights : Nat → Option Nat} {count : Int32} {leans : Nat → Int64} {heardOn : Nat → Int32} {overruled : Int64} {termDays step : Int32} {R_L : List Nat} {R_kind R_number R_side R_n R_cell R_day R_ruling R_share : Nat → Int32} {gr stack hd lt tape T_number T_tongue T_day s fallen held stands letBy letStamp : Nat → Int32} {today0 bytes tc top k0 kr ks kw ko ka stamp p1 p2 p3 : Int32} {texts ruling T_code : Nat → Option Nat} {standing : Int64} {T_L C_L : List Nat} {C_len : Nat → Nat} {C_row : Nat → Nat → Int32} {n : Nat} {R : (Nat → Int32) → (Nat → Int32) → Prop} (hL : ILand gr today0 tape bytes texts tc T_L T_number T_tongue T_day T_code C_L C_len C_row s) (hC : ICourt today rights count leans heardOn overruled termDays step R_L R_kind R_number R_side R_n R_cell R_day R_ruling R_share s) (hT : ICacheT n letBy letStamp stamp s) (hn : n < 512) (hR : ∀ lb ls, ICacheT (n + 1) lb ls stamp s → R lb ls) : wp_X11_force p1 p2 p3 gr texts tc rights count leans heardOn overruled ruling standing stack top hd lt k0 R_L R_kind R_n R_cell R_ruling T_L T_tongue T_day T_code C_L C_len C_row (fun r _ _ _ _ _ _ _ => wp_X12_force p1 p2 p3 s kr ks kw ko ka letBy letStamp stamp fallen held stands (fun r' _ _ _ _ _ lb ls _ _ _ => r = r' ∧ R lb ls)) := by
  have h0 := hR letBy letStamp (ICacheT_mono hT)
  obtain ⟨hg, -, -, -, -, -, t, ht, rfl, h1, hx0⟩ := hL
  have hm0 := hC.2.2
  obtain ⟨-, r, -, hr, ec, -⟩ := id hm0
  subst ec
  have hm := hm0
  obtain ⟨h2, -, -⟩ := ICm_M hm hr
  have hx : lawT texts T_L T_number T_tongue T_day T_code C_L C_len C_row s t := fun i hi => by
    obtain ⟨a, c, x1, x2, x3, x4, -, x6, -, x8, x9, x10⟩ := hx0 i hi
    exact ⟨a, c, x1, x2, x3, x4, x6, x8, x9, x10⟩
  have hs : ∀ i, i < t → ∃ c, SlotOK s i c := fun i hi => by
    obtain ⟨a, c, -, -, -, -, -, -, -, x10⟩ := hx i hi
    exact SlotOK_T x10
  have hgr : ∀ i, i < 30 → gr i = s (20 + i) := fun i hi => (hg i hi).1
  unfold wp_X11_force wp_X12_force
  unfold f_X11_isTongue f_X11_isAct f_X11_isDay f_X12_isDay
  rw [within_eq p1, within_eq p2, within_eq p3]
  rcases in_cases p1 0 3 (by decide) (by decide) with ⟨g1, q1⟩ | ⟨g1, p, -, hp, rfl⟩
  · rcases in_cases p1 0 2 (by decide) (by decide) with ⟨g0, -⟩ | ⟨g0, p, -, hp, rfl⟩
    · rw [g0, g1]
      exact ⟨fun _ => ⟨fun z => absurd rfl z, fun _ => ⟨rfl, h0⟩⟩, fun z => absurd ⟨rfl, q1 3 (by omega) (by omega)⟩ z⟩
    · exact absurd rfl (q1 p (by omega) (by omega))
  have n3 : ¬ (f_X12_in (nI p) (nI 0) (nI 2) = 0 ∧ ¬ nI p = nI 3) := by
    rcases in_cases (nI p) 0 2 (by decide) (by decide) with ⟨-, q⟩ | ⟨g0, -⟩
    · intro z
      refine z.2 ?_
      rcases Nat.lt_or_ge p 3 with w | w
      · exact absurd rfl (q p (by omega) (by omega))
      · rw [show p = 3 from by omega]
    · rw [g0]
      exact fun z => absurd z.1 (by decide)
  rw [g1]
  refine ⟨fun z => absurd z n3, fun _ => ?_⟩
  rcases in_cases p2 0 10799 (by decide) (by decide) with ⟨g2, -⟩ | ⟨g2, a, -, ha, rfl⟩
  · rw [g2]
    exact ⟨fun _ => ⟨fun _ => ⟨fun _ => ⟨rfl, h0⟩, fun z => absurd (Or.inl rfl) z⟩, fun z => absurd z (by decide)⟩, fun z => absurd (Or.inl rfl) z⟩
  rcases in_cases p3 0 999 (by decide) (by decide) with ⟨g3, -⟩ | ⟨g3, d, -, hd3, rfl⟩
  · rw [g2, g3]
    exact ⟨fun _ => ⟨fun _ => ⟨fun _ => ⟨rfl, h0⟩, fun z => absurd (Or.inr rfl) z⟩, fun z => absurd z (by decide)⟩, fun z => absurd (Or.inr rfl) z⟩
  rw [g2, g3]
  have nn : ¬ (nI 1 = 0 ∨ nI 1 = 0) := by decide
  refine ⟨fun z => absurd z nn, fun _ => cls_openOn hm hr ht hx (fun ru y hru hy => ?_)⟩
  have hy2 : ∀ i, bitL y i = true → i < r ∧ s (1310 + i) = nI 6 := fun i hi => ((hy i).mp hi).1.1
  have look : ∀ K : (Nat → Int32) → (Nat → Int32) → (Nat → Int32) → Prop, (∀ f h st, (∀ i, i < r → isB (st i) (bitL y i = true)) → K f h st) → wp_X12_looks s fallen held stands K := by
    intro K hK
    refine mod_looks hm hr (fun f h st _ _ q => hK f h st (fun i hi => ?_))
    have e : (((i < r ∧ s (1310 + i) = nI 6) ∧ ¬ Cl r (Mx leans) (Sx overruled) i) ∧ ¬ Cl r (Mx leans) (HS r s) i) = (bitL y i = true) := propext (hy i).symm
    rw [← e]
    exact q i (by omega)
  refine ⟨fun np => ?_, fun ep => ?_⟩
  · have p3 : p < 3 := by
      rw [nI_nateq (by omega) (by omega)] at np
      omega
    refine cls_tongueLets hgr hx (by omega) p3 (fun m hm => txS_lt _ _ hm) (hru p p3) (fun st top hd lt k => ?_)
    unfold wk_X11_force_64
    rw [asIntb]
    refine ⟨fun _ => ⟨fun z => absurd z nn, fun _ => look _ (fun f h st hst => ⟨fun _ => ?_, fun z => absurd z np⟩)⟩, fun z => absurd z (by decide)⟩
    refine mod_letsBy (by omega) (by omega) h1 hs (by omega) hT (fun k1 k2 k3 k4 k5 lb ls hc x hx => ?_)
    rw [bnz] at hx
    exact ⟨hx.symm, hR _ _ (ICacheT_mono hc)⟩
  · refine cls_cityLets hm hr hgr hx (by omega) hru hy2 (fun st top hd lt k => ?_)
    unfold wk_X11_force_64
    rw [asIntb]
    refine ⟨fun _ => ⟨fun z => absurd z nn, fun _ => look _ (fun f h st hst => ⟨fun z => absurd ep z, fun _ => ?_⟩)⟩, fun z => absurd z (by decide)⟩
    refine mod_lets (by omega) (by omega) h1 hs (by omega) hT hr h2 hst hy2 (fun k1 k2 k3 k4 k5 lb ls hc x hx => ?_)
    rw [bnz] at hx
    exact ⟨hx.symm, hR _ _ (ICacheT_mono hc)⟩
