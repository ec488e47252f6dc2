theorem core_unlike {today : Int32} {rights : Nat → Option Nat} {count : Int32} {leans : Nat → Int64} {heardOn : Nat → Int32} {overruled : Int64} {termDays step : Int32} {R_L : List Nat} {R_kind R_number R_side R_n R_cell R_day R_ruling R_share : Nat → Int32} {gr stack hd lt tape T_number T_tongue T_day s letBy letStamp : Nat → Int32} {today0 bytes tc top k0 kr ks kw ko ka stamp p1 p2 p3 p4 : Int32} {texts ruling T_code : Nat → Option Nat} {standing : Int64} {T_L C_L : List Nat} {C_len : Nat → Nat} {C_row : Nat → Nat → Int32} {n : Nat} {R : (Nat → Int32) → (Nat → Int32) → Prop} (hL : ILand gr today0 tape bytes texts tc T_L T_number T_tongue T_day T_code C_L C_len C_row s) (hC : ICourt today rights count leans heardOn overruled termDays step R_L R_kind R_number R_side R_n R_cell R_day R_ruling R_share s) (hT : ICacheT n letBy letStamp stamp s) (hn : n < 512) (hR : ∀ lb ls, ICacheT (n + 1) lb ls stamp s → R lb ls) : wp_X11_unlike p1 p2 p3 p4 gr texts tc rights count leans heardOn overruled ruling standing stack top hd lt k0 R_L R_kind R_ruling T_L T_tongue T_day T_code C_L C_len C_row (fun r _ _ _ _ _ _ _ => wp_X12_unlike p1 p2 p3 p4 s kr ks kw ko ka letBy letStamp stamp (fun r' _ _ _ _ _ lb ls => r = r' ∧ R lb ls)) := by
  have h0 := hR letBy letStamp (ICacheT_mono hT)
  obtain ⟨hg, -, -, -, -, -, t, ht, rfl, h1, hx0⟩ := hL
  have hm0 := hC.2.2
  obtain ⟨-, r, -, hr, ec, -⟩ := id hm0
  subst ec
  have hm := hm0
  obtain ⟨h2, -, -⟩ := ICm_M hm hr
  have hx : lawT texts T_L T_number T_tongue T_day T_code C_L C_len C_row s t := fun i hi => by
    obtain ⟨a, c, x1, x2, x3, x4, -, x6, -, x8, x9, x10⟩ := hx0 i hi
    exact ⟨a, c, x1, x2, x3, x4, x6, x8, x9, x10⟩
  have hs : ∀ i, i < t → ∃ c, SlotOK s i c := fun i hi => by
    obtain ⟨a, c, -, -, -, -, -, -, -, x10⟩ := hx i hi
    exact SlotOK_T x10
  have hgr : ∀ i, i < 30 → gr i = s (20 + i) := fun i hi => (hg i hi).1
  unfold wp_X11_unlike wp_X12_unlike
  unfold f_X11_isTongue f_X11_isDay f_X12_isDay
  rw [within_eq p1, within_eq p2, within_eq p3, within_eq p4]
  rcases in_cases p1 0 2 (by decide) (by decide) with ⟨g1, -⟩ | ⟨g1, u, -, hu, rfl⟩
  · rw [g1]
    exact ⟨fun _ => ⟨fun _ => ⟨rfl, h0⟩, fun z => absurd (Or.inl rfl) z⟩, fun z => absurd (Or.inl rfl) z⟩
  rcases in_cases p2 0 2 (by decide) (by decide) with ⟨g2, -⟩ | ⟨g2, w, -, hw, rfl⟩
  · rw [g2]
    exact ⟨fun _ => ⟨fun _ => ⟨rfl, h0⟩, fun z => absurd (Or.inr (Or.inl rfl)) z⟩, fun z => absurd (Or.inr (Or.inl rfl)) z⟩
  rcases in_cases p4 0 1 (by decide) (by decide) with ⟨g4, -⟩ | ⟨g4, q, -, hq, rfl⟩
  · rw [g4]
    exact ⟨fun _ => ⟨fun _ => ⟨rfl, h0⟩, fun z => absurd (Or.inr (Or.inr rfl)) z⟩, fun z => absurd (Or.inr (Or.inr rfl)) z⟩
  have n3 : ¬ (nI 1 = 0 ∨ (nI 1 = 0 ∨ nI 1 = 0)) := by decide
  rw [g1, g2, g4]
  refine ⟨fun z => absurd z n3, fun _ => ?_⟩
  by_cases e2 : nI u = nI w ∨ f_X12_in p3 (nI 0) (nI 999) = 0
  · exact ⟨fun _ => ⟨fun z => absurd z n3, fun _ => ⟨fun _ => ⟨rfl, h0⟩, fun z => absurd e2 z⟩⟩, fun z => absurd e2 z⟩
  refine ⟨fun z => absurd z e2, fun _ => cls_openOn hm hr ht hx (fun ru y hru hy => ?_)⟩
  refine ⟨fun nq => ?_, fun eq0 => ?_⟩
  · have q1 : q = 1 := by
      rcases Nat.lt_or_ge q 1 with c | c
      · exact absurd (by rw [show q = 0 from by omega]; exact of_eq_true nI0eq) nq
      · omega
    refine cls_leastUnlike hgr hx (by omega) (by omega) (fun m hm => txS_lt _ _ hm) (fun m hm => txS_lt _ _ hm) (hru u (by omega)) (hru w (by omega)) (fun v st top hd lt k hv => ?_)
    refine ⟨fun z => absurd z n3, fun _ => ⟨fun z => absurd z e2, fun _ => ?_⟩⟩
    exact mod_unlikeOf (by omega) (by omega) h1 hs hT (by omega) (fun z => by omega) (fun _ v' k1 k2 k3 k4 k5 lb ls hv' hc => ⟨unR_eq hv hv', hR _ _ (ICacheT_mono hc)⟩)
  · have q0 : q = 0 := by
      rcases Nat.lt_or_ge q 1 with c | c
      · omega
      · rw [show q = 1 from by omega, nI1ne] at eq0
        exact eq0.elim
    refine cls_unlikeCount hgr hx (by omega) (by omega) (fun m hm => txS_lt _ _ hm) (fun m hm => txS_lt _ _ hm) (hru u (by omega)) (hru w (by omega)) (fun st top hd lt k => ?_)
    refine ⟨fun z => absurd z n3, fun _ => ⟨fun z => absurd z e2, fun _ => ?_⟩⟩
    exact mod_unlikeOf (by omega) (by omega) h1 hs hT (by omega) (fun _ k1 k2 k3 k4 k5 lb ls hc => ⟨rfl, hR _ _ (ICacheT_mono hc)⟩) (fun z => by omega)
