def idxT (j : Nat) : Prop := (20 ≤ j ∧ j < 50) ∨ (4410 ≤ j ∧ j < 6700)
def idxM (j : Nat) : Prop := j = 6 ∨ (20 ≤ j ∧ j < 50) ∨ (230 ≤ j ∧ j < 460)
theorem pkS_congr {s v : Nat → Int32} {i L : Nat} (hi : i < 16) (hL : L ≤ 120) (h : s (4450 + i) = nI L) (e : ∀ j, 4410 ≤ j ∧ j < 6700 → v j = s j) : pkS v i = pkS s i := by
  funext p
  unfold pkS
  rw [e (4450 + i) (by omega), h, nI_clamp (by omega)]
  by_cases hp : p < L
  · rw [if_pos hp, if_pos hp, e _ (by omega)]
  · rw [if_neg hp, if_neg hp]
theorem TextOK_congr {s v : Nat → Int32} {i len : Nat} {row : Nat → Int32} (hi : i < 16) (h : TextOK s i len row) (e : ∀ j, 4410 ≤ j ∧ j < 6700 → v j = s j) : TextOK v i len row := by
  obtain ⟨L, cl, hL, h1, h2, h3, h4, h5, h6⟩ := h
  have hp := pkS_congr hi hL h1 e
  refine ⟨L, cl, hL, by rw [e _ (by omega)]; exact h1, h2, by rw [e _ (by omega)]; exact h3, fun k b p hk => ?_, by rw [hp]; exact h5, h6⟩
  have hk8 : k < cl.length := (List.getElem?_eq_some_iff.mp hk).1
  rw [e _ (by omega), e _ (by omega), hp]
  exact h4 k b p hk
theorem ILand_congr {gr tape : Nat → Int32} {today bytes tc : Int32} {texts : Nat → Option Nat} {T_L : List Nat} {T_number T_tongue T_day : Nat → Int32} {T_code : Nat → Option Nat} {C_L : List Nat} {C_len : Nat → Nat} {C_row : Nat → Nat → Int32} {s v : Nat → Int32} (h : ILand gr today tape bytes texts tc T_L T_number T_tongue T_day T_code C_L C_len C_row s) (e : inS idxL s v) : ILand gr today tape bytes texts tc T_L T_number T_tongue T_day T_code C_L C_len C_row v := by
  obtain ⟨h1, h2, h3, h4, h5, h6, t, ht, h7, h8, h9⟩ := h
  refine ⟨fun i hi => ?_, ?_, ?_, h4, ?_, h6, t, ht, h7, ?_, fun i hi => ?_⟩
  · rw [e _ (by unfold idxL; omega)]; exact h1 i hi
  · rw [e _ (by unfold idxL; omega)]; exact h2
  · rw [e _ (by unfold idxL; omega)]; exact h3
  · rw [e _ (by unfold idxL; omega)]
    intro b hb hb2 i hi
    rw [e _ (by unfold idxL; omega)]; exact h5 b hb hb2 i hi
  · rw [e _ (by unfold idxL; omega)]; exact h8
  · obtain ⟨a, c, g1, g2, g3, g4, g5, g6, g7, g8, g9, g10⟩ := h9 i hi
    refine ⟨a, c, g1, g2, g3, ?_, ?_, ?_, ?_, g8, g9, TextOK_congr (by omega) g10 (fun j hj => e j (by unfold idxL; omega))⟩
    · rw [e _ (by unfold idxL; omega)]; exact g4
    · rw [e _ (by unfold idxL; omega)]; exact g5
    · rw [e _ (by unfold idxL; omega)]; exact g6
    · rw [e _ (by unfold idxL; omega)]; exact g7
theorem ICm_congr {today : Int32} {rights : Nat → Option Nat} {count : Int32} {leans : Nat → Int64} {heardOn : Nat → Int32} {overruled : Int64} {R_L : List Nat} {R_kind R_number R_side R_n R_cell R_day R_ruling R_share : Nat → Int32} {s v : Nat → Int32} (h : ICm today rights count leans heardOn overruled R_L R_kind R_number R_side R_n R_cell R_day R_ruling R_share s) (e : inS idxR s v) : ICm today rights count leans heardOn overruled R_L R_kind R_number R_side R_n R_cell R_day R_ruling R_share v := by
  obtain ⟨h3, r, ki, hr, h4, h5, h6, h7, h8, h9⟩ := h
  refine ⟨h3, r, ki, hr, h4, ?_, fun i hi => ?_, fun i hi k hk => ?_, h8, h9⟩
  · rw [e _ (by unfold idxR; omega)]; exact h5
  · have := h6 i hi
    have q : ∀ j, j ≤ i → v (1660 + j) = s (1660 + j) := fun j hj => e _ (by unfold idxR; omega)
    obtain ⟨a, g1, g2, g3, g4, g5, g6, g7, g8, g9, g10, g11, g12, g13, g14, g15⟩ := this
    rw [e (1310 + i) (by unfold idxR; omega), e (1360 + i) (by unfold idxR; omega), e (1510 + i) (by unfold idxR; omega), e (1410 + i) (by unfold idxR; omega), e (1460 + i) (by unfold idxR; omega), e (1560 + i) (by unfold idxR; omega), e (1860 + i) (by unfold idxR; omega), e (1610 + i) (by unfold idxR; omega), e (1710 + i) (by unfold idxR; omega), e (1810 + i) (by unfold idxR; omega), e (1760 + i) (by unfold idxR; omega), q i (Nat.le_refl i)]
    refine ⟨a, g1, g2, g3, g4, g5, g6, g7, g8, g9, g10, g11, fun j hj => ?_, g13, g14, g15⟩
    rw [q j (by omega)]
    exact g12 j hj
  · rw [e _ (by unfold idxR; omega)]; exact h7 i hi k hk
theorem ICourt_congr {today : Int32} {rights : Nat → Option Nat} {count : Int32} {leans : Nat → Int64} {heardOn : Nat → Int32} {overruled : Int64} {termDays step : Int32} {R_L : List Nat} {R_kind R_number R_side R_n R_cell R_day R_ruling R_share : Nat → Int32} {s v : Nat → Int32} (h : ICourt today rights count leans heardOn overruled termDays step R_L R_kind R_number R_side R_n R_cell R_day R_ruling R_share s) (e : inS idxC s v) : ICourt today rights count leans heardOn overruled termDays step R_L R_kind R_number R_side R_n R_cell R_day R_ruling R_share v := by
  obtain ⟨h1, h2, h3⟩ := h
  refine ⟨?_, ?_, ICm_congr h3 (fun j hj => e j (by unfold idxR at hj; unfold idxC; omega))⟩
  · rw [e _ (by unfold idxC; omega)]; exact h1
  · rw [e _ (by unfold idxC; omega)]; exact h2
def poolR (R_L : List Nat) (R_kind R_number R_side R_n R_cell R_day R_ruling R_share : Nat → Int32) (X_L : List Nat) (X_kind X_number X_side X_n X_cell X_day X_ruling X_share : Nat → Int32) : Prop := ∀ a, a ∈ R_L → a ∈ X_L ∧ X_kind a = R_kind a ∧ X_number a = R_number a ∧ X_side a = R_side a ∧ X_n a = R_n a ∧ X_cell a = R_cell a ∧ X_day a = R_day a ∧ X_ruling a = R_ruling a ∧ X_share a = R_share a
theorem poolR_rfl {R_L : List Nat} {R_kind R_number R_side R_n R_cell R_day R_ruling R_share : Nat → Int32} : poolR R_L R_kind R_number R_side R_n R_cell R_day R_ruling R_share R_L R_kind R_number R_side R_n R_cell R_day R_ruling R_share := fun a ha => ⟨ha, rfl, rfl, rfl, rfl, rfl, rfl, rfl, rfl⟩
theorem ICourt_pool {today : Int32} {rights : Nat → Option Nat} {count : Int32} {leans : Nat → Int64} {heardOn : Nat → Int32} {overruled : Int64} {termDays step : Int32} {R_L : List Nat} {R_kind R_number R_side R_n R_cell R_day R_ruling R_share : Nat → Int32} {X_L : List Nat} {X_kind X_number X_side X_n X_cell X_day X_ruling X_share : Nat → Int32} {s : Nat → Int32} (h : ICourt today rights count leans heardOn overruled termDays step R_L R_kind R_number R_side R_n R_cell R_day R_ruling R_share s) (hp : poolR R_L R_kind R_number R_side R_n R_cell R_day R_ruling R_share X_L X_kind X_number X_side X_n X_cell X_day X_ruling X_share) : ICourt today rights count leans heardOn overruled termDays step X_L X_kind X_number X_side X_n X_cell X_day X_ruling X_share s := by
  obtain ⟨h1, h2, h3, r, ki, hr, h4, h5, h6, h7, h8, h9⟩ := h
  refine ⟨h1, h2, fun i hi y hy => (hp y (h3 i hi y hy)).1, r, ki, hr, h4, h5, fun i hi => ?_, h7, h8, h9⟩
  obtain ⟨a, g1, g2, g⟩ := h6 i hi
  obtain ⟨q0, q1, q2, q3, q4, q5, q6, q7, q8⟩ := hp a g2
  exact ⟨a, g1, q0, by rw [q1, q2, q3, q4, q5, q6, q7, q8]; exact g⟩
def poolT (T_L : List Nat) (T_number T_tongue T_day : Nat → Int32) (T_code : Nat → Option Nat) (C_L : List Nat) (C_len : Nat → Nat) (C_row : Nat → Nat → Int32) (X_L : List Nat) (X_number X_tongue X_day : Nat → Int32) (X_code : Nat → Option Nat) (Y_L : List Nat) (Y_len : Nat → Nat) (Y_row : Nat → Nat → Int32) : Prop := (∀ a, a ∈ T_L → a ∈ X_L ∧ X_number a = T_number a ∧ X_tongue a = T_tongue a ∧ X_day a = T_day a ∧ X_code a = T_code a) ∧ ∀ c, c ∈ C_L → c ∈ Y_L ∧ Y_len c = C_len c ∧ Y_row c = C_row c
theorem ILand_pool {gr tape : Nat → Int32} {today bytes tc : Int32} {texts : Nat → Option Nat} {T_L : List Nat} {T_number T_tongue T_day : Nat → Int32} {T_code : Nat → Option Nat} {C_L : List Nat} {C_len : Nat → Nat} {C_row : Nat → Nat → Int32} {X_L : List Nat} {X_number X_tongue X_day : Nat → Int32} {X_code : Nat → Option Nat} {Y_L : List Nat} {Y_len : Nat → Nat} {Y_row : Nat → Nat → Int32} {s : Nat → Int32} (h : ILand gr today tape bytes texts tc T_L T_number T_tongue T_day T_code C_L C_len C_row s) (hp : poolT T_L T_number T_tongue T_day T_code C_L C_len C_row X_L X_number X_tongue X_day X_code Y_L Y_len Y_row) : ILand gr today tape bytes texts tc X_L X_number X_tongue X_day X_code Y_L Y_len Y_row s := by
  obtain ⟨h1, h2, h3, h4, h5, h6, t, ht, h7, h8, h9⟩ := h
  refine ⟨h1, h2, h3, h4, h5, fun i hi y hy => (hp.1 y (h6 i hi y hy)).1, t, ht, h7, h8, fun i hi => ?_⟩
  obtain ⟨a, c, g1, g2, g3, g4, g5, g6, g7, g8, g9, g10⟩ := h9 i hi
  obtain ⟨q0, q1, q2, q3, q4⟩ := hp.1 a g2
  obtain ⟨z0, z1, z2⟩ := hp.2 c g9
  exact ⟨a, c, g1, q0, by rw [q1]; exact g3, by rw [q2]; exact g4, g5, by rw [q3]; exact g6, g7, by rw [q4]; exact g8, z0, by rw [z1, z2]; exact g10⟩
theorem IP1_congr {goods ab pl : Nat → Int32} {sc chest : Int32} {s v : Nat → Int32} (h : IP1 goods ab pl sc chest s) (e : inS idx1 s v) : IP1 goods ab pl sc chest v := by
  obtain ⟨c, a, b, ch, hc, h1, h2, h3, h4, h5, h6, h7, h8, h9, h10⟩ := h
  refine ⟨c, a, b, ch, hc, h1, ?_, fun i hi => ?_, fun i hi => ?_, fun i hi => ?_, fun i hi => ?_, h7, ?_, h9, h10⟩
  · rw [e _ (by unfold idx1; omega)]; exact h2
  · rw [e (90 + i) (by unfold idx1; omega), e (102 + i) (by unfold idx1; omega), e (114 + i) (by unfold idx1; omega)]; exact h3 i hi
  · rw [e (90 + i) (by unfold idx1; omega), e (114 + i) (by unfold idx1; omega)]; exact h4 i hi
  · rw [e _ (by unfold idx1; omega)]; exact h5 i hi
  · rw [e _ (by unfold idx1; omega)]; exact h6 i hi
  · rw [e _ (by unfold idx1; omega)]; exact h8
theorem IP2_congr {bond sold passed tar s v : Nat → Int32} (h : IP2 bond sold passed tar s) (e : inS idx2 s v) : IP2 bond sold passed tar v := by
  intro i hi
  rw [e (50 + i) (by unfold idx2; omega), e (54 + i) (by unfold idx2; omega), e (58 + i) (by unfold idx2; omega), e (62 + i) (by unfold idx2; omega)]; exact h i hi
theorem IP3_congr {parts pur quo s v : Nat → Int32} (h : IP3 parts pur quo s) (e : inS idx3 s v) : IP3 parts pur quo v := by
  intro i hi
  rw [e (66 + i) (by unfold idx3; omega), e (69 + i) (by unfold idx3; omega), e (72 + i) (by unfold idx3; omega)]; exact h i hi
theorem IP4_congr {fs ow : Nat → Int32} {fc : Int32} {uf ut : Nat → Int32} {uc : Int32} {s v : Nat → Int32} (h : IP4 fs ow fc uf ut uc s) (e : inS idx4 s v) : IP4 fs ow fc uf ut uc v := by
  obtain ⟨f, u, hf, g1, g2, hu, g3, g4, g5, g6, g7, g8⟩ := h
  refine ⟨f, u, hf, g1, ?_, hu, g3, ?_, fun i hi => ?_, fun i hi => ?_, fun i hi => ?_, fun i hi => ?_⟩
  · rw [e _ (by unfold idx4; omega)]; exact g2
  · rw [e _ (by unfold idx4; omega)]; exact g4
  · rw [e (130 + i) (by unfold idx4; omega), e (140 + i) (by unfold idx4; omega)]; exact g5 i hi
  · rw [e (130 + i) (by unfold idx4; omega), e (140 + i) (by unfold idx4; omega)]; exact g6 i hi
  · rw [e (150 + i) (by unfold idx4; omega), e (190 + i) (by unfold idx4; omega)]; exact g7 i hi
  · rw [e (150 + i) (by unfold idx4; omega), e (190 + i) (by unfold idx4; omega)]; exact g8 i hi
theorem IPort_congr {goods ab pl : Nat → Int32} {sc : Int32} {bond sold passed tar parts pur : Nat → Int32} {chest : Int32} {fs ow : Nat → Int32} {fc : Int32} {uf ut : Nat → Int32} {uc : Int32} {quo s v : Nat → Int32} (h : IPort goods ab pl sc bond sold passed tar parts pur chest fs ow fc uf ut uc quo s) (e : inS idxP s v) : IPort goods ab pl sc bond sold passed tar parts pur chest fs ow fc uf ut uc quo v :=
  ⟨IP1_congr h.1 (fun j hj => e j (by unfold idx1 at hj; unfold idxP; omega)), IP2_congr h.2.1 (fun j hj => e j (by unfold idx2 at hj; unfold idxP; omega)), IP3_congr h.2.2.1 (fun j hj => e j (by unfold idx3 at hj; unfold idxP; omega)), IP4_congr h.2.2.2 (fun j hj => e j (by unfold idx4 at hj; unfold idxP; omega))⟩
theorem INight_congr {ds fh lh : Nat → Int32} {dc : Int32} {si s v : Nat → Int32} (h : INight ds fh lh dc si s) (e : inS idxN s v) : INight ds fh lh dc si v := by
  obtain ⟨⟨d, hd, h1, h2, h3, h4⟩, h5⟩ := h
  refine ⟨⟨d, hd, h1, ?_, fun i hi => ?_, fun i hi => ?_⟩, fun p hp => ?_⟩
  · rw [e _ (by unfold idxN; omega)]; exact h2
  · rw [e (230 + i) (by unfold idxN; omega), e (236 + i) (by unfold idxN; omega), e (242 + i) (by unfold idxN; omega)]; exact h3 i hi
  · rw [e (230 + i) (by unfold idxN; omega), e (236 + i) (by unfold idxN; omega), e (242 + i) (by unfold idxN; omega)]; exact h4 i hi
  · obtain ⟨c, ho, sp, hc, g1, g2, g3, g4⟩ := h5 p hp
    refine ⟨c, ho, sp, hc, ?_, g2, fun k hk => ?_, g4⟩
    · rw [e _ (by unfold idxN; omega)]; exact g1
    · rw [e (260 + 12 * p + k) (by unfold idxN; omega), e (356 + 12 * p + k) (by unfold idxN; omega)]; exact g3 k hk
theorem isTrue_congr {s v : Nat → Int32} {i : Nat} {x : Int32} (hi : i < 20) (e : inS idxH s v) : f_X12_isTrue v (nI i) x = f_X12_isTrue s (nI i) x := by
  unfold f_X12_isTrue
  simp (disch := omega) only [nI_add, nI_clamp]
  rw [e (480 + i) (by unfold idxH; omega), e (500 + i) (by unfold idxH; omega), e (520 + i) (by unfold idxH; omega), e (540 + i) (by unfold idxH; omega)]
theorem IHall_congr {vo sd ss sn : Nat → Int32} {sc : Int32} {s v : Nat → Int32} (h : IHall vo sd ss sn sc s) (e : inS idxH s v) : IHall vo sd ss sn sc v := by
  obtain ⟨h1, c, hc, h2, h3, h4⟩ := h
  refine ⟨fun i hi => ?_, c, hc, h2, ?_, fun i hi => ?_⟩
  · rw [e _ (by unfold idxH; omega)]; exact h1 i hi
  · rw [e _ (by unfold idxH; omega)]; exact h3
  · rw [e (460 + i) (by unfold idxH; omega)]
    refine ⟨(h4 i hi).1, (h4 i hi).2.1, fun t ht => ?_⟩
    rw [isTrue_congr (by omega) e]
    exact (h4 i hi).2.2 t ht
theorem IBench_congr {cells : Nat → Int32} {fl fn : Nat → Int64} {qc : Int32} {wa : Nat → Int32} {wc : Int32} {s v : Nat → Int32} (h : IBench cells fl fn qc wa wc s) (e : inS idxB s v) : IBench cells fl fn qc wa wc v := by
  obtain ⟨⟨q, hq, h1, h2, h3⟩, w, hw, h4, h5, h6⟩ := h
  refine ⟨⟨q, hq, h1, ?_, fun i hi => ⟨?_, fun r hr => ?_⟩⟩, w, hw, h4, ?_, fun i hi => ?_⟩
  · rw [e _ (by unfold idxB; omega)]; exact h2
  · rw [e (560 + i) (by unfold idxB; omega), e (566 + i) (by unfold idxB; omega)]; exact (h3 i hi).1
  · rw [e (572 + 50 * i + r) (by unfold idxB; omega), e (872 + 50 * i + r) (by unfold idxB; omega)]; exact (h3 i hi).2 r hr
  · rw [e _ (by unfold idxB; omega)]; exact h5
  · rw [e _ (by unfold idxB; omega)]; exact h6 i hi
theorem ICacheT_congr {n : Nat} {letBy letStamp : Nat → Int32} {stamp : Int32} {s v : Nat → Int32} (h : ICacheT n letBy letStamp stamp s) (e : inS idxT s v) : ICacheT (n + 1) letBy letStamp stamp v := by
  obtain ⟨z, h1, h2, h3, h4⟩ := h
  refine ⟨z, by omega, h2, h3, fun t ht => ?_⟩
  obtain ⟨y, g1, g2, g3⟩ := h4 t ht
  refine ⟨y, g1, g2, fun hy => ?_⟩
  obtain ⟨c, ll, k1, k2, k3, ⟨L, k4, k5⟩, k6, k7⟩ := g3 hy
  have hp := pkS_congr ht k4 k5 (fun j hj => e j (by unfold idxT; omega))
  refine ⟨c, ll, k1, k2, by rw [e _ (by unfold idxT; omega)]; exact k3, ⟨L, k4, by rw [e _ (by unfold idxT; omega)]; exact k5⟩, fun k b p hk => ?_, fun a ha => ?_⟩
  · have hk8 : k < ll.length := (List.getElem?_eq_some_iff.mp hk).1
    rw [e (4490 + (8 * t + k)) (by unfold idxT; omega), e (4620 + (8 * t + k)) (by unfold idxT; omega), hp]
    exact k6 k b p hk
  · rw [hp, show gS v = gS s from funext (fun j => e _ (by unfold idxT; omega))]
    exact k7 a ha
theorem ICacheT_mono {n : Nat} {letBy letStamp : Nat → Int32} {stamp : Int32} {s : Nat → Int32} (h : ICacheT n letBy letStamp stamp s) : ICacheT (n + 1) letBy letStamp stamp s := ICacheT_congr h (fun _ _ => rfl)
theorem ICacheN_mono {n : Nat} {could couldNight : Nat → Int32} {night : Int32} {s : Nat → Int32} (h : ICacheN n could couldNight night s) : ICacheN (n + 1) could couldNight night s := by
  obtain ⟨z, h1, h2, h3, h4⟩ := h
  exact ⟨z, by omega, h2, h3, h4⟩
theorem rall {n : Nat} {f g : Nat → Bool} (h : ∀ k, k < n → f k = g k) : (List.range n).all f = (List.range n).all g := by
  rw [Bool.eq_iff_iff]
  simp only [List.all_eq_true, List.mem_range]
  exact ⟨fun q k hk => by rw [← h k hk]; exact q k hk, fun q k hk => by rw [h k hk]; exact q k hk⟩
theorem rany {n : Nat} {f g : Nat → Bool} (h : ∀ k, k < n → f k = g k) : (List.range n).any f = (List.range n).any g := by
  rw [Bool.eq_iff_iff]
  simp only [List.any_eq_true, List.mem_range]
  exact ⟨fun ⟨k, hk, q⟩ => ⟨k, hk, by rw [← h k hk]; exact q⟩, fun ⟨k, hk, q⟩ => ⟨k, hk, by rw [h k hk]; exact q⟩⟩
theorem canN_congr {s v : Nat → Int32} {p : Nat} (hp : p < 8) (e : inS idxM s v) : canN v p = canN s p := by
  funext h a
  unfold canN
  by_cases ha : a < 30
  · rw [e (20 + a) (by unfold idxM; omega), e (250 + p) (by unfold idxM; omega)]
    congr 1
    exact rall (fun k hk => by rw [e (356 + 12 * p + k) (by unfold idxM; omega), e (260 + 12 * p + k) (by unfold idxM; omega)])
  · simp [ha]
theorem couldN_congr {s v : Nat → Int32} {p : Nat} (hp : p < 8) (e : inS idxM s v) (t : Nat) : couldN v p t = couldN s p t := by
  have hc := canN_congr hp e
  have hn : ∀ h M, nxN v p h M = nxN s p h M := by
    intro h M
    funext a t
    unfold nxN
    rw [hc]
  have hs : ∀ h M, stepN v p h M = stepN s p h M := by
    intro h M
    funext a t
    unfold stepN
    rw [hn, e 6 (by unfold idxM; omega)]
    congr 1
    exact rany (fun d hd => by rw [e (230 + d) (by unfold idxM; omega), e (236 + d) (by unfold idxM; omega), e (242 + d) (by unfold idxM; omega)])
  have hm : ∀ h, mayN v p h = mayN s p h := by
    intro h
    induction h with
    | zero => rfl
    | succ h ih =>
      show stepN v p h (mayN v p h) = stepN s p h (mayN s p h)
      rw [ih, hs]
  unfold couldN
  rw [hm]
theorem ICacheN_congr {n : Nat} {could couldNight : Nat → Int32} {night : Int32} {s v : Nat → Int32} (h : ICacheN n could couldNight night s) (e : inS idxM s v) : ICacheN (n + 1) could couldNight night v := by
  obtain ⟨z, h1, h2, h3, h4⟩ := h
  refine ⟨z, by omega, h2, h3, fun p hp => ?_⟩
  obtain ⟨y, g1, g2, g3⟩ := h4 p hp
  refine ⟨y, g1, g2, fun hy d hd hd6 t ht => ?_⟩
  rw [couldN_congr hp e]
  exact g3 hy d (by rw [← e 6 (by unfold idxM; omega)]; exact hd) hd6 t ht
