theorem set_ne {ws w1 : va_W} {k j : Nat} {x y : Nat × va_E} (e : w1 = ws.set k x) (h : ws[j]? = some y) (hne : k ≠ j) : w1[j]? = some y := by
  rw [e, List.getElem?_set_ne hne]; exact h
theorem set_at {ws w1 : va_W} {k : Nat} {x y : Nat × va_E} (e : w1 = ws.set k x) (h : ws[k]? = some y) : w1[k]? = some x := by
  rw [e]; exact List.getElem?_set_self (List.getElem?_eq_some_iff.mp h).1
theorem nd_ne {l : List Nat} {i j x y : Nat} (h : l.Nodup) (hij : i ≠ j) (hi : l[i]? = some x) (hj : l[j]? = some y) : x ≠ y := by
  intro e
  subst e
  obtain ⟨h1, e1⟩ := List.getElem?_eq_some_iff.mp hi
  obtain ⟨h2, e2⟩ := List.getElem?_eq_some_iff.mp hj
  have hp := List.pairwise_iff_getElem.mp h
  rcases Nat.lt_or_gt_of_ne hij with q | q
  · exact hp i j h1 h2 q (e1.trans e2.symm)
  · exact hp j i h2 h1 q (e2.trans e1.symm)
theorem okW_set {D : va_G} {A : Nat → Prop} {H0 H : Heap} {locs : List Loc} {ws w1 : va_W} {k : Nat} {x : Nat × va_E} (e : w1 = ws.set k x) (h : okW D A H0 H locs (ws.set k x)) : okW D A H0 H locs w1 := by rw [e]; exact h
/-- the objects of a row of references, as the copy of rows asks for them -/
theorem hel_of {D : va_G} {s : State} {tys : List (ClassId × FieldType)} {ws : va_W} {H : Heap} {f : Nat → Option Nat} {n ci : Nat} {C : String} {T : u_T} {N : Nat} (hK : va_K D vwCl tys s) (hP : va_P D vwCl ws H) (hc : vwCl[ci]? = some (C, T, N)) (h : ∀ i : Nat, i < n → ∀ y : Nat, f i = some y → ∃ (k : Nat) (fs : List Value), ws[k]? = some (y, .inr (ci, fs))) : ∀ i : Nat, i < n → ∀ y : Nat, f i = some y → ∃ cellV : Cell, H[y]? = some cellV ∧ cellV.vm.isStatics = false ∧ s.vm.findClass C = some cellV.cls := by
  intro i hi y hy
  obtain ⟨k, fs, hk⟩ := h i hi y hy
  obtain ⟨r', hr', cellV, g1, g2, g3, -⟩ := hP k _ hk
  have hcls := (hK.1 ci _ hc).2
  exact ⟨cellV, g1, by rw [g3]; rfl, by rw [g2]; exact hcls.1⟩
theorem hasg_of {D : va_G} {s : State} {tys : List (ClassId × FieldType)} {ci : Nat} {C : String} {T : u_T} {N : Nat} (hK : va_K D vwCl tys s) (hc : vwCl[ci]? = some (C, T, N)) : ∀ comp c0 : ClassId, s.vm.findClass C = some comp → s.vm.findClass C = some c0 → s.vm.assignable c0 comp = true := by
  intro comp c0 h1 h2
  have hcls := (hK.1 ci _ hc).2
  have e1 := Option.some.inj (h1.symm.trans hcls.1)
  have e2 := Option.some.inj (h2.symm.trans hcls.1)
  subst e1; subst e2
  exact va_assign hcls
theorem hT_set {ws w1 : va_W} {f : Nat → Option Nat} {n ci k : Nat} {x y0 : Nat × va_E} (e : w1 = ws.set k x) (h0 : ws[k]? = some y0) (hne : ∀ fs, y0.2 ≠ .inr (ci, fs)) (h : ∀ i : Nat, i < n → ∀ y : Nat, f i = some y → ∃ (k : Nat) (fs : List Value), ws[k]? = some (y, .inr (ci, fs))) : ∀ i : Nat, i < n → ∀ y : Nat, f i = some y → ∃ (k : Nat) (fs : List Value), w1[k]? = some (y, .inr (ci, fs)) := by
  intro i hi y hy
  obtain ⟨j, fs, hj⟩ := h i hi y hy
  refine ⟨j, fs, set_ne e hj ?_⟩
  intro hkj
  subst hkj
  have := Option.some.inj (h0.symm.trans hj)
  rw [this] at hne
  exact hne fs rfl
set_option maxHeartbeats 4000000 in
set_option maxRecDepth 100000 in
theorem c_X11_copyRow {l : Launch} {D : va_G} {T : List (ClassId × FieldType)} {ws : va_W} {sz a b q0 q1 n : Nat} {cA : ClassId} {f g : Nat → Int32} (ha : ws[q0]? = some (a, .inl (cA, n, .inl f))) (hb2 : ws[q1]? = some (b, .inl (cA, n, .inl g))) (ht : T[0]? = some (cA, .int)) (hn : n < 2 ^ 31) : Met l yX11_copyRow (Cond.code yX11_copyRow cX11_copyRow 2 none :: wsG) ({ frames := 1, cells := 0, slots := 0, locals := 60 } : Room) (preW D T ws sz [.ref a, .ref b]) (qv0 D T (va_A ws sz) True (ws.set q1 (b, .inl (cA, n, .inl (va_cpy f g 0 0 n))))) 0 0 (va_A ws sz) := by
  refine st_met (cc := cX11_copyRow) (maxL := 2) (ret := none) (lv := [(0, .ref a), (1, .ref b)]) (Qc := fun A => qv0 D T A True (ws.set q1 (b, .inl (cA, n, .inl (va_cpy f g 0 0 n))))) (by decide) rfl (Nat.le_of_ble_eq_true rfl) rfl ?_
  intro p e s m below meth c ls A R args QQ H locs C hr hlk hnm hK hX hsz hl hO hR hQQ
  have hx := C.1
  have hb := C.2.1
  have hown := C.2.2.2.1
  have hts := C.2.2.2.2
  refine lv_aload_n hx hb dX11_copyRow_0 rfl (lv_at hl 0 rfl) ?_
  refine lv_iconst (v := nI 0) hx hb dX11_copyRow_1 (by decide) ?_
  refine lv_aload_n hx hb dX11_copyRow_2 rfl (lv_at hl 1 rfl) ?_
  refine lv_iconst (v := nI 0) hx hb dX11_copyRow_3 (by decide) ?_
  refine lv_aload_n hx hb dX11_copyRow_4 rfl (lv_at hl 0 rfl) ?_
  refine va_alen hx hb hK hO.1 q0 0 ha ht (v := nI n) rfl dX11_copyRow_5 ?_
  refine lv_aload_n hx hb dX11_copyRow_6 rfl (lv_at hl 1 rfl) ?_
  refine va_alen hx hb hK hO.1 q1 0 hb2 ht (v := nI n) rfl dX11_copyRow_7 ?_
  refine va_mmin hx hb (C.2.2.1.trans hl.1.symm) hown (hts (Cond.methodLink RX11 468 Lib.Math.min.name) (List.mem_cons_of_mem _ qw5_159)) (hts (Cond.static Lib.Math.min.name) (List.mem_cons_of_mem _ qw3_6)) (hts (Cond.initialized "java/lang/Math") (List.mem_cons_of_mem _ qw1_14)) (hts (Cond.code Lib.Math.min.name Lib.Math.min.code 2 (some .int)) (List.mem_cons_of_mem _ qw3_7)) (by rw [← hR]; exact Nat.le_of_ble_eq_true rfl) (by rw [← hR]; exact Nat.le_of_ble_eq_true rfl) (by rw [← hR]; exact Nat.le_of_ble_eq_true rfl) (by rw [← hR]; exact Nat.le_of_ble_eq_true rfl) dX11_copyRow_8 ?_
  rw [ite_self]
  refine va_copyi (ty := .int) hx hb (C.2.2.1.trans hl.1.symm) hown (hts (Cond.methodLink RX11 473 arraycopyName) (List.mem_cons_of_mem _ qw5_160)) (hts (Cond.native arraycopyName) (List.mem_cons_of_mem _ qw3_10)) (hts (Cond.static arraycopyName) (List.mem_cons_of_mem _ qw3_9)) (hts (Cond.initialized "java/lang/System") (List.mem_cons_of_mem _ qw1_15)) hK hO.1 hO.2.1 hO.2.2.1 q0 q1 0 0 ha hb2 ht ht rfl (by decide) (by decide) (nI_pos hn) (by rw [nI_clamp hn, nI_clamp (by decide)]; omega) (by rw [nI_clamp hn, nI_clamp (by decide)]; omega) (fun i _ => rfl) (by rw [← hR]; exact Nat.le_of_ble_eq_true rfl) (by rw [← hR]; exact Nat.le_of_ble_eq_true rfl) dX11_copyRow_11 (fun H locs hP hD hS => ?_)
  rw [nI_clamp hn, nI_clamp (by decide)] at hP hD
  exact rv0 hQQ hx hb hr hlk hK ⟨hP, hD, hS, hO.2.2.2⟩ trivial dX11_copyRow_14
set_option maxHeartbeats 4000000 in
set_option maxRecDepth 100000 in
theorem c_X11_copyRow_ {l : Launch} {D : va_G} {T : List (ClassId × FieldType)} {ws : va_W} {sz a b q0 q1 n : Nat} {cA : ClassId} {f g : Nat → Int64} (ha : ws[q0]? = some (a, .inl (cA, n, .inr (.inl f)))) (hb2 : ws[q1]? = some (b, .inl (cA, n, .inr (.inl g)))) (ht : T[2]? = some (cA, .long)) (hn : n < 2 ^ 31) : Met l yX11_copyRow_ (Cond.code yX11_copyRow_ cX11_copyRow_ 2 none :: wsG) ({ frames := 1, cells := 0, slots := 0, locals := 60 } : Room) (preW D T ws sz [.ref a, .ref b]) (qv0 D T (va_A ws sz) True (ws.set q1 (b, .inl (cA, n, .inr (.inl (va_cpy f g 0 0 n)))))) 0 0 (va_A ws sz) := by
  refine st_met (cc := cX11_copyRow_) (maxL := 2) (ret := none) (lv := [(0, .ref a), (1, .ref b)]) (Qc := fun A => qv0 D T A True (ws.set q1 (b, .inl (cA, n, .inr (.inl (va_cpy f g 0 0 n)))))) (by decide) rfl (Nat.le_of_ble_eq_true rfl) rfl ?_
  intro p e s m below meth c ls A R args QQ H locs C hr hlk hnm hK hX hsz hl hO hR hQQ
  have hx := C.1
  have hb := C.2.1
  have hown := C.2.2.2.1
  have hts := C.2.2.2.2
  refine lv_aload_n hx hb dX11_copyRow__0 rfl (lv_at hl 0 rfl) ?_
  refine lv_iconst (v := nI 0) hx hb dX11_copyRow__1 (by decide) ?_
  refine lv_aload_n hx hb dX11_copyRow__2 rfl (lv_at hl 1 rfl) ?_
  refine lv_iconst (v := nI 0) hx hb dX11_copyRow__3 (by decide) ?_
  refine lv_aload_n hx hb dX11_copyRow__4 rfl (lv_at hl 0 rfl) ?_
  refine va_alen hx hb hK hO.1 q0 2 ha ht (v := nI n) rfl dX11_copyRow__5 ?_
  refine lv_aload_n hx hb dX11_copyRow__6 rfl (lv_at hl 1 rfl) ?_
  refine va_alen hx hb hK hO.1 q1 2 hb2 ht (v := nI n) rfl dX11_copyRow__7 ?_
  refine va_mmin hx hb (C.2.2.1.trans hl.1.symm) hown (hts (Cond.methodLink RX11 468 Lib.Math.min.name) (List.mem_cons_of_mem _ qw5_159)) (hts (Cond.static Lib.Math.min.name) (List.mem_cons_of_mem _ qw3_6)) (hts (Cond.initialized "java/lang/Math") (List.mem_cons_of_mem _ qw1_14)) (hts (Cond.code Lib.Math.min.name Lib.Math.min.code 2 (some .int)) (List.mem_cons_of_mem _ qw3_7)) (by rw [← hR]; exact Nat.le_of_ble_eq_true rfl) (by rw [← hR]; exact Nat.le_of_ble_eq_true rfl) (by rw [← hR]; exact Nat.le_of_ble_eq_true rfl) (by rw [← hR]; exact Nat.le_of_ble_eq_true rfl) dX11_copyRow__8 ?_
  rw [ite_self]
  refine va_copyl (ty := .long) hx hb (C.2.2.1.trans hl.1.symm) hown (hts (Cond.methodLink RX11 473 arraycopyName) (List.mem_cons_of_mem _ qw5_160)) (hts (Cond.native arraycopyName) (List.mem_cons_of_mem _ qw3_10)) (hts (Cond.static arraycopyName) (List.mem_cons_of_mem _ qw3_9)) (hts (Cond.initialized "java/lang/System") (List.mem_cons_of_mem _ qw1_15)) hK hO.1 hO.2.1 hO.2.2.1 q0 q1 2 2 ha hb2 ht ht rfl (by decide) (by decide) (nI_pos hn) (by rw [nI_clamp hn, nI_clamp (by decide)]; omega) (by rw [nI_clamp hn, nI_clamp (by decide)]; omega) (fun i _ => rfl) (by rw [← hR]; exact Nat.le_of_ble_eq_true rfl) (by rw [← hR]; exact Nat.le_of_ble_eq_true rfl) dX11_copyRow__11 (fun H locs hP hD hS => ?_)
  rw [nI_clamp hn, nI_clamp (by decide)] at hP hD
  exact rv0 hQQ hx hb hr hlk hK ⟨hP, hD, hS, hO.2.2.2⟩ trivial dX11_copyRow__14
theorem gi_X4_25 {a : Cond} : GoodIn (a :: wsG) (Cond.code yX11_copyRow cX11_copyRow 2 none :: wsG) := gdI qw5_158
theorem hd_X11_copyRow : yX11_copyRow.cls ≠ "java/lang/invoke/MethodHandle" ∧ yX11_copyRow.cls ≠ "java/lang/invoke/VarHandle" ∧ (parseMethodDescriptor yX11_copyRow.desc).map (fun d => d.parameters.length) = some 2 := by decide +kernel

set_option maxHeartbeats 4000000 in
set_option maxRecDepth 100000 in
theorem c_X4_copyFrom {l : Launch} {D : va_G} {cI cZ cJ cB cR cT : ClassId} {ws : va_W} {sz : Nat} {ta oa ta_grounds ta_tape ta_texts oa_grounds oa_tape oa_texts : Nat} {tq oq tq_grounds tq_tape tq_texts oq_grounds oq_tape oq_texts : Nat} {tv_today ov_today : Int32} {tv_bytes ov_bytes : Int32} {tv_textCount ov_textCount : Int32} {tv_grounds ov_grounds : Nat → Int32} {tv_tape ov_tape : Nat → Int32} {tv_texts ov_texts : Nat → Option Nat} {w_1 w_2 w_3 w_4 w_5 w_6 : va_W} (f0_tq : ws[tq]? = some (ta, .inr (4, [.ref ta_grounds, .int tv_today, .ref ta_tape, .int tv_bytes, .ref ta_texts, .int tv_textCount]))) (f0_oq : ws[oq]? = some (oa, .inr (4, [.ref oa_grounds, .int ov_today, .ref oa_tape, .int ov_bytes, .ref oa_texts, .int ov_textCount]))) (f0_tq_grounds : ws[tq_grounds]? = some (ta_grounds, .inl (cI, (30, .inl tv_grounds)))) (f0_tq_tape : ws[tq_tape]? = some (ta_tape, .inl (cB, (120, .inl tv_tape)))) (f0_tq_texts : ws[tq_texts]? = some (ta_texts, .inl (cT, (15, .inr (.inr (.inr (.inr tv_texts))))))) (f0_oq_grounds : ws[oq_grounds]? = some (oa_grounds, .inl (cI, (30, .inl ov_grounds)))) (f0_oq_tape : ws[oq_tape]? = some (oa_tape, .inl (cB, (120, .inl ov_tape)))) (f0_oq_texts : ws[oq_texts]? = some (oa_texts, .inl (cT, (15, .inr (.inr (.inr (.inr ov_texts))))))) (hnd : [tq, oq, tq_grounds, tq_tape, tq_texts, oq_grounds, oq_tape, oq_texts].Nodup) (hT_texts : ∀ i : Nat, i < 15 → ∀ y : Nat, ov_texts i = some y → ∃ (k : Nat) (fs : List Value), ws[k]? = some (y, .inr (10, fs))) (hB_tape : ∀ i : Nat, i < 120 → fits .byte (.int (ov_tape i)) = true) (ew_1 : w_1 = (ws).set tq_grounds (ta_grounds, .inl (cI, (30, .inl (va_cpy ov_grounds tv_grounds 0 0 30))))) (ew_2 : w_2 = (w_1).set tq (ta, .inr (4, [.ref ta_grounds, .int ov_today, .ref ta_tape, .int tv_bytes, .ref ta_texts, .int tv_textCount]))) (ew_3 : w_3 = (w_2).set tq_tape (ta_tape, .inl (cB, (120, .inl (va_cpy ov_tape tv_tape 0 0 120))))) (ew_4 : w_4 = (w_3).set tq (ta, .inr (4, [.ref ta_grounds, .int ov_today, .ref ta_tape, .int ov_bytes, .ref ta_texts, .int tv_textCount]))) (ew_5 : w_5 = (w_4).set tq_texts (ta_texts, .inl (cT, (15, .inr (.inr (.inr (.inr (va_cpy ov_texts tv_texts 0 0 15)))))))) (ew_6 : w_6 = (w_5).set tq (ta, .inr (4, [.ref ta_grounds, .int ov_today, .ref ta_tape, .int ov_bytes, .ref ta_texts, .int ov_textCount]))) : Met l yX4_copyFrom (Cond.code yX4_copyFrom cX4_copyFrom 2 none :: wsG) ({ frames := 2, cells := 0, slots := 0, locals := 81 } : Room) (preW D (tyC cI cZ cJ cB cR cT) ws sz [.ref ta, .ref oa]) (qv0 D (tyC cI cZ cJ cB cR cT) (va_A ws sz) True w_6) 0 0 (va_A ws sz) := by
  refine st_met (cc := cX4_copyFrom) (maxL := 2) (ret := none) (lv := [(0, .ref ta), (1, .ref oa)]) (Qc := fun A => qv0 D (tyC cI cZ cJ cB cR cT) A True w_6) (by decide) rfl (Nat.le_of_ble_eq_true rfl) rfl ?_
  intro p e s m below meth c ls A R args QQ H locs C hr hlk hnm hK hX hsz hl hO hR hQQ
  have hx := C.1
  have hb := C.2.1
  have hown := C.2.2.2.1
  have hts := C.2.2.2.2
  have hin : ∀ w ∈ u_ws RX4 TX4 6, w ∈ (Cond.code yX4_copyFrom cX4_copyFrom 2 none :: wsG) := fun w h9 => List.mem_cons_of_mem _ (inG4 w h9)
  have lk_9_grounds := hts (Cond.fieldLink RX4 9 "FreeCity$Land" "grounds" "[I") (List.mem_cons_of_mem _ qw1_41)
  have lk_29_today := hts (Cond.fieldLink RX4 29 "FreeCity$Land" "today" "I") (List.mem_cons_of_mem _ qw1_44)
  have lk_15_tape := hts (Cond.fieldLink RX4 15 "FreeCity$Land" "tape" "[B") (List.mem_cons_of_mem _ qw1_46)
  have lk_39_bytes := hts (Cond.fieldLink RX4 39 "FreeCity$Land" "bytes" "I") (List.mem_cons_of_mem _ qw1_49)
  have lk_21_texts := hts (Cond.fieldLink RX4 21 "FreeCity$Land" "texts" "[LFreeCity$Text;") (List.mem_cons_of_mem _ qw1_51)
  have lk_42_textCount := hts (Cond.fieldLink RX4 42 "FreeCity$Land" "textCount" "I") (List.mem_cons_of_mem _ qw1_52)
  have ft := f0_tq
  have fo := f0_oq
  refine lv_aload_n hx hb dX4_copyFrom_0 rfl (lv_at hl 1 rfl) ?_
  refine va_get (C := RX4) (T := TX4) (N := 6) (ci := 4) hx hb hts hin hown hK hO.1 oq fo rfl 0 (by decide) lk_9_grounds (fun _ h9 => h9) rfl dX4_copyFrom_1 ?_
  refine lv_aload_n hx hb dX4_copyFrom_4 rfl (lv_at hl 0 rfl) ?_
  refine va_get (C := RX4) (T := TX4) (N := 6) (ci := 4) hx hb hts hin hown hK hO.1 tq ft rfl 0 (by decide) lk_9_grounds (fun _ h9 => h9) rfl dX4_copyFrom_5 ?_
  have fa := f0_oq_grounds
  have fb := f0_tq_grounds
  refine cSNv0 (As := [.ref oa_grounds, .ref ta_grounds]) (rest := []) C hK hX hO (c_X11_copyRow (l := l) fa fb (rfl : (tyC cI cZ cJ cB cR cT)[0]? = _) (by decide)) ⟨va_cnB 2 hts gi_X4_25 rfl rfl rfl (nWm hX nm_X4_25) (hts _ (List.mem_cons_of_mem _ qw1_1)) hd_X11_copyRow (rok hR (Nat.le_of_ble_eq_true rfl) (Nat.le_of_ble_eq_true rfl)), hts _ (List.mem_cons_of_mem _ qw5_157), trivial⟩ rfl hl.1 rfl (Nat.le_of_ble_eq_true rfl) dX4_copyFrom_8 ⟨Nat.zero_le _, Nat.zero_le _⟩ (fun H locs _ hO => ?_)
  have hO : okW D A s.heap H locs w_1 := okW_set ew_1 hO
  have hT_texts := hT_set ew_1 fb (by intro fs q; cases q) hT_texts
  have ft := set_ne ew_1 ft (nd_ne hnd (i := 2) (j := 0) (by decide) rfl rfl)
  have fo := set_ne ew_1 fo (nd_ne hnd (i := 2) (j := 1) (by decide) rfl rfl)
  refine lv_aload_n hx hb dX4_copyFrom_11 rfl (lv_at hl 0 rfl) ?_
  refine lv_aload_n hx hb dX4_copyFrom_12 rfl (lv_at hl 1 rfl) ?_
  refine va_get (C := RX4) (T := TX4) (N := 6) (ci := 4) hx hb hts hin hown hK hO.1 oq fo rfl 1 (by decide) lk_29_today (fun _ h9 => h9) rfl dX4_copyFrom_13 ?_
  refine va_put (C := RX4) (T := TX4) (N := 6) (ci := 4) (ty := .int) (v := .int ov_today) hx hb hts hin tyX4 tyX4_ok nmX4 hown hK hO.1 hO.2.1 hO.2.2.1 tq ft rfl 1 (by decide) lk_29_today (fun _ h9 => h9) rfl (by decide +kernel) rfl rfl (Nat.le_of_ble_eq_true rfl) dX4_copyFrom_16 (fun H locs hP hD hS => ?_)
  have hO : okW D A s.heap H locs w_2 := okW_set ew_2 ⟨hP, hD, hS, hO.2.2.2⟩
  have hT_texts := hT_set ew_2 ft (by intro fs q; cases q) hT_texts
  have ft := set_at ew_2 ft
  have fo := set_ne ew_2 fo (nd_ne hnd (i := 0) (j := 1) (by decide) rfl rfl)
  refine lv_aload_n hx hb dX4_copyFrom_19 rfl (lv_at hl 1 rfl) ?_
  refine va_get (C := RX4) (T := TX4) (N := 6) (ci := 4) hx hb hts hin hown hK hO.1 oq fo rfl 2 (by decide) lk_15_tape (fun _ h9 => h9) rfl dX4_copyFrom_20 ?_
  refine lv_iconst (v := nI 0) hx hb dX4_copyFrom_23 (by decide) ?_
  refine lv_aload_n hx hb dX4_copyFrom_24 rfl (lv_at hl 0 rfl) ?_
  refine va_get (C := RX4) (T := TX4) (N := 6) (ci := 4) hx hb hts hin hown hK hO.1 tq ft rfl 2 (by decide) lk_15_tape (fun _ h9 => h9) rfl dX4_copyFrom_25 ?_
  refine lv_iconst (v := nI 0) hx hb dX4_copyFrom_28 (by decide) ?_
  refine lv_bipush (v := nI 120) hx hb dX4_copyFrom_29 (by decide) ?_
  have fa := (set_ne ew_2 (set_ne ew_1 f0_oq_tape (nd_ne hnd (i := 2) (j := 6) (by decide) rfl rfl)) (nd_ne hnd (i := 0) (j := 6) (by decide) rfl rfl))
  have fb := (set_ne ew_2 (set_ne ew_1 f0_tq_tape (nd_ne hnd (i := 2) (j := 3) (by decide) rfl rfl)) (nd_ne hnd (i := 0) (j := 3) (by decide) rfl rfl))
  refine va_copyi (ty := .byte) hx hb (C.2.2.1.trans hl.1.symm) hown (hts (Cond.methodLink RX4 33 arraycopyName) (List.mem_cons_of_mem _ qw5_161)) (hts (Cond.native arraycopyName) (List.mem_cons_of_mem _ qw3_10)) (hts (Cond.static arraycopyName) (List.mem_cons_of_mem _ qw3_9)) (hts (Cond.initialized "java/lang/System") (List.mem_cons_of_mem _ qw1_15)) hK hO.1 hO.2.1 hO.2.2.1 oq_tape tq_tape 3 3 fa fb rfl rfl rfl (by decide) (by decide) (by decide) (by decide) (by decide) (fun i hi => by rw [show (nI 0).toNatClampNeg = 0 from by decide, Nat.zero_add]; exact hB_tape i (by rw [show (nI 120).toNatClampNeg = 120 from by decide] at hi; exact hi)) (by rw [← hR]; exact Nat.le_of_ble_eq_true rfl) (by rw [← hR]; exact Nat.le_of_ble_eq_true rfl) dX4_copyFrom_31 (fun H locs hP hD hS => ?_)
  rw [show (nI 120).toNatClampNeg = 120 from by decide, show (nI 0).toNatClampNeg = 0 from by decide] at hP hD
  have hO : okW D A s.heap H locs w_3 := okW_set ew_3 ⟨hP, hD, hS, hO.2.2.2⟩
  have hT_texts := hT_set ew_3 fb (by intro fs q; cases q) hT_texts
  have ft := set_ne ew_3 ft (nd_ne hnd (i := 3) (j := 0) (by decide) rfl rfl)
  have fo := set_ne ew_3 fo (nd_ne hnd (i := 3) (j := 1) (by decide) rfl rfl)
  refine lv_aload_n hx hb dX4_copyFrom_34 rfl (lv_at hl 0 rfl) ?_
  refine lv_aload_n hx hb dX4_copyFrom_35 rfl (lv_at hl 1 rfl) ?_
  refine va_get (C := RX4) (T := TX4) (N := 6) (ci := 4) hx hb hts hin hown hK hO.1 oq fo rfl 3 (by decide) lk_39_bytes (fun _ h9 => h9) rfl dX4_copyFrom_36 ?_
  refine va_put (C := RX4) (T := TX4) (N := 6) (ci := 4) (ty := .int) (v := .int ov_bytes) hx hb hts hin tyX4 tyX4_ok nmX4 hown hK hO.1 hO.2.1 hO.2.2.1 tq ft rfl 3 (by decide) lk_39_bytes (fun _ h9 => h9) rfl (by decide +kernel) rfl rfl (Nat.le_of_ble_eq_true rfl) dX4_copyFrom_39 (fun H locs hP hD hS => ?_)
  have hO : okW D A s.heap H locs w_4 := okW_set ew_4 ⟨hP, hD, hS, hO.2.2.2⟩
  have hT_texts := hT_set ew_4 ft (by intro fs q; cases q) hT_texts
  have ft := set_at ew_4 ft
  have fo := set_ne ew_4 fo (nd_ne hnd (i := 0) (j := 1) (by decide) rfl rfl)
  refine lv_aload_n hx hb dX4_copyFrom_42 rfl (lv_at hl 1 rfl) ?_
  refine va_get (C := RX4) (T := TX4) (N := 6) (ci := 4) hx hb hts hin hown hK hO.1 oq fo rfl 4 (by decide) lk_21_texts (fun _ h9 => h9) rfl dX4_copyFrom_43 ?_
  refine lv_iconst (v := nI 0) hx hb dX4_copyFrom_46 (by decide) ?_
  refine lv_aload_n hx hb dX4_copyFrom_47 rfl (lv_at hl 0 rfl) ?_
  refine va_get (C := RX4) (T := TX4) (N := 6) (ci := 4) hx hb hts hin hown hK hO.1 tq ft rfl 4 (by decide) lk_21_texts (fun _ h9 => h9) rfl dX4_copyFrom_48 ?_
  refine lv_iconst (v := nI 0) hx hb dX4_copyFrom_51 (by decide) ?_
  refine lv_bipush (v := nI 15) hx hb dX4_copyFrom_52 (by decide) ?_
  have fa := (set_ne ew_4 (set_ne ew_3 (set_ne ew_2 (set_ne ew_1 f0_oq_texts (nd_ne hnd (i := 2) (j := 7) (by decide) rfl rfl)) (nd_ne hnd (i := 0) (j := 7) (by decide) rfl rfl)) (nd_ne hnd (i := 3) (j := 7) (by decide) rfl rfl)) (nd_ne hnd (i := 0) (j := 7) (by decide) rfl rfl))
  have fb := (set_ne ew_4 (set_ne ew_3 (set_ne ew_2 (set_ne ew_1 f0_tq_texts (nd_ne hnd (i := 2) (j := 4) (by decide) rfl rfl)) (nd_ne hnd (i := 0) (j := 4) (by decide) rfl rfl)) (nd_ne hnd (i := 3) (j := 4) (by decide) rfl rfl)) (nd_ne hnd (i := 0) (j := 4) (by decide) rfl rfl))
  refine va_copyq (E0 := "FreeCity$Text") (E1 := "FreeCity$Text") (C := "FreeCity$Text") hx hb (C.2.2.1.trans hl.1.symm) hown (hts (Cond.methodLink RX4 33 arraycopyName) (List.mem_cons_of_mem _ qw5_161)) (hts (Cond.native arraycopyName) (List.mem_cons_of_mem _ qw3_10)) (hts (Cond.static arraycopyName) (List.mem_cons_of_mem _ qw3_9)) (hts (Cond.initialized "java/lang/System") (List.mem_cons_of_mem _ qw1_15)) hK hO.1 hO.2.1 hO.2.2.1 oq_texts tq_texts 5 5 fa fb rfl rfl (by decide) (by decide) (by decide) (by decide) (by decide) (fun i hi => by rw [show (nI 0).toNatClampNeg = 0 from by decide, Nat.zero_add]; exact hel_of (ci := 10) (C := RX10) (T := TX10) (N := 4) hK hO.1 rfl hT_texts i (by rw [show (nI 15).toNatClampNeg = 15 from by decide] at hi; exact hi)) (hasg_of (ci := 10) (C := RX10) (T := TX10) (N := 4) hK rfl) (by rw [← hR]; exact Nat.le_of_ble_eq_true rfl) (by rw [← hR]; exact Nat.le_of_ble_eq_true rfl) dX4_copyFrom_54 (fun H locs hP hD hS => ?_)
  rw [show (nI 15).toNatClampNeg = 15 from by decide, show (nI 0).toNatClampNeg = 0 from by decide] at hP hD
  have hO : okW D A s.heap H locs w_5 := okW_set ew_5 ⟨hP, hD, hS, hO.2.2.2⟩
  have ft := set_ne ew_5 ft (nd_ne hnd (i := 4) (j := 0) (by decide) rfl rfl)
  have fo := set_ne ew_5 fo (nd_ne hnd (i := 4) (j := 1) (by decide) rfl rfl)
  refine lv_aload_n hx hb dX4_copyFrom_57 rfl (lv_at hl 0 rfl) ?_
  refine lv_aload_n hx hb dX4_copyFrom_58 rfl (lv_at hl 1 rfl) ?_
  refine va_get (C := RX4) (T := TX4) (N := 6) (ci := 4) hx hb hts hin hown hK hO.1 oq fo rfl 5 (by decide) lk_42_textCount (fun _ h9 => h9) rfl dX4_copyFrom_59 ?_
  refine va_put (C := RX4) (T := TX4) (N := 6) (ci := 4) (ty := .int) (v := .int ov_textCount) hx hb hts hin tyX4 tyX4_ok nmX4 hown hK hO.1 hO.2.1 hO.2.2.1 tq ft rfl 5 (by decide) lk_42_textCount (fun _ h9 => h9) rfl (by decide +kernel) rfl rfl (Nat.le_of_ble_eq_true rfl) dX4_copyFrom_62 (fun H locs hP hD hS => ?_)
  have hO : okW D A s.heap H locs w_6 := okW_set ew_6 ⟨hP, hD, hS, hO.2.2.2⟩
  have ft := set_at ew_6 ft
  have fo := set_ne ew_6 fo (nd_ne hnd (i := 0) (j := 1) (by decide) rfl rfl)
  exact rv0 hQQ hx hb hr hlk hK hO trivial dX4_copyFrom_65
theorem gi_X2_41 {a : Cond} : GoodIn (a :: wsG) (Cond.code yX11_copyRow_ cX11_copyRow_ 2 none :: wsG) := gdI qw5_169
theorem hd_X11_copyRow_ : yX11_copyRow_.cls ≠ "java/lang/invoke/MethodHandle" ∧ yX11_copyRow_.cls ≠ "java/lang/invoke/VarHandle" ∧ (parseMethodDescriptor yX11_copyRow_.desc).map (fun d => d.parameters.length) = some 2 := by decide +kernel
theorem gi_X2_45 {a : Cond} : GoodIn (a :: wsG) (Cond.code yX11_copyRow cX11_copyRow 2 none :: wsG) := gdI qw5_158

set_option maxHeartbeats 4000000 in
set_option maxRecDepth 100000 in
theorem c_X2_copyFrom {l : Launch} {D : va_G} {cI cZ cJ cB cR cT : ClassId} {ws : va_W} {sz : Nat} {ta oa ta_rights ta_leans ta_heardOn oa_rights oa_leans oa_heardOn : Nat} {tq oq tq_rights tq_leans tq_heardOn oq_rights oq_leans oq_heardOn : Nat} {tv_count ov_count : Int32} {tv_overruled ov_overruled : Int64} {tv_termDays ov_termDays : Int32} {tv_step ov_step : Int32} {tv_rights ov_rights : Nat → Option Nat} {tv_leans ov_leans : Nat → Int64} {tv_heardOn ov_heardOn : Nat → Int32} {w_1 w_2 w_3 w_4 w_5 w_6 w_7 : va_W} (f0_tq : ws[tq]? = some (ta, .inr (2, [.ref ta_rights, .int tv_count, .ref ta_leans, .ref ta_heardOn, .long tv_overruled, .int tv_termDays, .int tv_step]))) (f0_oq : ws[oq]? = some (oa, .inr (2, [.ref oa_rights, .int ov_count, .ref oa_leans, .ref oa_heardOn, .long ov_overruled, .int ov_termDays, .int ov_step]))) (f0_tq_rights : ws[tq_rights]? = some (ta_rights, .inl (cR, (50, .inr (.inr (.inr (.inr tv_rights))))))) (f0_tq_leans : ws[tq_leans]? = some (ta_leans, .inl (cJ, (50, .inr (.inl tv_leans))))) (f0_tq_heardOn : ws[tq_heardOn]? = some (ta_heardOn, .inl (cI, (50, .inl tv_heardOn)))) (f0_oq_rights : ws[oq_rights]? = some (oa_rights, .inl (cR, (50, .inr (.inr (.inr (.inr ov_rights))))))) (f0_oq_leans : ws[oq_leans]? = some (oa_leans, .inl (cJ, (50, .inr (.inl ov_leans))))) (f0_oq_heardOn : ws[oq_heardOn]? = some (oa_heardOn, .inl (cI, (50, .inl ov_heardOn)))) (hnd : [tq, oq, tq_rights, tq_leans, tq_heardOn, oq_rights, oq_leans, oq_heardOn].Nodup) (hT_rights : ∀ i : Nat, i < 50 → ∀ y : Nat, ov_rights i = some y → ∃ (k : Nat) (fs : List Value), ws[k]? = some (y, .inr (9, fs))) (ew_1 : w_1 = (ws).set tq_rights (ta_rights, .inl (cR, (50, .inr (.inr (.inr (.inr (va_cpy ov_rights tv_rights 0 0 50)))))))) (ew_2 : w_2 = (w_1).set tq (ta, .inr (2, [.ref ta_rights, .int ov_count, .ref ta_leans, .ref ta_heardOn, .long tv_overruled, .int tv_termDays, .int tv_step]))) (ew_3 : w_3 = (w_2).set tq_leans (ta_leans, .inl (cJ, (50, .inr (.inl (va_cpy ov_leans tv_leans 0 0 50)))))) (ew_4 : w_4 = (w_3).set tq_heardOn (ta_heardOn, .inl (cI, (50, .inl (va_cpy ov_heardOn tv_heardOn 0 0 50))))) (ew_5 : w_5 = (w_4).set tq (ta, .inr (2, [.ref ta_rights, .int ov_count, .ref ta_leans, .ref ta_heardOn, .long ov_overruled, .int tv_termDays, .int tv_step]))) (ew_6 : w_6 = (w_5).set tq (ta, .inr (2, [.ref ta_rights, .int ov_count, .ref ta_leans, .ref ta_heardOn, .long ov_overruled, .int ov_termDays, .int tv_step]))) (ew_7 : w_7 = (w_6).set tq (ta, .inr (2, [.ref ta_rights, .int ov_count, .ref ta_leans, .ref ta_heardOn, .long ov_overruled, .int ov_termDays, .int ov_step]))) : Met l yX2_copyFrom (Cond.code yX2_copyFrom cX2_copyFrom 2 none :: wsG) ({ frames := 2, cells := 0, slots := 0, locals := 81 } : Room) (preW D (tyC cI cZ cJ cB cR cT) ws sz [.ref ta, .ref oa]) (qv0 D (tyC cI cZ cJ cB cR cT) (va_A ws sz) True w_7) 0 0 (va_A ws sz) := by
  refine st_met (cc := cX2_copyFrom) (maxL := 2) (ret := none) (lv := [(0, .ref ta), (1, .ref oa)]) (Qc := fun A => qv0 D (tyC cI cZ cJ cB cR cT) A True w_7) (by decide) rfl (Nat.le_of_ble_eq_true rfl) rfl ?_
  intro p e s m below meth c ls A R args QQ H locs C hr hlk hnm hK hX hsz hl hO hR hQQ
  have hx := C.1
  have hb := C.2.1
  have hown := C.2.2.2.1
  have hts := C.2.2.2.2
  have hin : ∀ w ∈ u_ws RX2 TX2 7, w ∈ (Cond.code yX2_copyFrom cX2_copyFrom 2 none :: wsG) := fun w h9 => List.mem_cons_of_mem _ (inG2 w h9)
  have lk_11_rights := hts (Cond.fieldLink RX2 11 "FreeCity$Court" "rights" "[LFreeCity$Right;") (List.mem_cons_of_mem _ qw1_77)
  have lk_38_count := hts (Cond.fieldLink RX2 38 "FreeCity$Court" "count" "I") (List.mem_cons_of_mem _ qw1_78)
  have lk_17_leans := hts (Cond.fieldLink RX2 17 "FreeCity$Court" "leans" "[J") (List.mem_cons_of_mem _ qw1_80)
  have lk_21_heardOn := hts (Cond.fieldLink RX2 21 "FreeCity$Court" "heardOn" "[I") (List.mem_cons_of_mem _ qw1_82)
  have lk_48_overruled := hts (Cond.fieldLink RX2 48 "FreeCity$Court" "overruled" "J") (List.mem_cons_of_mem _ qw1_84)
  have lk_25_termDays := hts (Cond.fieldLink RX2 25 "FreeCity$Court" "termDays" "I") (List.mem_cons_of_mem _ qw1_85)
  have lk_29_step := hts (Cond.fieldLink RX2 29 "FreeCity$Court" "step" "I") (List.mem_cons_of_mem _ qw1_87)
  have ft := f0_tq
  have fo := f0_oq
  refine lv_aload_n hx hb dX2_copyFrom_0 rfl (lv_at hl 1 rfl) ?_
  refine va_get (C := RX2) (T := TX2) (N := 7) (ci := 2) hx hb hts hin hown hK hO.1 oq fo rfl 0 (by decide) lk_11_rights (fun _ h9 => h9) rfl dX2_copyFrom_1 ?_
  refine lv_iconst (v := nI 0) hx hb dX2_copyFrom_4 (by decide) ?_
  refine lv_aload_n hx hb dX2_copyFrom_5 rfl (lv_at hl 0 rfl) ?_
  refine va_get (C := RX2) (T := TX2) (N := 7) (ci := 2) hx hb hts hin hown hK hO.1 tq ft rfl 0 (by decide) lk_11_rights (fun _ h9 => h9) rfl dX2_copyFrom_6 ?_
  refine lv_iconst (v := nI 0) hx hb dX2_copyFrom_9 (by decide) ?_
  refine lv_bipush (v := nI 50) hx hb dX2_copyFrom_10 (by decide) ?_
  have fa := f0_oq_rights
  have fb := f0_tq_rights
  refine va_copyq (E0 := "FreeCity$Right") (E1 := "FreeCity$Right") (C := "FreeCity$Right") hx hb (C.2.2.1.trans hl.1.symm) hown (hts (Cond.methodLink RX2 32 arraycopyName) (List.mem_cons_of_mem _ qw5_166)) (hts (Cond.native arraycopyName) (List.mem_cons_of_mem _ qw3_10)) (hts (Cond.static arraycopyName) (List.mem_cons_of_mem _ qw3_9)) (hts (Cond.initialized "java/lang/System") (List.mem_cons_of_mem _ qw1_15)) hK hO.1 hO.2.1 hO.2.2.1 oq_rights tq_rights 4 4 fa fb rfl rfl (by decide) (by decide) (by decide) (by decide) (by decide) (fun i hi => by rw [show (nI 0).toNatClampNeg = 0 from by decide, Nat.zero_add]; exact hel_of (ci := 9) (C := RX9) (T := TX9) (N := 8) hK hO.1 rfl hT_rights i (by rw [show (nI 50).toNatClampNeg = 50 from by decide] at hi; exact hi)) (hasg_of (ci := 9) (C := RX9) (T := TX9) (N := 8) hK rfl) (by rw [← hR]; exact Nat.le_of_ble_eq_true rfl) (by rw [← hR]; exact Nat.le_of_ble_eq_true rfl) dX2_copyFrom_12 (fun H locs hP hD hS => ?_)
  rw [show (nI 50).toNatClampNeg = 50 from by decide, show (nI 0).toNatClampNeg = 0 from by decide] at hP hD
  have hO : okW D A s.heap H locs w_1 := okW_set ew_1 ⟨hP, hD, hS, hO.2.2.2⟩
  have ft := set_ne ew_1 ft (nd_ne hnd (i := 2) (j := 0) (by decide) rfl rfl)
  have fo := set_ne ew_1 fo (nd_ne hnd (i := 2) (j := 1) (by decide) rfl rfl)
  refine lv_aload_n hx hb dX2_copyFrom_15 rfl (lv_at hl 0 rfl) ?_
  refine lv_aload_n hx hb dX2_copyFrom_16 rfl (lv_at hl 1 rfl) ?_
  refine va_get (C := RX2) (T := TX2) (N := 7) (ci := 2) hx hb hts hin hown hK hO.1 oq fo rfl 1 (by decide) lk_38_count (fun _ h9 => h9) rfl dX2_copyFrom_17 ?_
  refine va_put (C := RX2) (T := TX2) (N := 7) (ci := 2) (ty := .int) (v := .int ov_count) hx hb hts hin tyX2 tyX2_ok nmX2 hown hK hO.1 hO.2.1 hO.2.2.1 tq ft rfl 1 (by decide) lk_38_count (fun _ h9 => h9) rfl (by decide +kernel) rfl rfl (Nat.le_of_ble_eq_true rfl) dX2_copyFrom_20 (fun H locs hP hD hS => ?_)
  have hO : okW D A s.heap H locs w_2 := okW_set ew_2 ⟨hP, hD, hS, hO.2.2.2⟩
  have ft := set_at ew_2 ft
  have fo := set_ne ew_2 fo (nd_ne hnd (i := 0) (j := 1) (by decide) rfl rfl)
  refine lv_aload_n hx hb dX2_copyFrom_23 rfl (lv_at hl 1 rfl) ?_
  refine va_get (C := RX2) (T := TX2) (N := 7) (ci := 2) hx hb hts hin hown hK hO.1 oq fo rfl 2 (by decide) lk_17_leans (fun _ h9 => h9) rfl dX2_copyFrom_24 ?_
  refine lv_aload_n hx hb dX2_copyFrom_27 rfl (lv_at hl 0 rfl) ?_
  refine va_get (C := RX2) (T := TX2) (N := 7) (ci := 2) hx hb hts hin hown hK hO.1 tq ft rfl 2 (by decide) lk_17_leans (fun _ h9 => h9) rfl dX2_copyFrom_28 ?_
  have fa := (set_ne ew_2 (set_ne ew_1 f0_oq_leans (nd_ne hnd (i := 2) (j := 6) (by decide) rfl rfl)) (nd_ne hnd (i := 0) (j := 6) (by decide) rfl rfl))
  have fb := (set_ne ew_2 (set_ne ew_1 f0_tq_leans (nd_ne hnd (i := 2) (j := 3) (by decide) rfl rfl)) (nd_ne hnd (i := 0) (j := 3) (by decide) rfl rfl))
  refine cSNv0 (As := [.ref oa_leans, .ref ta_leans]) (rest := []) C hK hX hO (c_X11_copyRow_ (l := l) fa fb (rfl : (tyC cI cZ cJ cB cR cT)[2]? = _) (by decide)) ⟨va_cnB 2 hts gi_X2_41 rfl rfl rfl (nWm hX nm_X2_41) (hts _ (List.mem_cons_of_mem _ qw1_1)) hd_X11_copyRow_ (rok hR (Nat.le_of_ble_eq_true rfl) (Nat.le_of_ble_eq_true rfl)), hts _ (List.mem_cons_of_mem _ qw5_168), trivial⟩ rfl hl.1 rfl (Nat.le_of_ble_eq_true rfl) dX2_copyFrom_31 ⟨Nat.zero_le _, Nat.zero_le _⟩ (fun H locs _ hO => ?_)
  have hO : okW D A s.heap H locs w_3 := okW_set ew_3 hO
  have ft := set_ne ew_3 ft (nd_ne hnd (i := 3) (j := 0) (by decide) rfl rfl)
  have fo := set_ne ew_3 fo (nd_ne hnd (i := 3) (j := 1) (by decide) rfl rfl)
  refine lv_aload_n hx hb dX2_copyFrom_34 rfl (lv_at hl 1 rfl) ?_
  refine va_get (C := RX2) (T := TX2) (N := 7) (ci := 2) hx hb hts hin hown hK hO.1 oq fo rfl 3 (by decide) lk_21_heardOn (fun _ h9 => h9) rfl dX2_copyFrom_35 ?_
  refine lv_aload_n hx hb dX2_copyFrom_38 rfl (lv_at hl 0 rfl) ?_
  refine va_get (C := RX2) (T := TX2) (N := 7) (ci := 2) hx hb hts hin hown hK hO.1 tq ft rfl 3 (by decide) lk_21_heardOn (fun _ h9 => h9) rfl dX2_copyFrom_39 ?_
  have fa := (set_ne ew_3 (set_ne ew_2 (set_ne ew_1 f0_oq_heardOn (nd_ne hnd (i := 2) (j := 7) (by decide) rfl rfl)) (nd_ne hnd (i := 0) (j := 7) (by decide) rfl rfl)) (nd_ne hnd (i := 3) (j := 7) (by decide) rfl rfl))
  have fb := (set_ne ew_3 (set_ne ew_2 (set_ne ew_1 f0_tq_heardOn (nd_ne hnd (i := 2) (j := 4) (by decide) rfl rfl)) (nd_ne hnd (i := 0) (j := 4) (by decide) rfl rfl)) (nd_ne hnd (i := 3) (j := 4) (by decide) rfl rfl))
  refine cSNv0 (As := [.ref oa_heardOn, .ref ta_heardOn]) (rest := []) C hK hX hO (c_X11_copyRow (l := l) fa fb (rfl : (tyC cI cZ cJ cB cR cT)[0]? = _) (by decide)) ⟨va_cnB 2 hts gi_X2_45 rfl rfl rfl (nWm hX nm_X2_45) (hts _ (List.mem_cons_of_mem _ qw1_1)) hd_X11_copyRow (rok hR (Nat.le_of_ble_eq_true rfl) (Nat.le_of_ble_eq_true rfl)), hts _ (List.mem_cons_of_mem _ qw5_157), trivial⟩ rfl hl.1 rfl (Nat.le_of_ble_eq_true rfl) dX2_copyFrom_42 ⟨Nat.zero_le _, Nat.zero_le _⟩ (fun H locs _ hO => ?_)
  have hO : okW D A s.heap H locs w_4 := okW_set ew_4 hO
  have ft := set_ne ew_4 ft (nd_ne hnd (i := 4) (j := 0) (by decide) rfl rfl)
  have fo := set_ne ew_4 fo (nd_ne hnd (i := 4) (j := 1) (by decide) rfl rfl)
  refine lv_aload_n hx hb dX2_copyFrom_45 rfl (lv_at hl 0 rfl) ?_
  refine lv_aload_n hx hb dX2_copyFrom_46 rfl (lv_at hl 1 rfl) ?_
  refine va_get (C := RX2) (T := TX2) (N := 7) (ci := 2) hx hb hts hin hown hK hO.1 oq fo rfl 4 (by decide) lk_48_overruled (fun _ h9 => h9) rfl dX2_copyFrom_47 ?_
  refine va_put (C := RX2) (T := TX2) (N := 7) (ci := 2) (ty := .long) (v := .long ov_overruled) hx hb hts hin tyX2 tyX2_ok nmX2 hown hK hO.1 hO.2.1 hO.2.2.1 tq ft rfl 4 (by decide) lk_48_overruled (fun _ h9 => h9) rfl (by decide +kernel) rfl rfl (Nat.le_of_ble_eq_true rfl) dX2_copyFrom_50 (fun H locs hP hD hS => ?_)
  have hO : okW D A s.heap H locs w_5 := okW_set ew_5 ⟨hP, hD, hS, hO.2.2.2⟩
  have ft := set_at ew_5 ft
  have fo := set_ne ew_5 fo (nd_ne hnd (i := 0) (j := 1) (by decide) rfl rfl)
  refine lv_aload_n hx hb dX2_copyFrom_53 rfl (lv_at hl 0 rfl) ?_
  refine lv_aload_n hx hb dX2_copyFrom_54 rfl (lv_at hl 1 rfl) ?_
  refine va_get (C := RX2) (T := TX2) (N := 7) (ci := 2) hx hb hts hin hown hK hO.1 oq fo rfl 5 (by decide) lk_25_termDays (fun _ h9 => h9) rfl dX2_copyFrom_55 ?_
  refine va_put (C := RX2) (T := TX2) (N := 7) (ci := 2) (ty := .int) (v := .int ov_termDays) hx hb hts hin tyX2 tyX2_ok nmX2 hown hK hO.1 hO.2.1 hO.2.2.1 tq ft rfl 5 (by decide) lk_25_termDays (fun _ h9 => h9) rfl (by decide +kernel) rfl rfl (Nat.le_of_ble_eq_true rfl) dX2_copyFrom_58 (fun H locs hP hD hS => ?_)
  have hO : okW D A s.heap H locs w_6 := okW_set ew_6 ⟨hP, hD, hS, hO.2.2.2⟩
  have ft := set_at ew_6 ft
  have fo := set_ne ew_6 fo (nd_ne hnd (i := 0) (j := 1) (by decide) rfl rfl)
  refine lv_aload_n hx hb dX2_copyFrom_61 rfl (lv_at hl 0 rfl) ?_
  refine lv_aload_n hx hb dX2_copyFrom_62 rfl (lv_at hl 1 rfl) ?_
  refine va_get (C := RX2) (T := TX2) (N := 7) (ci := 2) hx hb hts hin hown hK hO.1 oq fo rfl 6 (by decide) lk_29_step (fun _ h9 => h9) rfl dX2_copyFrom_63 ?_
  refine va_put (C := RX2) (T := TX2) (N := 7) (ci := 2) (ty := .int) (v := .int ov_step) hx hb hts hin tyX2 tyX2_ok nmX2 hown hK hO.1 hO.2.1 hO.2.2.1 tq ft rfl 6 (by decide) lk_29_step (fun _ h9 => h9) rfl (by decide +kernel) rfl rfl (Nat.le_of_ble_eq_true rfl) dX2_copyFrom_66 (fun H locs hP hD hS => ?_)
  have hO : okW D A s.heap H locs w_7 := okW_set ew_7 ⟨hP, hD, hS, hO.2.2.2⟩
  have ft := set_at ew_7 ft
  have fo := set_ne ew_7 fo (nd_ne hnd (i := 0) (j := 1) (by decide) rfl rfl)
  exact rv0 hQQ hx hb hr hlk hK hO trivial dX2_copyFrom_69
theorem gi_X7_60 {a : Cond} : GoodIn (a :: wsG) (Cond.code yX11_copyRow cX11_copyRow 2 none :: wsG) := gdI qw5_158

set_option maxHeartbeats 4000000 in
set_option maxRecDepth 100000 in
theorem c_X7_copyFrom {l : Launch} {D : va_G} {cI cZ cJ cB cR cT : ClassId} {ws : va_W} {sz : Nat} {ta oa ta_shipGoods ta_aboard ta_places ta_bond ta_sold ta_passed ta_tariffs ta_parts ta_purses ta_firmSides ta_owners ta_useFirms ta_useTons ta_quotas oa_shipGoods oa_aboard oa_places oa_bond oa_sold oa_passed oa_tariffs oa_parts oa_purses oa_firmSides oa_owners oa_useFirms oa_useTons oa_quotas : Nat} {tq oq tq_shipGoods tq_aboard tq_places tq_bond tq_sold tq_passed tq_tariffs tq_parts tq_purses tq_firmSides tq_owners tq_useFirms tq_useTons tq_quotas oq_shipGoods oq_aboard oq_places oq_bond oq_sold oq_passed oq_tariffs oq_parts oq_purses oq_firmSides oq_owners oq_useFirms oq_useTons oq_quotas : Nat} {tv_shipCount ov_shipCount : Int32} {tv_chest ov_chest : Int32} {tv_firmCount ov_firmCount : Int32} {tv_useCount ov_useCount : Int32} {tv_shipGoods ov_shipGoods : Nat → Int32} {tv_aboard ov_aboard : Nat → Int32} {tv_places ov_places : Nat → Int32} {tv_bond ov_bond : Nat → Int32} {tv_sold ov_sold : Nat → Int32} {tv_passed ov_passed : Nat → Int32} {tv_tariffs ov_tariffs : Nat → Int32} {tv_parts ov_parts : Nat → Int32} {tv_purses ov_purses : Nat → Int32} {tv_firmSides ov_firmSides : Nat → Int32} {tv_owners ov_owners : Nat → Int32} {tv_useFirms ov_useFirms : Nat → Int32} {tv_useTons ov_useTons : Nat → Int32} {tv_quotas ov_quotas : Nat → Int32} {w_1 w_2 w_3 w_4 w_5 w_6 w_7 w_8 w_9 w_10 w_11 w_12 w_13 w_14 w_15 w_16 w_17 w_18 : va_W} (f0_tq : ws[tq]? = some (ta, .inr (7, [.ref ta_shipGoods, .ref ta_aboard, .ref ta_places, .int tv_shipCount, .ref ta_bond, .ref ta_sold, .ref ta_passed, .ref ta_tariffs, .ref ta_parts, .ref ta_purses, .int tv_chest, .ref ta_firmSides, .ref ta_owners, .int tv_firmCount, .ref ta_useFirms, .ref ta_useTons, .int tv_useCount, .ref ta_quotas]))) (f0_oq : ws[oq]? = some (oa, .inr (7, [.ref oa_shipGoods, .ref oa_aboard, .ref oa_places, .int ov_shipCount, .ref oa_bond, .ref oa_sold, .ref oa_passed, .ref oa_tariffs, .ref oa_parts, .ref oa_purses, .int ov_chest, .ref oa_firmSides, .ref oa_owners, .int ov_firmCount, .ref oa_useFirms, .ref oa_useTons, .int ov_useCount, .ref oa_quotas]))) (f0_tq_shipGoods : ws[tq_shipGoods]? = some (ta_shipGoods, .inl (cI, (12, .inl tv_shipGoods)))) (f0_tq_aboard : ws[tq_aboard]? = some (ta_aboard, .inl (cI, (12, .inl tv_aboard)))) (f0_tq_places : ws[tq_places]? = some (ta_places, .inl (cI, (12, .inl tv_places)))) (f0_tq_bond : ws[tq_bond]? = some (ta_bond, .inl (cI, (4, .inl tv_bond)))) (f0_tq_sold : ws[tq_sold]? = some (ta_sold, .inl (cI, (4, .inl tv_sold)))) (f0_tq_passed : ws[tq_passed]? = some (ta_passed, .inl (cI, (4, .inl tv_passed)))) (f0_tq_tariffs : ws[tq_tariffs]? = some (ta_tariffs, .inl (cI, (4, .inl tv_tariffs)))) (f0_tq_parts : ws[tq_parts]? = some (ta_parts, .inl (cI, (3, .inl tv_parts)))) (f0_tq_purses : ws[tq_purses]? = some (ta_purses, .inl (cI, (3, .inl tv_purses)))) (f0_tq_firmSides : ws[tq_firmSides]? = some (ta_firmSides, .inl (cI, (10, .inl tv_firmSides)))) (f0_tq_owners : ws[tq_owners]? = some (ta_owners, .inl (cI, (10, .inl tv_owners)))) (f0_tq_useFirms : ws[tq_useFirms]? = some (ta_useFirms, .inl (cI, (40, .inl tv_useFirms)))) (f0_tq_useTons : ws[tq_useTons]? = some (ta_useTons, .inl (cI, (40, .inl tv_useTons)))) (f0_tq_quotas : ws[tq_quotas]? = some (ta_quotas, .inl (cI, (3, .inl tv_quotas)))) (f0_oq_shipGoods : ws[oq_shipGoods]? = some (oa_shipGoods, .inl (cI, (12, .inl ov_shipGoods)))) (f0_oq_aboard : ws[oq_aboard]? = some (oa_aboard, .inl (cI, (12, .inl ov_aboard)))) (f0_oq_places : ws[oq_places]? = some (oa_places, .inl (cI, (12, .inl ov_places)))) (f0_oq_bond : ws[oq_bond]? = some (oa_bond, .inl (cI, (4, .inl ov_bond)))) (f0_oq_sold : ws[oq_sold]? = some (oa_sold, .inl (cI, (4, .inl ov_sold)))) (f0_oq_passed : ws[oq_passed]? = some (oa_passed, .inl (cI, (4, .inl ov_passed)))) (f0_oq_tariffs : ws[oq_tariffs]? = some (oa_tariffs, .inl (cI, (4, .inl ov_tariffs)))) (f0_oq_parts : ws[oq_parts]? = some (oa_parts, .inl (cI, (3, .inl ov_parts)))) (f0_oq_purses : ws[oq_purses]? = some (oa_purses, .inl (cI, (3, .inl ov_purses)))) (f0_oq_firmSides : ws[oq_firmSides]? = some (oa_firmSides, .inl (cI, (10, .inl ov_firmSides)))) (f0_oq_owners : ws[oq_owners]? = some (oa_owners, .inl (cI, (10, .inl ov_owners)))) (f0_oq_useFirms : ws[oq_useFirms]? = some (oa_useFirms, .inl (cI, (40, .inl ov_useFirms)))) (f0_oq_useTons : ws[oq_useTons]? = some (oa_useTons, .inl (cI, (40, .inl ov_useTons)))) (f0_oq_quotas : ws[oq_quotas]? = some (oa_quotas, .inl (cI, (3, .inl ov_quotas)))) (hnd : [tq, oq, tq_shipGoods, tq_aboard, tq_places, tq_bond, tq_sold, tq_passed, tq_tariffs, tq_parts, tq_purses, tq_firmSides, tq_owners, tq_useFirms, tq_useTons, tq_quotas, oq_shipGoods, oq_aboard, oq_places, oq_bond, oq_sold, oq_passed, oq_tariffs, oq_parts, oq_purses, oq_firmSides, oq_owners, oq_useFirms, oq_useTons, oq_quotas].Nodup) (ew_1 : w_1 = (ws).set tq_shipGoods (ta_shipGoods, .inl (cI, (12, .inl (va_cpy ov_shipGoods tv_shipGoods 0 0 12))))) (ew_2 : w_2 = (w_1).set tq_aboard (ta_aboard, .inl (cI, (12, .inl (va_cpy ov_aboard tv_aboard 0 0 12))))) (ew_3 : w_3 = (w_2).set tq_places (ta_places, .inl (cI, (12, .inl (va_cpy ov_places tv_places 0 0 12))))) (ew_4 : w_4 = (w_3).set tq (ta, .inr (7, [.ref ta_shipGoods, .ref ta_aboard, .ref ta_places, .int ov_shipCount, .ref ta_bond, .ref ta_sold, .ref ta_passed, .ref ta_tariffs, .ref ta_parts, .ref ta_purses, .int tv_chest, .ref ta_firmSides, .ref ta_owners, .int tv_firmCount, .ref ta_useFirms, .ref ta_useTons, .int tv_useCount, .ref ta_quotas]))) (ew_5 : w_5 = (w_4).set tq_bond (ta_bond, .inl (cI, (4, .inl (va_cpy ov_bond tv_bond 0 0 4))))) (ew_6 : w_6 = (w_5).set tq_sold (ta_sold, .inl (cI, (4, .inl (va_cpy ov_sold tv_sold 0 0 4))))) (ew_7 : w_7 = (w_6).set tq_passed (ta_passed, .inl (cI, (4, .inl (va_cpy ov_passed tv_passed 0 0 4))))) (ew_8 : w_8 = (w_7).set tq_tariffs (ta_tariffs, .inl (cI, (4, .inl (va_cpy ov_tariffs tv_tariffs 0 0 4))))) (ew_9 : w_9 = (w_8).set tq_parts (ta_parts, .inl (cI, (3, .inl (va_cpy ov_parts tv_parts 0 0 3))))) (ew_10 : w_10 = (w_9).set tq_purses (ta_purses, .inl (cI, (3, .inl (va_cpy ov_purses tv_purses 0 0 3))))) (ew_11 : w_11 = (w_10).set tq (ta, .inr (7, [.ref ta_shipGoods, .ref ta_aboard, .ref ta_places, .int ov_shipCount, .ref ta_bond, .ref ta_sold, .ref ta_passed, .ref ta_tariffs, .ref ta_parts, .ref ta_purses, .int ov_chest, .ref ta_firmSides, .ref ta_owners, .int tv_firmCount, .ref ta_useFirms, .ref ta_useTons, .int tv_useCount, .ref ta_quotas]))) (ew_12 : w_12 = (w_11).set tq_firmSides (ta_firmSides, .inl (cI, (10, .inl (va_cpy ov_firmSides tv_firmSides 0 0 10))))) (ew_13 : w_13 = (w_12).set tq_owners (ta_owners, .inl (cI, (10, .inl (va_cpy ov_owners tv_owners 0 0 10))))) (ew_14 : w_14 = (w_13).set tq (ta, .inr (7, [.ref ta_shipGoods, .ref ta_aboard, .ref ta_places, .int ov_shipCount, .ref ta_bond, .ref ta_sold, .ref ta_passed, .ref ta_tariffs, .ref ta_parts, .ref ta_purses, .int ov_chest, .ref ta_firmSides, .ref ta_owners, .int ov_firmCount, .ref ta_useFirms, .ref ta_useTons, .int tv_useCount, .ref ta_quotas]))) (ew_15 : w_15 = (w_14).set tq_useFirms (ta_useFirms, .inl (cI, (40, .inl (va_cpy ov_useFirms tv_useFirms 0 0 40))))) (ew_16 : w_16 = (w_15).set tq_useTons (ta_useTons, .inl (cI, (40, .inl (va_cpy ov_useTons tv_useTons 0 0 40))))) (ew_17 : w_17 = (w_16).set tq (ta, .inr (7, [.ref ta_shipGoods, .ref ta_aboard, .ref ta_places, .int ov_shipCount, .ref ta_bond, .ref ta_sold, .ref ta_passed, .ref ta_tariffs, .ref ta_parts, .ref ta_purses, .int ov_chest, .ref ta_firmSides, .ref ta_owners, .int ov_firmCount, .ref ta_useFirms, .ref ta_useTons, .int ov_useCount, .ref ta_quotas]))) (ew_18 : w_18 = (w_17).set tq_quotas (ta_quotas, .inl (cI, (3, .inl (va_cpy ov_quotas tv_quotas 0 0 3))))) : Met l yX7_copyFrom (Cond.code yX7_copyFrom cX7_copyFrom 2 none :: wsG) ({ frames := 2, cells := 0, slots := 0, locals := 81 } : Room) (preW D (tyC cI cZ cJ cB cR cT) ws sz [.ref ta, .ref oa]) (qv0 D (tyC cI cZ cJ cB cR cT) (va_A ws sz) True w_18) 0 0 (va_A ws sz) := by
  refine st_met (cc := cX7_copyFrom) (maxL := 2) (ret := none) (lv := [(0, .ref ta), (1, .ref oa)]) (Qc := fun A => qv0 D (tyC cI cZ cJ cB cR cT) A True w_18) (by decide) rfl (Nat.le_of_ble_eq_true rfl) rfl ?_
  intro p e s m below meth c ls A R args QQ H locs C hr hlk hnm hK hX hsz hl hO hR hQQ
  have hx := C.1
  have hb := C.2.1
  have hown := C.2.2.2.1
  have hts := C.2.2.2.2
  have hin : ∀ w ∈ u_ws RX7 TX7 18, w ∈ (Cond.code yX7_copyFrom cX7_copyFrom 2 none :: wsG) := fun w h9 => List.mem_cons_of_mem _ (inG7 w h9)
  have lk_9_shipGoods := hts (Cond.fieldLink RX7 9 "FreeCity$Port" "shipGoods" "[I") (List.mem_cons_of_mem _ qw1_114)
  have lk_15_aboard := hts (Cond.fieldLink RX7 15 "FreeCity$Port" "aboard" "[I") (List.mem_cons_of_mem _ qw1_115)
  have lk_18_places := hts (Cond.fieldLink RX7 18 "FreeCity$Port" "places" "[I") (List.mem_cons_of_mem _ qw1_117)
  have lk_64_shipCount := hts (Cond.fieldLink RX7 64 "FreeCity$Port" "shipCount" "I") (List.mem_cons_of_mem _ qw1_119)
  have lk_21_bond := hts (Cond.fieldLink RX7 21 "FreeCity$Port" "bond" "[I") (List.mem_cons_of_mem _ qw1_121)
  have lk_24_sold := hts (Cond.fieldLink RX7 24 "FreeCity$Port" "sold" "[I") (List.mem_cons_of_mem _ qw1_123)
  have lk_27_passed := hts (Cond.fieldLink RX7 27 "FreeCity$Port" "passed" "[I") (List.mem_cons_of_mem _ qw1_125)
  have lk_30_tariffs := hts (Cond.fieldLink RX7 30 "FreeCity$Port" "tariffs" "[I") (List.mem_cons_of_mem _ qw1_127)
  have lk_33_parts := hts (Cond.fieldLink RX7 33 "FreeCity$Port" "parts" "[I") (List.mem_cons_of_mem _ qw1_129)
  have lk_36_purses := hts (Cond.fieldLink RX7 36 "FreeCity$Port" "purses" "[I") (List.mem_cons_of_mem _ qw1_131)
  have lk_68_chest := hts (Cond.fieldLink RX7 68 "FreeCity$Port" "chest" "I") (List.mem_cons_of_mem _ qw1_133)
  have lk_39_firmSides := hts (Cond.fieldLink RX7 39 "FreeCity$Port" "firmSides" "[I") (List.mem_cons_of_mem _ qw1_135)
  have lk_42_owners := hts (Cond.fieldLink RX7 42 "FreeCity$Port" "owners" "[I") (List.mem_cons_of_mem _ qw1_136)
  have lk_71_firmCount := hts (Cond.fieldLink RX7 71 "FreeCity$Port" "firmCount" "I") (List.mem_cons_of_mem _ qw1_137)
  have lk_45_useFirms := hts (Cond.fieldLink RX7 45 "FreeCity$Port" "useFirms" "[I") (List.mem_cons_of_mem _ qw1_139)
  have lk_48_useTons := hts (Cond.fieldLink RX7 48 "FreeCity$Port" "useTons" "[I") (List.mem_cons_of_mem _ qw1_140)
  have lk_74_useCount := hts (Cond.fieldLink RX7 74 "FreeCity$Port" "useCount" "I") (List.mem_cons_of_mem _ qw1_141)
  have lk_51_quotas := hts (Cond.fieldLink RX7 51 "FreeCity$Port" "quotas" "[I") (List.mem_cons_of_mem _ qw1_143)
  have ft := f0_tq
  have fo := f0_oq
  refine lv_aload_n hx hb dX7_copyFrom_0 rfl (lv_at hl 1 rfl) ?_
  refine va_get (C := RX7) (T := TX7) (N := 18) (ci := 7) hx hb hts hin hown hK hO.1 oq fo rfl 0 (by decide) lk_9_shipGoods (fun _ h9 => h9) rfl dX7_copyFrom_1 ?_
  refine lv_aload_n hx hb dX7_copyFrom_4 rfl (lv_at hl 0 rfl) ?_
  refine va_get (C := RX7) (T := TX7) (N := 18) (ci := 7) hx hb hts hin hown hK hO.1 tq ft rfl 0 (by decide) lk_9_shipGoods (fun _ h9 => h9) rfl dX7_copyFrom_5 ?_
  have fa := f0_oq_shipGoods
  have fb := f0_tq_shipGoods
  refine cSNv0 (As := [.ref oa_shipGoods, .ref ta_shipGoods]) (rest := []) C hK hX hO (c_X11_copyRow (l := l) fa fb (rfl : (tyC cI cZ cJ cB cR cT)[0]? = _) (by decide)) ⟨va_cnB 2 hts gi_X7_60 rfl rfl rfl (nWm hX nm_X7_60) (hts _ (List.mem_cons_of_mem _ qw1_1)) hd_X11_copyRow (rok hR (Nat.le_of_ble_eq_true rfl) (Nat.le_of_ble_eq_true rfl)), hts _ (List.mem_cons_of_mem _ qw5_157), trivial⟩ rfl hl.1 rfl (Nat.le_of_ble_eq_true rfl) dX7_copyFrom_8 ⟨Nat.zero_le _, Nat.zero_le _⟩ (fun H locs _ hO => ?_)
  have hO : okW D A s.heap H locs w_1 := okW_set ew_1 hO
  have ft := set_ne ew_1 ft (nd_ne hnd (i := 2) (j := 0) (by decide) rfl rfl)
  have fo := set_ne ew_1 fo (nd_ne hnd (i := 2) (j := 1) (by decide) rfl rfl)
  refine lv_aload_n hx hb dX7_copyFrom_11 rfl (lv_at hl 1 rfl) ?_
  refine va_get (C := RX7) (T := TX7) (N := 18) (ci := 7) hx hb hts hin hown hK hO.1 oq fo rfl 1 (by decide) lk_15_aboard (fun _ h9 => h9) rfl dX7_copyFrom_12 ?_
  refine lv_aload_n hx hb dX7_copyFrom_15 rfl (lv_at hl 0 rfl) ?_
  refine va_get (C := RX7) (T := TX7) (N := 18) (ci := 7) hx hb hts hin hown hK hO.1 tq ft rfl 1 (by decide) lk_15_aboard (fun _ h9 => h9) rfl dX7_copyFrom_16 ?_
  have fa := (set_ne ew_1 f0_oq_aboard (nd_ne hnd (i := 2) (j := 17) (by decide) rfl rfl))
  have fb := (set_ne ew_1 f0_tq_aboard (nd_ne hnd (i := 2) (j := 3) (by decide) rfl rfl))
  refine cSNv0 (As := [.ref oa_aboard, .ref ta_aboard]) (rest := []) C hK hX hO (c_X11_copyRow (l := l) fa fb (rfl : (tyC cI cZ cJ cB cR cT)[0]? = _) (by decide)) ⟨va_cnB 2 hts gi_X7_60 rfl rfl rfl (nWm hX nm_X7_60) (hts _ (List.mem_cons_of_mem _ qw1_1)) hd_X11_copyRow (rok hR (Nat.le_of_ble_eq_true rfl) (Nat.le_of_ble_eq_true rfl)), hts _ (List.mem_cons_of_mem _ qw5_157), trivial⟩ rfl hl.1 rfl (Nat.le_of_ble_eq_true rfl) dX7_copyFrom_19 ⟨Nat.zero_le _, Nat.zero_le _⟩ (fun H locs _ hO => ?_)
  have hO : okW D A s.heap H locs w_2 := okW_set ew_2 hO
  have ft := set_ne ew_2 ft (nd_ne hnd (i := 3) (j := 0) (by decide) rfl rfl)
  have fo := set_ne ew_2 fo (nd_ne hnd (i := 3) (j := 1) (by decide) rfl rfl)
  refine lv_aload_n hx hb dX7_copyFrom_22 rfl (lv_at hl 1 rfl) ?_
  refine va_get (C := RX7) (T := TX7) (N := 18) (ci := 7) hx hb hts hin hown hK hO.1 oq fo rfl 2 (by decide) lk_18_places (fun _ h9 => h9) rfl dX7_copyFrom_23 ?_
  refine lv_aload_n hx hb dX7_copyFrom_26 rfl (lv_at hl 0 rfl) ?_
  refine va_get (C := RX7) (T := TX7) (N := 18) (ci := 7) hx hb hts hin hown hK hO.1 tq ft rfl 2 (by decide) lk_18_places (fun _ h9 => h9) rfl dX7_copyFrom_27 ?_
  have fa := (set_ne ew_2 (set_ne ew_1 f0_oq_places (nd_ne hnd (i := 2) (j := 18) (by decide) rfl rfl)) (nd_ne hnd (i := 3) (j := 18) (by decide) rfl rfl))
  have fb := (set_ne ew_2 (set_ne ew_1 f0_tq_places (nd_ne hnd (i := 2) (j := 4) (by decide) rfl rfl)) (nd_ne hnd (i := 3) (j := 4) (by decide) rfl rfl))
  refine cSNv0 (As := [.ref oa_places, .ref ta_places]) (rest := []) C hK hX hO (c_X11_copyRow (l := l) fa fb (rfl : (tyC cI cZ cJ cB cR cT)[0]? = _) (by decide)) ⟨va_cnB 2 hts gi_X7_60 rfl rfl rfl (nWm hX nm_X7_60) (hts _ (List.mem_cons_of_mem _ qw1_1)) hd_X11_copyRow (rok hR (Nat.le_of_ble_eq_true rfl) (Nat.le_of_ble_eq_true rfl)), hts _ (List.mem_cons_of_mem _ qw5_157), trivial⟩ rfl hl.1 rfl (Nat.le_of_ble_eq_true rfl) dX7_copyFrom_30 ⟨Nat.zero_le _, Nat.zero_le _⟩ (fun H locs _ hO => ?_)
  have hO : okW D A s.heap H locs w_3 := okW_set ew_3 hO
  have ft := set_ne ew_3 ft (nd_ne hnd (i := 4) (j := 0) (by decide) rfl rfl)
  have fo := set_ne ew_3 fo (nd_ne hnd (i := 4) (j := 1) (by decide) rfl rfl)
  refine lv_aload_n hx hb dX7_copyFrom_33 rfl (lv_at hl 0 rfl) ?_
  refine lv_aload_n hx hb dX7_copyFrom_34 rfl (lv_at hl 1 rfl) ?_
  refine va_get (C := RX7) (T := TX7) (N := 18) (ci := 7) hx hb hts hin hown hK hO.1 oq fo rfl 3 (by decide) lk_64_shipCount (fun _ h9 => h9) rfl dX7_copyFrom_35 ?_
  refine va_put (C := RX7) (T := TX7) (N := 18) (ci := 7) (ty := .int) (v := .int ov_shipCount) hx hb hts hin tyX7 tyX7_ok nmX7 hown hK hO.1 hO.2.1 hO.2.2.1 tq ft rfl 3 (by decide) lk_64_shipCount (fun _ h9 => h9) rfl (by decide +kernel) rfl rfl (Nat.le_of_ble_eq_true rfl) dX7_copyFrom_38 (fun H locs hP hD hS => ?_)
  have hO : okW D A s.heap H locs w_4 := okW_set ew_4 ⟨hP, hD, hS, hO.2.2.2⟩
  have ft := set_at ew_4 ft
  have fo := set_ne ew_4 fo (nd_ne hnd (i := 0) (j := 1) (by decide) rfl rfl)
  refine lv_aload_n hx hb dX7_copyFrom_41 rfl (lv_at hl 1 rfl) ?_
  refine va_get (C := RX7) (T := TX7) (N := 18) (ci := 7) hx hb hts hin hown hK hO.1 oq fo rfl 4 (by decide) lk_21_bond (fun _ h9 => h9) rfl dX7_copyFrom_42 ?_
  refine lv_aload_n hx hb dX7_copyFrom_45 rfl (lv_at hl 0 rfl) ?_
  refine va_get (C := RX7) (T := TX7) (N := 18) (ci := 7) hx hb hts hin hown hK hO.1 tq ft rfl 4 (by decide) lk_21_bond (fun _ h9 => h9) rfl dX7_copyFrom_46 ?_
  have fa := (set_ne ew_4 (set_ne ew_3 (set_ne ew_2 (set_ne ew_1 f0_oq_bond (nd_ne hnd (i := 2) (j := 19) (by decide) rfl rfl)) (nd_ne hnd (i := 3) (j := 19) (by decide) rfl rfl)) (nd_ne hnd (i := 4) (j := 19) (by decide) rfl rfl)) (nd_ne hnd (i := 0) (j := 19) (by decide) rfl rfl))
  have fb := (set_ne ew_4 (set_ne ew_3 (set_ne ew_2 (set_ne ew_1 f0_tq_bond (nd_ne hnd (i := 2) (j := 5) (by decide) rfl rfl)) (nd_ne hnd (i := 3) (j := 5) (by decide) rfl rfl)) (nd_ne hnd (i := 4) (j := 5) (by decide) rfl rfl)) (nd_ne hnd (i := 0) (j := 5) (by decide) rfl rfl))
  refine cSNv0 (As := [.ref oa_bond, .ref ta_bond]) (rest := []) C hK hX hO (c_X11_copyRow (l := l) fa fb (rfl : (tyC cI cZ cJ cB cR cT)[0]? = _) (by decide)) ⟨va_cnB 2 hts gi_X7_60 rfl rfl rfl (nWm hX nm_X7_60) (hts _ (List.mem_cons_of_mem _ qw1_1)) hd_X11_copyRow (rok hR (Nat.le_of_ble_eq_true rfl) (Nat.le_of_ble_eq_true rfl)), hts _ (List.mem_cons_of_mem _ qw5_157), trivial⟩ rfl hl.1 rfl (Nat.le_of_ble_eq_true rfl) dX7_copyFrom_49 ⟨Nat.zero_le _, Nat.zero_le _⟩ (fun H locs _ hO => ?_)
  have hO : okW D A s.heap H locs w_5 := okW_set ew_5 hO
  have ft := set_ne ew_5 ft (nd_ne hnd (i := 5) (j := 0) (by decide) rfl rfl)
  have fo := set_ne ew_5 fo (nd_ne hnd (i := 5) (j := 1) (by decide) rfl rfl)
  refine lv_aload_n hx hb dX7_copyFrom_52 rfl (lv_at hl 1 rfl) ?_
  refine va_get (C := RX7) (T := TX7) (N := 18) (ci := 7) hx hb hts hin hown hK hO.1 oq fo rfl 5 (by decide) lk_24_sold (fun _ h9 => h9) rfl dX7_copyFrom_53 ?_
  refine lv_aload_n hx hb dX7_copyFrom_56 rfl (lv_at hl 0 rfl) ?_
  refine va_get (C := RX7) (T := TX7) (N := 18) (ci := 7) hx hb hts hin hown hK hO.1 tq ft rfl 5 (by decide) lk_24_sold (fun _ h9 => h9) rfl dX7_copyFrom_57 ?_
  have fa := (set_ne ew_5 (set_ne ew_4 (set_ne ew_3 (set_ne ew_2 (set_ne ew_1 f0_oq_sold (nd_ne hnd (i := 2) (j := 20) (by decide) rfl rfl)) (nd_ne hnd (i := 3) (j := 20) (by decide) rfl rfl)) (nd_ne hnd (i := 4) (j := 20) (by decide) rfl rfl)) (nd_ne hnd (i := 0) (j := 20) (by decide) rfl rfl)) (nd_ne hnd (i := 5) (j := 20) (by decide) rfl rfl))
  have fb := (set_ne ew_5 (set_ne ew_4 (set_ne ew_3 (set_ne ew_2 (set_ne ew_1 f0_tq_sold (nd_ne hnd (i := 2) (j := 6) (by decide) rfl rfl)) (nd_ne hnd (i := 3) (j := 6) (by decide) rfl rfl)) (nd_ne hnd (i := 4) (j := 6) (by decide) rfl rfl)) (nd_ne hnd (i := 0) (j := 6) (by decide) rfl rfl)) (nd_ne hnd (i := 5) (j := 6) (by decide) rfl rfl))
  refine cSNv0 (As := [.ref oa_sold, .ref ta_sold]) (rest := []) C hK hX hO (c_X11_copyRow (l := l) fa fb (rfl : (tyC cI cZ cJ cB cR cT)[0]? = _) (by decide)) ⟨va_cnB 2 hts gi_X7_60 rfl rfl rfl (nWm hX nm_X7_60) (hts _ (List.mem_cons_of_mem _ qw1_1)) hd_X11_copyRow (rok hR (Nat.le_of_ble_eq_true rfl) (Nat.le_of_ble_eq_true rfl)), hts _ (List.mem_cons_of_mem _ qw5_157), trivial⟩ rfl hl.1 rfl (Nat.le_of_ble_eq_true rfl) dX7_copyFrom_60 ⟨Nat.zero_le _, Nat.zero_le _⟩ (fun H locs _ hO => ?_)
  have hO : okW D A s.heap H locs w_6 := okW_set ew_6 hO
  have ft := set_ne ew_6 ft (nd_ne hnd (i := 6) (j := 0) (by decide) rfl rfl)
  have fo := set_ne ew_6 fo (nd_ne hnd (i := 6) (j := 1) (by decide) rfl rfl)
  refine lv_aload_n hx hb dX7_copyFrom_63 rfl (lv_at hl 1 rfl) ?_
  refine va_get (C := RX7) (T := TX7) (N := 18) (ci := 7) hx hb hts hin hown hK hO.1 oq fo rfl 6 (by decide) lk_27_passed (fun _ h9 => h9) rfl dX7_copyFrom_64 ?_
  refine lv_aload_n hx hb dX7_copyFrom_67 rfl (lv_at hl 0 rfl) ?_
  refine va_get (C := RX7) (T := TX7) (N := 18) (ci := 7) hx hb hts hin hown hK hO.1 tq ft rfl 6 (by decide) lk_27_passed (fun _ h9 => h9) rfl dX7_copyFrom_68 ?_
  have fa := (set_ne ew_6 (set_ne ew_5 (set_ne ew_4 (set_ne ew_3 (set_ne ew_2 (set_ne ew_1 f0_oq_passed (nd_ne hnd (i := 2) (j := 21) (by decide) rfl rfl)) (nd_ne hnd (i := 3) (j := 21) (by decide) rfl rfl)) (nd_ne hnd (i := 4) (j := 21) (by decide) rfl rfl)) (nd_ne hnd (i := 0) (j := 21) (by decide) rfl rfl)) (nd_ne hnd (i := 5) (j := 21) (by decide) rfl rfl)) (nd_ne hnd (i := 6) (j := 21) (by decide) rfl rfl))
  have fb := (set_ne ew_6 (set_ne ew_5 (set_ne ew_4 (set_ne ew_3 (set_ne ew_2 (set_ne ew_1 f0_tq_passed (nd_ne hnd (i := 2) (j := 7) (by decide) rfl rfl)) (nd_ne hnd (i := 3) (j := 7) (by decide) rfl rfl)) (nd_ne hnd (i := 4) (j := 7) (by decide) rfl rfl)) (nd_ne hnd (i := 0) (j := 7) (by decide) rfl rfl)) (nd_ne hnd (i := 5) (j := 7) (by decide) rfl rfl)) (nd_ne hnd (i := 6) (j := 7) (by decide) rfl rfl))
  refine cSNv0 (As := [.ref oa_passed, .ref ta_passed]) (rest := []) C hK hX hO (c_X11_copyRow (l := l) fa fb (rfl : (tyC cI cZ cJ cB cR cT)[0]? = _) (by decide)) ⟨va_cnB 2 hts gi_X7_60 rfl rfl rfl (nWm hX nm_X7_60) (hts _ (List.mem_cons_of_mem _ qw1_1)) hd_X11_copyRow (rok hR (Nat.le_of_ble_eq_true rfl) (Nat.le_of_ble_eq_true rfl)), hts _ (List.mem_cons_of_mem _ qw5_157), trivial⟩ rfl hl.1 rfl (Nat.le_of_ble_eq_true rfl) dX7_copyFrom_71 ⟨Nat.zero_le _, Nat.zero_le _⟩ (fun H locs _ hO => ?_)
  have hO : okW D A s.heap H locs w_7 := okW_set ew_7 hO
  have ft := set_ne ew_7 ft (nd_ne hnd (i := 7) (j := 0) (by decide) rfl rfl)
  have fo := set_ne ew_7 fo (nd_ne hnd (i := 7) (j := 1) (by decide) rfl rfl)
  refine lv_aload_n hx hb dX7_copyFrom_74 rfl (lv_at hl 1 rfl) ?_
  refine va_get (C := RX7) (T := TX7) (N := 18) (ci := 7) hx hb hts hin hown hK hO.1 oq fo rfl 7 (by decide) lk_30_tariffs (fun _ h9 => h9) rfl dX7_copyFrom_75 ?_
  refine lv_aload_n hx hb dX7_copyFrom_78 rfl (lv_at hl 0 rfl) ?_
  refine va_get (C := RX7) (T := TX7) (N := 18) (ci := 7) hx hb hts hin hown hK hO.1 tq ft rfl 7 (by decide) lk_30_tariffs (fun _ h9 => h9) rfl dX7_copyFrom_79 ?_
  have fa := (set_ne ew_7 (set_ne ew_6 (set_ne ew_5 (set_ne ew_4 (set_ne ew_3 (set_ne ew_2 (set_ne ew_1 f0_oq_tariffs (nd_ne hnd (i := 2) (j := 22) (by decide) rfl rfl)) (nd_ne hnd (i := 3) (j := 22) (by decide) rfl rfl)) (nd_ne hnd (i := 4) (j := 22) (by decide) rfl rfl)) (nd_ne hnd (i := 0) (j := 22) (by decide) rfl rfl)) (nd_ne hnd (i := 5) (j := 22) (by decide) rfl rfl)) (nd_ne hnd (i := 6) (j := 22) (by decide) rfl rfl)) (nd_ne hnd (i := 7) (j := 22) (by decide) rfl rfl))
  have fb := (set_ne ew_7 (set_ne ew_6 (set_ne ew_5 (set_ne ew_4 (set_ne ew_3 (set_ne ew_2 (set_ne ew_1 f0_tq_tariffs (nd_ne hnd (i := 2) (j := 8) (by decide) rfl rfl)) (nd_ne hnd (i := 3) (j := 8) (by decide) rfl rfl)) (nd_ne hnd (i := 4) (j := 8) (by decide) rfl rfl)) (nd_ne hnd (i := 0) (j := 8) (by decide) rfl rfl)) (nd_ne hnd (i := 5) (j := 8) (by decide) rfl rfl)) (nd_ne hnd (i := 6) (j := 8) (by decide) rfl rfl)) (nd_ne hnd (i := 7) (j := 8) (by decide) rfl rfl))
  refine cSNv0 (As := [.ref oa_tariffs, .ref ta_tariffs]) (rest := []) C hK hX hO (c_X11_copyRow (l := l) fa fb (rfl : (tyC cI cZ cJ cB cR cT)[0]? = _) (by decide)) ⟨va_cnB 2 hts gi_X7_60 rfl rfl rfl (nWm hX nm_X7_60) (hts _ (List.mem_cons_of_mem _ qw1_1)) hd_X11_copyRow (rok hR (Nat.le_of_ble_eq_true rfl) (Nat.le_of_ble_eq_true rfl)), hts _ (List.mem_cons_of_mem _ qw5_157), trivial⟩ rfl hl.1 rfl (Nat.le_of_ble_eq_true rfl) dX7_copyFrom_82 ⟨Nat.zero_le _, Nat.zero_le _⟩ (fun H locs _ hO => ?_)
  have hO : okW D A s.heap H locs w_8 := okW_set ew_8 hO
  have ft := set_ne ew_8 ft (nd_ne hnd (i := 8) (j := 0) (by decide) rfl rfl)
  have fo := set_ne ew_8 fo (nd_ne hnd (i := 8) (j := 1) (by decide) rfl rfl)
  refine lv_aload_n hx hb dX7_copyFrom_85 rfl (lv_at hl 1 rfl) ?_
  refine va_get (C := RX7) (T := TX7) (N := 18) (ci := 7) hx hb hts hin hown hK hO.1 oq fo rfl 8 (by decide) lk_33_parts (fun _ h9 => h9) rfl dX7_copyFrom_86 ?_
  refine lv_aload_n hx hb dX7_copyFrom_89 rfl (lv_at hl 0 rfl) ?_
  refine va_get (C := RX7) (T := TX7) (N := 18) (ci := 7) hx hb hts hin hown hK hO.1 tq ft rfl 8 (by decide) lk_33_parts (fun _ h9 => h9) rfl dX7_copyFrom_90 ?_
  have fa := (set_ne ew_8 (set_ne ew_7 (set_ne ew_6 (set_ne ew_5 (set_ne ew_4 (set_ne ew_3 (set_ne ew_2 (set_ne ew_1 f0_oq_parts (nd_ne hnd (i := 2) (j := 23) (by decide) rfl rfl)) (nd_ne hnd (i := 3) (j := 23) (by decide) rfl rfl)) (nd_ne hnd (i := 4) (j := 23) (by decide) rfl rfl)) (nd_ne hnd (i := 0) (j := 23) (by decide) rfl rfl)) (nd_ne hnd (i := 5) (j := 23) (by decide) rfl rfl)) (nd_ne hnd (i := 6) (j := 23) (by decide) rfl rfl)) (nd_ne hnd (i := 7) (j := 23) (by decide) rfl rfl)) (nd_ne hnd (i := 8) (j := 23) (by decide) rfl rfl))
  have fb := (set_ne ew_8 (set_ne ew_7 (set_ne ew_6 (set_ne ew_5 (set_ne ew_4 (set_ne ew_3 (set_ne ew_2 (set_ne ew_1 f0_tq_parts (nd_ne hnd (i := 2) (j := 9) (by decide) rfl rfl)) (nd_ne hnd (i := 3) (j := 9) (by decide) rfl rfl)) (nd_ne hnd (i := 4) (j := 9) (by decide) rfl rfl)) (nd_ne hnd (i := 0) (j := 9) (by decide) rfl rfl)) (nd_ne hnd (i := 5) (j := 9) (by decide) rfl rfl)) (nd_ne hnd (i := 6) (j := 9) (by decide) rfl rfl)) (nd_ne hnd (i := 7) (j := 9) (by decide) rfl rfl)) (nd_ne hnd (i := 8) (j := 9) (by decide) rfl rfl))
  refine cSNv0 (As := [.ref oa_parts, .ref ta_parts]) (rest := []) C hK hX hO (c_X11_copyRow (l := l) fa fb (rfl : (tyC cI cZ cJ cB cR cT)[0]? = _) (by decide)) ⟨va_cnB 2 hts gi_X7_60 rfl rfl rfl (nWm hX nm_X7_60) (hts _ (List.mem_cons_of_mem _ qw1_1)) hd_X11_copyRow (rok hR (Nat.le_of_ble_eq_true rfl) (Nat.le_of_ble_eq_true rfl)), hts _ (List.mem_cons_of_mem _ qw5_157), trivial⟩ rfl hl.1 rfl (Nat.le_of_ble_eq_true rfl) dX7_copyFrom_93 ⟨Nat.zero_le _, Nat.zero_le _⟩ (fun H locs _ hO => ?_)
  have hO : okW D A s.heap H locs w_9 := okW_set ew_9 hO
  have ft := set_ne ew_9 ft (nd_ne hnd (i := 9) (j := 0) (by decide) rfl rfl)
  have fo := set_ne ew_9 fo (nd_ne hnd (i := 9) (j := 1) (by decide) rfl rfl)
  refine lv_aload_n hx hb dX7_copyFrom_96 rfl (lv_at hl 1 rfl) ?_
  refine va_get (C := RX7) (T := TX7) (N := 18) (ci := 7) hx hb hts hin hown hK hO.1 oq fo rfl 9 (by decide) lk_36_purses (fun _ h9 => h9) rfl dX7_copyFrom_97 ?_
  refine lv_aload_n hx hb dX7_copyFrom_100 rfl (lv_at hl 0 rfl) ?_
  refine va_get (C := RX7) (T := TX7) (N := 18) (ci := 7) hx hb hts hin hown hK hO.1 tq ft rfl 9 (by decide) lk_36_purses (fun _ h9 => h9) rfl dX7_copyFrom_101 ?_
  have fa := (set_ne ew_9 (set_ne ew_8 (set_ne ew_7 (set_ne ew_6 (set_ne ew_5 (set_ne ew_4 (set_ne ew_3 (set_ne ew_2 (set_ne ew_1 f0_oq_purses (nd_ne hnd (i := 2) (j := 24) (by decide) rfl rfl)) (nd_ne hnd (i := 3) (j := 24) (by decide) rfl rfl)) (nd_ne hnd (i := 4) (j := 24) (by decide) rfl rfl)) (nd_ne hnd (i := 0) (j := 24) (by decide) rfl rfl)) (nd_ne hnd (i := 5) (j := 24) (by decide) rfl rfl)) (nd_ne hnd (i := 6) (j := 24) (by decide) rfl rfl)) (nd_ne hnd (i := 7) (j := 24) (by decide) rfl rfl)) (nd_ne hnd (i := 8) (j := 24) (by decide) rfl rfl)) (nd_ne hnd (i := 9) (j := 24) (by decide) rfl rfl))
  have fb := (set_ne ew_9 (set_ne ew_8 (set_ne ew_7 (set_ne ew_6 (set_ne ew_5 (set_ne ew_4 (set_ne ew_3 (set_ne ew_2 (set_ne ew_1 f0_tq_purses (nd_ne hnd (i := 2) (j := 10) (by decide) rfl rfl)) (nd_ne hnd (i := 3) (j := 10) (by decide) rfl rfl)) (nd_ne hnd (i := 4) (j := 10) (by decide) rfl rfl)) (nd_ne hnd (i := 0) (j := 10) (by decide) rfl rfl)) (nd_ne hnd (i := 5) (j := 10) (by decide) rfl rfl)) (nd_ne hnd (i := 6) (j := 10) (by decide) rfl rfl)) (nd_ne hnd (i := 7) (j := 10) (by decide) rfl rfl)) (nd_ne hnd (i := 8) (j := 10) (by decide) rfl rfl)) (nd_ne hnd (i := 9) (j := 10) (by decide) rfl rfl))
  refine cSNv0 (As := [.ref oa_purses, .ref ta_purses]) (rest := []) C hK hX hO (c_X11_copyRow (l := l) fa fb (rfl : (tyC cI cZ cJ cB cR cT)[0]? = _) (by decide)) ⟨va_cnB 2 hts gi_X7_60 rfl rfl rfl (nWm hX nm_X7_60) (hts _ (List.mem_cons_of_mem _ qw1_1)) hd_X11_copyRow (rok hR (Nat.le_of_ble_eq_true rfl) (Nat.le_of_ble_eq_true rfl)), hts _ (List.mem_cons_of_mem _ qw5_157), trivial⟩ rfl hl.1 rfl (Nat.le_of_ble_eq_true rfl) dX7_copyFrom_104 ⟨Nat.zero_le _, Nat.zero_le _⟩ (fun H locs _ hO => ?_)
  have hO : okW D A s.heap H locs w_10 := okW_set ew_10 hO
  have ft := set_ne ew_10 ft (nd_ne hnd (i := 10) (j := 0) (by decide) rfl rfl)
  have fo := set_ne ew_10 fo (nd_ne hnd (i := 10) (j := 1) (by decide) rfl rfl)
  refine lv_aload_n hx hb dX7_copyFrom_107 rfl (lv_at hl 0 rfl) ?_
  refine lv_aload_n hx hb dX7_copyFrom_108 rfl (lv_at hl 1 rfl) ?_
  refine va_get (C := RX7) (T := TX7) (N := 18) (ci := 7) hx hb hts hin hown hK hO.1 oq fo rfl 10 (by decide) lk_68_chest (fun _ h9 => h9) rfl dX7_copyFrom_109 ?_
  refine va_put (C := RX7) (T := TX7) (N := 18) (ci := 7) (ty := .int) (v := .int ov_chest) hx hb hts hin tyX7 tyX7_ok nmX7 hown hK hO.1 hO.2.1 hO.2.2.1 tq ft rfl 10 (by decide) lk_68_chest (fun _ h9 => h9) rfl (by decide +kernel) rfl rfl (Nat.le_of_ble_eq_true rfl) dX7_copyFrom_112 (fun H locs hP hD hS => ?_)
  have hO : okW D A s.heap H locs w_11 := okW_set ew_11 ⟨hP, hD, hS, hO.2.2.2⟩
  have ft := set_at ew_11 ft
  have fo := set_ne ew_11 fo (nd_ne hnd (i := 0) (j := 1) (by decide) rfl rfl)
  refine lv_aload_n hx hb dX7_copyFrom_115 rfl (lv_at hl 1 rfl) ?_
  refine va_get (C := RX7) (T := TX7) (N := 18) (ci := 7) hx hb hts hin hown hK hO.1 oq fo rfl 11 (by decide) lk_39_firmSides (fun _ h9 => h9) rfl dX7_copyFrom_116 ?_
  refine lv_aload_n hx hb dX7_copyFrom_119 rfl (lv_at hl 0 rfl) ?_
  refine va_get (C := RX7) (T := TX7) (N := 18) (ci := 7) hx hb hts hin hown hK hO.1 tq ft rfl 11 (by decide) lk_39_firmSides (fun _ h9 => h9) rfl dX7_copyFrom_120 ?_
  have fa := (set_ne ew_11 (set_ne ew_10 (set_ne ew_9 (set_ne ew_8 (set_ne ew_7 (set_ne ew_6 (set_ne ew_5 (set_ne ew_4 (set_ne ew_3 (set_ne ew_2 (set_ne ew_1 f0_oq_firmSides (nd_ne hnd (i := 2) (j := 25) (by decide) rfl rfl)) (nd_ne hnd (i := 3) (j := 25) (by decide) rfl rfl)) (nd_ne hnd (i := 4) (j := 25) (by decide) rfl rfl)) (nd_ne hnd (i := 0) (j := 25) (by decide) rfl rfl)) (nd_ne hnd (i := 5) (j := 25) (by decide) rfl rfl)) (nd_ne hnd (i := 6) (j := 25) (by decide) rfl rfl)) (nd_ne hnd (i := 7) (j := 25) (by decide) rfl rfl)) (nd_ne hnd (i := 8) (j := 25) (by decide) rfl rfl)) (nd_ne hnd (i := 9) (j := 25) (by decide) rfl rfl)) (nd_ne hnd (i := 10) (j := 25) (by decide) rfl rfl)) (nd_ne hnd (i := 0) (j := 25) (by decide) rfl rfl))
  have fb := (set_ne ew_11 (set_ne ew_10 (set_ne ew_9 (set_ne ew_8 (set_ne ew_7 (set_ne ew_6 (set_ne ew_5 (set_ne ew_4 (set_ne ew_3 (set_ne ew_2 (set_ne ew_1 f0_tq_firmSides (nd_ne hnd (i := 2) (j := 11) (by decide) rfl rfl)) (nd_ne hnd (i := 3) (j := 11) (by decide) rfl rfl)) (nd_ne hnd (i := 4) (j := 11) (by decide) rfl rfl)) (nd_ne hnd (i := 0) (j := 11) (by decide) rfl rfl)) (nd_ne hnd (i := 5) (j := 11) (by decide) rfl rfl)) (nd_ne hnd (i := 6) (j := 11) (by decide) rfl rfl)) (nd_ne hnd (i := 7) (j := 11) (by decide) rfl rfl)) (nd_ne hnd (i := 8) (j := 11) (by decide) rfl rfl)) (nd_ne hnd (i := 9) (j := 11) (by decide) rfl rfl)) (nd_ne hnd (i := 10) (j := 11) (by decide) rfl rfl)) (nd_ne hnd (i := 0) (j := 11) (by decide) rfl rfl))
  refine cSNv0 (As := [.ref oa_firmSides, .ref ta_firmSides]) (rest := []) C hK hX hO (c_X11_copyRow (l := l) fa fb (rfl : (tyC cI cZ cJ cB cR cT)[0]? = _) (by decide)) ⟨va_cnB 2 hts gi_X7_60 rfl rfl rfl (nWm hX nm_X7_60) (hts _ (List.mem_cons_of_mem _ qw1_1)) hd_X11_copyRow (rok hR (Nat.le_of_ble_eq_true rfl) (Nat.le_of_ble_eq_true rfl)), hts _ (List.mem_cons_of_mem _ qw5_157), trivial⟩ rfl hl.1 rfl (Nat.le_of_ble_eq_true rfl) dX7_copyFrom_123 ⟨Nat.zero_le _, Nat.zero_le _⟩ (fun H locs _ hO => ?_)
  have hO : okW D A s.heap H locs w_12 := okW_set ew_12 hO
  have ft := set_ne ew_12 ft (nd_ne hnd (i := 11) (j := 0) (by decide) rfl rfl)
  have fo := set_ne ew_12 fo (nd_ne hnd (i := 11) (j := 1) (by decide) rfl rfl)
  refine lv_aload_n hx hb dX7_copyFrom_126 rfl (lv_at hl 1 rfl) ?_
  refine va_get (C := RX7) (T := TX7) (N := 18) (ci := 7) hx hb hts hin hown hK hO.1 oq fo rfl 12 (by decide) lk_42_owners (fun _ h9 => h9) rfl dX7_copyFrom_127 ?_
  refine lv_aload_n hx hb dX7_copyFrom_130 rfl (lv_at hl 0 rfl) ?_
  refine va_get (C := RX7) (T := TX7) (N := 18) (ci := 7) hx hb hts hin hown hK hO.1 tq ft rfl 12 (by decide) lk_42_owners (fun _ h9 => h9) rfl dX7_copyFrom_131 ?_
  have fa := (set_ne ew_12 (set_ne ew_11 (set_ne ew_10 (set_ne ew_9 (set_ne ew_8 (set_ne ew_7 (set_ne ew_6 (set_ne ew_5 (set_ne ew_4 (set_ne ew_3 (set_ne ew_2 (set_ne ew_1 f0_oq_owners (nd_ne hnd (i := 2) (j := 26) (by decide) rfl rfl)) (nd_ne hnd (i := 3) (j := 26) (by decide) rfl rfl)) (nd_ne hnd (i := 4) (j := 26) (by decide) rfl rfl)) (nd_ne hnd (i := 0) (j := 26) (by decide) rfl rfl)) (nd_ne hnd (i := 5) (j := 26) (by decide) rfl rfl)) (nd_ne hnd (i := 6) (j := 26) (by decide) rfl rfl)) (nd_ne hnd (i := 7) (j := 26) (by decide) rfl rfl)) (nd_ne hnd (i := 8) (j := 26) (by decide) rfl rfl)) (nd_ne hnd (i := 9) (j := 26) (by decide) rfl rfl)) (nd_ne hnd (i := 10) (j := 26) (by decide) rfl rfl)) (nd_ne hnd (i := 0) (j := 26) (by decide) rfl rfl)) (nd_ne hnd (i := 11) (j := 26) (by decide) rfl rfl))
  have fb := (set_ne ew_12 (set_ne ew_11 (set_ne ew_10 (set_ne ew_9 (set_ne ew_8 (set_ne ew_7 (set_ne ew_6 (set_ne ew_5 (set_ne ew_4 (set_ne ew_3 (set_ne ew_2 (set_ne ew_1 f0_tq_owners (nd_ne hnd (i := 2) (j := 12) (by decide) rfl rfl)) (nd_ne hnd (i := 3) (j := 12) (by decide) rfl rfl)) (nd_ne hnd (i := 4) (j := 12) (by decide) rfl rfl)) (nd_ne hnd (i := 0) (j := 12) (by decide) rfl rfl)) (nd_ne hnd (i := 5) (j := 12) (by decide) rfl rfl)) (nd_ne hnd (i := 6) (j := 12) (by decide) rfl rfl)) (nd_ne hnd (i := 7) (j := 12) (by decide) rfl rfl)) (nd_ne hnd (i := 8) (j := 12) (by decide) rfl rfl)) (nd_ne hnd (i := 9) (j := 12) (by decide) rfl rfl)) (nd_ne hnd (i := 10) (j := 12) (by decide) rfl rfl)) (nd_ne hnd (i := 0) (j := 12) (by decide) rfl rfl)) (nd_ne hnd (i := 11) (j := 12) (by decide) rfl rfl))
  refine cSNv0 (As := [.ref oa_owners, .ref ta_owners]) (rest := []) C hK hX hO (c_X11_copyRow (l := l) fa fb (rfl : (tyC cI cZ cJ cB cR cT)[0]? = _) (by decide)) ⟨va_cnB 2 hts gi_X7_60 rfl rfl rfl (nWm hX nm_X7_60) (hts _ (List.mem_cons_of_mem _ qw1_1)) hd_X11_copyRow (rok hR (Nat.le_of_ble_eq_true rfl) (Nat.le_of_ble_eq_true rfl)), hts _ (List.mem_cons_of_mem _ qw5_157), trivial⟩ rfl hl.1 rfl (Nat.le_of_ble_eq_true rfl) dX7_copyFrom_134 ⟨Nat.zero_le _, Nat.zero_le _⟩ (fun H locs _ hO => ?_)
  have hO : okW D A s.heap H locs w_13 := okW_set ew_13 hO
  have ft := set_ne ew_13 ft (nd_ne hnd (i := 12) (j := 0) (by decide) rfl rfl)
  have fo := set_ne ew_13 fo (nd_ne hnd (i := 12) (j := 1) (by decide) rfl rfl)
  refine lv_aload_n hx hb dX7_copyFrom_137 rfl (lv_at hl 0 rfl) ?_
  refine lv_aload_n hx hb dX7_copyFrom_138 rfl (lv_at hl 1 rfl) ?_
  refine va_get (C := RX7) (T := TX7) (N := 18) (ci := 7) hx hb hts hin hown hK hO.1 oq fo rfl 13 (by decide) lk_71_firmCount (fun _ h9 => h9) rfl dX7_copyFrom_139 ?_
  refine va_put (C := RX7) (T := TX7) (N := 18) (ci := 7) (ty := .int) (v := .int ov_firmCount) hx hb hts hin tyX7 tyX7_ok nmX7 hown hK hO.1 hO.2.1 hO.2.2.1 tq ft rfl 13 (by decide) lk_71_firmCount (fun _ h9 => h9) rfl (by decide +kernel) rfl rfl (Nat.le_of_ble_eq_true rfl) dX7_copyFrom_142 (fun H locs hP hD hS => ?_)
  have hO : okW D A s.heap H locs w_14 := okW_set ew_14 ⟨hP, hD, hS, hO.2.2.2⟩
  have ft := set_at ew_14 ft
  have fo := set_ne ew_14 fo (nd_ne hnd (i := 0) (j := 1) (by decide) rfl rfl)
  refine lv_aload_n hx hb dX7_copyFrom_145 rfl (lv_at hl 1 rfl) ?_
  refine va_get (C := RX7) (T := TX7) (N := 18) (ci := 7) hx hb hts hin hown hK hO.1 oq fo rfl 14 (by decide) lk_45_useFirms (fun _ h9 => h9) rfl dX7_copyFrom_146 ?_
  refine lv_aload_n hx hb dX7_copyFrom_149 rfl (lv_at hl 0 rfl) ?_
  refine va_get (C := RX7) (T := TX7) (N := 18) (ci := 7) hx hb hts hin hown hK hO.1 tq ft rfl 14 (by decide) lk_45_useFirms (fun _ h9 => h9) rfl dX7_copyFrom_150 ?_
  have fa := (set_ne ew_14 (set_ne ew_13 (set_ne ew_12 (set_ne ew_11 (set_ne ew_10 (set_ne ew_9 (set_ne ew_8 (set_ne ew_7 (set_ne ew_6 (set_ne ew_5 (set_ne ew_4 (set_ne ew_3 (set_ne ew_2 (set_ne ew_1 f0_oq_useFirms (nd_ne hnd (i := 2) (j := 27) (by decide) rfl rfl)) (nd_ne hnd (i := 3) (j := 27) (by decide) rfl rfl)) (nd_ne hnd (i := 4) (j := 27) (by decide) rfl rfl)) (nd_ne hnd (i := 0) (j := 27) (by decide) rfl rfl)) (nd_ne hnd (i := 5) (j := 27) (by decide) rfl rfl)) (nd_ne hnd (i := 6) (j := 27) (by decide) rfl rfl)) (nd_ne hnd (i := 7) (j := 27) (by decide) rfl rfl)) (nd_ne hnd (i := 8) (j := 27) (by decide) rfl rfl)) (nd_ne hnd (i := 9) (j := 27) (by decide) rfl rfl)) (nd_ne hnd (i := 10) (j := 27) (by decide) rfl rfl)) (nd_ne hnd (i := 0) (j := 27) (by decide) rfl rfl)) (nd_ne hnd (i := 11) (j := 27) (by decide) rfl rfl)) (nd_ne hnd (i := 12) (j := 27) (by decide) rfl rfl)) (nd_ne hnd (i := 0) (j := 27) (by decide) rfl rfl))
  have fb := (set_ne ew_14 (set_ne ew_13 (set_ne ew_12 (set_ne ew_11 (set_ne ew_10 (set_ne ew_9 (set_ne ew_8 (set_ne ew_7 (set_ne ew_6 (set_ne ew_5 (set_ne ew_4 (set_ne ew_3 (set_ne ew_2 (set_ne ew_1 f0_tq_useFirms (nd_ne hnd (i := 2) (j := 13) (by decide) rfl rfl)) (nd_ne hnd (i := 3) (j := 13) (by decide) rfl rfl)) (nd_ne hnd (i := 4) (j := 13) (by decide) rfl rfl)) (nd_ne hnd (i := 0) (j := 13) (by decide) rfl rfl)) (nd_ne hnd (i := 5) (j := 13) (by decide) rfl rfl)) (nd_ne hnd (i := 6) (j := 13) (by decide) rfl rfl)) (nd_ne hnd (i := 7) (j := 13) (by decide) rfl rfl)) (nd_ne hnd (i := 8) (j := 13) (by decide) rfl rfl)) (nd_ne hnd (i := 9) (j := 13) (by decide) rfl rfl)) (nd_ne hnd (i := 10) (j := 13) (by decide) rfl rfl)) (nd_ne hnd (i := 0) (j := 13) (by decide) rfl rfl)) (nd_ne hnd (i := 11) (j := 13) (by decide) rfl rfl)) (nd_ne hnd (i := 12) (j := 13) (by decide) rfl rfl)) (nd_ne hnd (i := 0) (j := 13) (by decide) rfl rfl))
  refine cSNv0 (As := [.ref oa_useFirms, .ref ta_useFirms]) (rest := []) C hK hX hO (c_X11_copyRow (l := l) fa fb (rfl : (tyC cI cZ cJ cB cR cT)[0]? = _) (by decide)) ⟨va_cnB 2 hts gi_X7_60 rfl rfl rfl (nWm hX nm_X7_60) (hts _ (List.mem_cons_of_mem _ qw1_1)) hd_X11_copyRow (rok hR (Nat.le_of_ble_eq_true rfl) (Nat.le_of_ble_eq_true rfl)), hts _ (List.mem_cons_of_mem _ qw5_157), trivial⟩ rfl hl.1 rfl (Nat.le_of_ble_eq_true rfl) dX7_copyFrom_153 ⟨Nat.zero_le _, Nat.zero_le _⟩ (fun H locs _ hO => ?_)
  have hO : okW D A s.heap H locs w_15 := okW_set ew_15 hO
  have ft := set_ne ew_15 ft (nd_ne hnd (i := 13) (j := 0) (by decide) rfl rfl)
  have fo := set_ne ew_15 fo (nd_ne hnd (i := 13) (j := 1) (by decide) rfl rfl)
  refine lv_aload_n hx hb dX7_copyFrom_156 rfl (lv_at hl 1 rfl) ?_
  refine va_get (C := RX7) (T := TX7) (N := 18) (ci := 7) hx hb hts hin hown hK hO.1 oq fo rfl 15 (by decide) lk_48_useTons (fun _ h9 => h9) rfl dX7_copyFrom_157 ?_
  refine lv_aload_n hx hb dX7_copyFrom_160 rfl (lv_at hl 0 rfl) ?_
  refine va_get (C := RX7) (T := TX7) (N := 18) (ci := 7) hx hb hts hin hown hK hO.1 tq ft rfl 15 (by decide) lk_48_useTons (fun _ h9 => h9) rfl dX7_copyFrom_161 ?_
  have fa := (set_ne ew_15 (set_ne ew_14 (set_ne ew_13 (set_ne ew_12 (set_ne ew_11 (set_ne ew_10 (set_ne ew_9 (set_ne ew_8 (set_ne ew_7 (set_ne ew_6 (set_ne ew_5 (set_ne ew_4 (set_ne ew_3 (set_ne ew_2 (set_ne ew_1 f0_oq_useTons (nd_ne hnd (i := 2) (j := 28) (by decide) rfl rfl)) (nd_ne hnd (i := 3) (j := 28) (by decide) rfl rfl)) (nd_ne hnd (i := 4) (j := 28) (by decide) rfl rfl)) (nd_ne hnd (i := 0) (j := 28) (by decide) rfl rfl)) (nd_ne hnd (i := 5) (j := 28) (by decide) rfl rfl)) (nd_ne hnd (i := 6) (j := 28) (by decide) rfl rfl)) (nd_ne hnd (i := 7) (j := 28) (by decide) rfl rfl)) (nd_ne hnd (i := 8) (j := 28) (by decide) rfl rfl)) (nd_ne hnd (i := 9) (j := 28) (by decide) rfl rfl)) (nd_ne hnd (i := 10) (j := 28) (by decide) rfl rfl)) (nd_ne hnd (i := 0) (j := 28) (by decide) rfl rfl)) (nd_ne hnd (i := 11) (j := 28) (by decide) rfl rfl)) (nd_ne hnd (i := 12) (j := 28) (by decide) rfl rfl)) (nd_ne hnd (i := 0) (j := 28) (by decide) rfl rfl)) (nd_ne hnd (i := 13) (j := 28) (by decide) rfl rfl))
  have fb := (set_ne ew_15 (set_ne ew_14 (set_ne ew_13 (set_ne ew_12 (set_ne ew_11 (set_ne ew_10 (set_ne ew_9 (set_ne ew_8 (set_ne ew_7 (set_ne ew_6 (set_ne ew_5 (set_ne ew_4 (set_ne ew_3 (set_ne ew_2 (set_ne ew_1 f0_tq_useTons (nd_ne hnd (i := 2) (j := 14) (by decide) rfl rfl)) (nd_ne hnd (i := 3) (j := 14) (by decide) rfl rfl)) (nd_ne hnd (i := 4) (j := 14) (by decide) rfl rfl)) (nd_ne hnd (i := 0) (j := 14) (by decide) rfl rfl)) (nd_ne hnd (i := 5) (j := 14) (by decide) rfl rfl)) (nd_ne hnd (i := 6) (j := 14) (by decide) rfl rfl)) (nd_ne hnd (i := 7) (j := 14) (by decide) rfl rfl)) (nd_ne hnd (i := 8) (j := 14) (by decide) rfl rfl)) (nd_ne hnd (i := 9) (j := 14) (by decide) rfl rfl)) (nd_ne hnd (i := 10) (j := 14) (by decide) rfl rfl)) (nd_ne hnd (i := 0) (j := 14) (by decide) rfl rfl)) (nd_ne hnd (i := 11) (j := 14) (by decide) rfl rfl)) (nd_ne hnd (i := 12) (j := 14) (by decide) rfl rfl)) (nd_ne hnd (i := 0) (j := 14) (by decide) rfl rfl)) (nd_ne hnd (i := 13) (j := 14) (by decide) rfl rfl))
  refine cSNv0 (As := [.ref oa_useTons, .ref ta_useTons]) (rest := []) C hK hX hO (c_X11_copyRow (l := l) fa fb (rfl : (tyC cI cZ cJ cB cR cT)[0]? = _) (by decide)) ⟨va_cnB 2 hts gi_X7_60 rfl rfl rfl (nWm hX nm_X7_60) (hts _ (List.mem_cons_of_mem _ qw1_1)) hd_X11_copyRow (rok hR (Nat.le_of_ble_eq_true rfl) (Nat.le_of_ble_eq_true rfl)), hts _ (List.mem_cons_of_mem _ qw5_157), trivial⟩ rfl hl.1 rfl (Nat.le_of_ble_eq_true rfl) dX7_copyFrom_164 ⟨Nat.zero_le _, Nat.zero_le _⟩ (fun H locs _ hO => ?_)
  have hO : okW D A s.heap H locs w_16 := okW_set ew_16 hO
  have ft := set_ne ew_16 ft (nd_ne hnd (i := 14) (j := 0) (by decide) rfl rfl)
  have fo := set_ne ew_16 fo (nd_ne hnd (i := 14) (j := 1) (by decide) rfl rfl)
  refine lv_aload_n hx hb dX7_copyFrom_167 rfl (lv_at hl 0 rfl) ?_
  refine lv_aload_n hx hb dX7_copyFrom_168 rfl (lv_at hl 1 rfl) ?_
  refine va_get (C := RX7) (T := TX7) (N := 18) (ci := 7) hx hb hts hin hown hK hO.1 oq fo rfl 16 (by decide) lk_74_useCount (fun _ h9 => h9) rfl dX7_copyFrom_169 ?_
  refine va_put (C := RX7) (T := TX7) (N := 18) (ci := 7) (ty := .int) (v := .int ov_useCount) hx hb hts hin tyX7 tyX7_ok nmX7 hown hK hO.1 hO.2.1 hO.2.2.1 tq ft rfl 16 (by decide) lk_74_useCount (fun _ h9 => h9) rfl (by decide +kernel) rfl rfl (Nat.le_of_ble_eq_true rfl) dX7_copyFrom_172 (fun H locs hP hD hS => ?_)
  have hO : okW D A s.heap H locs w_17 := okW_set ew_17 ⟨hP, hD, hS, hO.2.2.2⟩
  have ft := set_at ew_17 ft
  have fo := set_ne ew_17 fo (nd_ne hnd (i := 0) (j := 1) (by decide) rfl rfl)
  refine lv_aload_n hx hb dX7_copyFrom_175 rfl (lv_at hl 1 rfl) ?_
  refine va_get (C := RX7) (T := TX7) (N := 18) (ci := 7) hx hb hts hin hown hK hO.1 oq fo rfl 17 (by decide) lk_51_quotas (fun _ h9 => h9) rfl dX7_copyFrom_176 ?_
  refine lv_aload_n hx hb dX7_copyFrom_179 rfl (lv_at hl 0 rfl) ?_
  refine va_get (C := RX7) (T := TX7) (N := 18) (ci := 7) hx hb hts hin hown hK hO.1 tq ft rfl 17 (by decide) lk_51_quotas (fun _ h9 => h9) rfl dX7_copyFrom_180 ?_
  have fa := (set_ne ew_17 (set_ne ew_16 (set_ne ew_15 (set_ne ew_14 (set_ne ew_13 (set_ne ew_12 (set_ne ew_11 (set_ne ew_10 (set_ne ew_9 (set_ne ew_8 (set_ne ew_7 (set_ne ew_6 (set_ne ew_5 (set_ne ew_4 (set_ne ew_3 (set_ne ew_2 (set_ne ew_1 f0_oq_quotas (nd_ne hnd (i := 2) (j := 29) (by decide) rfl rfl)) (nd_ne hnd (i := 3) (j := 29) (by decide) rfl rfl)) (nd_ne hnd (i := 4) (j := 29) (by decide) rfl rfl)) (nd_ne hnd (i := 0) (j := 29) (by decide) rfl rfl)) (nd_ne hnd (i := 5) (j := 29) (by decide) rfl rfl)) (nd_ne hnd (i := 6) (j := 29) (by decide) rfl rfl)) (nd_ne hnd (i := 7) (j := 29) (by decide) rfl rfl)) (nd_ne hnd (i := 8) (j := 29) (by decide) rfl rfl)) (nd_ne hnd (i := 9) (j := 29) (by decide) rfl rfl)) (nd_ne hnd (i := 10) (j := 29) (by decide) rfl rfl)) (nd_ne hnd (i := 0) (j := 29) (by decide) rfl rfl)) (nd_ne hnd (i := 11) (j := 29) (by decide) rfl rfl)) (nd_ne hnd (i := 12) (j := 29) (by decide) rfl rfl)) (nd_ne hnd (i := 0) (j := 29) (by decide) rfl rfl)) (nd_ne hnd (i := 13) (j := 29) (by decide) rfl rfl)) (nd_ne hnd (i := 14) (j := 29) (by decide) rfl rfl)) (nd_ne hnd (i := 0) (j := 29) (by decide) rfl rfl))
  have fb := (set_ne ew_17 (set_ne ew_16 (set_ne ew_15 (set_ne ew_14 (set_ne ew_13 (set_ne ew_12 (set_ne ew_11 (set_ne ew_10 (set_ne ew_9 (set_ne ew_8 (set_ne ew_7 (set_ne ew_6 (set_ne ew_5 (set_ne ew_4 (set_ne ew_3 (set_ne ew_2 (set_ne ew_1 f0_tq_quotas (nd_ne hnd (i := 2) (j := 15) (by decide) rfl rfl)) (nd_ne hnd (i := 3) (j := 15) (by decide) rfl rfl)) (nd_ne hnd (i := 4) (j := 15) (by decide) rfl rfl)) (nd_ne hnd (i := 0) (j := 15) (by decide) rfl rfl)) (nd_ne hnd (i := 5) (j := 15) (by decide) rfl rfl)) (nd_ne hnd (i := 6) (j := 15) (by decide) rfl rfl)) (nd_ne hnd (i := 7) (j := 15) (by decide) rfl rfl)) (nd_ne hnd (i := 8) (j := 15) (by decide) rfl rfl)) (nd_ne hnd (i := 9) (j := 15) (by decide) rfl rfl)) (nd_ne hnd (i := 10) (j := 15) (by decide) rfl rfl)) (nd_ne hnd (i := 0) (j := 15) (by decide) rfl rfl)) (nd_ne hnd (i := 11) (j := 15) (by decide) rfl rfl)) (nd_ne hnd (i := 12) (j := 15) (by decide) rfl rfl)) (nd_ne hnd (i := 0) (j := 15) (by decide) rfl rfl)) (nd_ne hnd (i := 13) (j := 15) (by decide) rfl rfl)) (nd_ne hnd (i := 14) (j := 15) (by decide) rfl rfl)) (nd_ne hnd (i := 0) (j := 15) (by decide) rfl rfl))
  refine cSNv0 (As := [.ref oa_quotas, .ref ta_quotas]) (rest := []) C hK hX hO (c_X11_copyRow (l := l) fa fb (rfl : (tyC cI cZ cJ cB cR cT)[0]? = _) (by decide)) ⟨va_cnB 2 hts gi_X7_60 rfl rfl rfl (nWm hX nm_X7_60) (hts _ (List.mem_cons_of_mem _ qw1_1)) hd_X11_copyRow (rok hR (Nat.le_of_ble_eq_true rfl) (Nat.le_of_ble_eq_true rfl)), hts _ (List.mem_cons_of_mem _ qw5_157), trivial⟩ rfl hl.1 rfl (Nat.le_of_ble_eq_true rfl) dX7_copyFrom_183 ⟨Nat.zero_le _, Nat.zero_le _⟩ (fun H locs _ hO => ?_)
  have hO : okW D A s.heap H locs w_18 := okW_set ew_18 hO
  have ft := set_ne ew_18 ft (nd_ne hnd (i := 15) (j := 0) (by decide) rfl rfl)
  have fo := set_ne ew_18 fo (nd_ne hnd (i := 15) (j := 1) (by decide) rfl rfl)
  exact rv0 hQQ hx hb hr hlk hK hO trivial dX7_copyFrom_186
theorem gi_X6_33 {a : Cond} : GoodIn (a :: wsG) (Cond.code yX11_copyRow cX11_copyRow 2 none :: wsG) := gdI qw5_158

set_option maxHeartbeats 4000000 in
set_option maxRecDepth 100000 in
theorem c_X6_copyFrom {l : Launch} {D : va_G} {cI cZ cJ cB cR cT : ClassId} {ws : va_W} {sz : Nat} {ta oa ta_doorSpots ta_firstHours ta_lastHours ta_sights ta_whereabouts oa_doorSpots oa_firstHours oa_lastHours oa_sights oa_whereabouts : Nat} {tq oq tq_doorSpots tq_firstHours tq_lastHours tq_sights oq_doorSpots oq_firstHours oq_lastHours oq_sights : Nat} {tv_doorCount ov_doorCount : Int32} {tv_doorSpots ov_doorSpots : Nat → Int32} {tv_firstHours ov_firstHours : Nat → Int32} {tv_lastHours ov_lastHours : Nat → Int32} {tv_sights ov_sights : Nat → Int32} {w_1 w_2 w_3 w_4 w_5 : va_W} (f0_tq : ws[tq]? = some (ta, .inr (6, [.ref ta_doorSpots, .ref ta_firstHours, .ref ta_lastHours, .int tv_doorCount, .ref ta_sights, .ref ta_whereabouts]))) (f0_oq : ws[oq]? = some (oa, .inr (6, [.ref oa_doorSpots, .ref oa_firstHours, .ref oa_lastHours, .int ov_doorCount, .ref oa_sights, .ref oa_whereabouts]))) (f0_tq_doorSpots : ws[tq_doorSpots]? = some (ta_doorSpots, .inl (cI, (6, .inl tv_doorSpots)))) (f0_tq_firstHours : ws[tq_firstHours]? = some (ta_firstHours, .inl (cI, (6, .inl tv_firstHours)))) (f0_tq_lastHours : ws[tq_lastHours]? = some (ta_lastHours, .inl (cI, (6, .inl tv_lastHours)))) (f0_tq_sights : ws[tq_sights]? = some (ta_sights, .inl (cI, (192, .inl tv_sights)))) (f0_oq_doorSpots : ws[oq_doorSpots]? = some (oa_doorSpots, .inl (cI, (6, .inl ov_doorSpots)))) (f0_oq_firstHours : ws[oq_firstHours]? = some (oa_firstHours, .inl (cI, (6, .inl ov_firstHours)))) (f0_oq_lastHours : ws[oq_lastHours]? = some (oa_lastHours, .inl (cI, (6, .inl ov_lastHours)))) (f0_oq_sights : ws[oq_sights]? = some (oa_sights, .inl (cI, (192, .inl ov_sights)))) (hnd : [tq, oq, tq_doorSpots, tq_firstHours, tq_lastHours, tq_sights, oq_doorSpots, oq_firstHours, oq_lastHours, oq_sights].Nodup) (ew_1 : w_1 = (ws).set tq_doorSpots (ta_doorSpots, .inl (cI, (6, .inl (va_cpy ov_doorSpots tv_doorSpots 0 0 6))))) (ew_2 : w_2 = (w_1).set tq_firstHours (ta_firstHours, .inl (cI, (6, .inl (va_cpy ov_firstHours tv_firstHours 0 0 6))))) (ew_3 : w_3 = (w_2).set tq_lastHours (ta_lastHours, .inl (cI, (6, .inl (va_cpy ov_lastHours tv_lastHours 0 0 6))))) (ew_4 : w_4 = (w_3).set tq (ta, .inr (6, [.ref ta_doorSpots, .ref ta_firstHours, .ref ta_lastHours, .int ov_doorCount, .ref ta_sights, .ref ta_whereabouts]))) (ew_5 : w_5 = (w_4).set tq_sights (ta_sights, .inl (cI, (192, .inl (va_cpy ov_sights tv_sights 0 0 192))))) : Met l yX6_copyFrom (Cond.code yX6_copyFrom cX6_copyFrom 2 none :: wsG) ({ frames := 2, cells := 0, slots := 0, locals := 81 } : Room) (preW D (tyC cI cZ cJ cB cR cT) ws sz [.ref ta, .ref oa]) (qv0 D (tyC cI cZ cJ cB cR cT) (va_A ws sz) True w_5) 0 0 (va_A ws sz) := by
  refine st_met (cc := cX6_copyFrom) (maxL := 2) (ret := none) (lv := [(0, .ref ta), (1, .ref oa)]) (Qc := fun A => qv0 D (tyC cI cZ cJ cB cR cT) A True w_5) (by decide) rfl (Nat.le_of_ble_eq_true rfl) rfl ?_
  intro p e s m below meth c ls A R args QQ H locs C hr hlk hnm hK hX hsz hl hO hR hQQ
  have hx := C.1
  have hb := C.2.1
  have hown := C.2.2.2.1
  have hts := C.2.2.2.2
  have hin : ∀ w ∈ u_ws RX6 TX6 6, w ∈ (Cond.code yX6_copyFrom cX6_copyFrom 2 none :: wsG) := fun w h9 => List.mem_cons_of_mem _ (inG6 w h9)
  have lk_9_doorSpots := hts (Cond.fieldLink RX6 9 "FreeCity$Night" "doorSpots" "[I") (List.mem_cons_of_mem _ qw1_189)
  have lk_15_firstHours := hts (Cond.fieldLink RX6 15 "FreeCity$Night" "firstHours" "[I") (List.mem_cons_of_mem _ qw1_190)
  have lk_18_lastHours := hts (Cond.fieldLink RX6 18 "FreeCity$Night" "lastHours" "[I") (List.mem_cons_of_mem _ qw1_191)
  have lk_37_doorCount := hts (Cond.fieldLink RX6 37 "FreeCity$Night" "doorCount" "I") (List.mem_cons_of_mem _ qw1_192)
  have lk_21_sights := hts (Cond.fieldLink RX6 21 "FreeCity$Night" "sights" "[I") (List.mem_cons_of_mem _ qw1_194)
  have ft := f0_tq
  have fo := f0_oq
  refine lv_aload_n hx hb dX6_copyFrom_0 rfl (lv_at hl 1 rfl) ?_
  refine va_get (C := RX6) (T := TX6) (N := 6) (ci := 6) hx hb hts hin hown hK hO.1 oq fo rfl 0 (by decide) lk_9_doorSpots (fun _ h9 => h9) rfl dX6_copyFrom_1 ?_
  refine lv_aload_n hx hb dX6_copyFrom_4 rfl (lv_at hl 0 rfl) ?_
  refine va_get (C := RX6) (T := TX6) (N := 6) (ci := 6) hx hb hts hin hown hK hO.1 tq ft rfl 0 (by decide) lk_9_doorSpots (fun _ h9 => h9) rfl dX6_copyFrom_5 ?_
  have fa := f0_oq_doorSpots
  have fb := f0_tq_doorSpots
  refine cSNv0 (As := [.ref oa_doorSpots, .ref ta_doorSpots]) (rest := []) C hK hX hO (c_X11_copyRow (l := l) fa fb (rfl : (tyC cI cZ cJ cB cR cT)[0]? = _) (by decide)) ⟨va_cnB 2 hts gi_X6_33 rfl rfl rfl (nWm hX nm_X6_33) (hts _ (List.mem_cons_of_mem _ qw1_1)) hd_X11_copyRow (rok hR (Nat.le_of_ble_eq_true rfl) (Nat.le_of_ble_eq_true rfl)), hts _ (List.mem_cons_of_mem _ qw5_157), trivial⟩ rfl hl.1 rfl (Nat.le_of_ble_eq_true rfl) dX6_copyFrom_8 ⟨Nat.zero_le _, Nat.zero_le _⟩ (fun H locs _ hO => ?_)
  have hO : okW D A s.heap H locs w_1 := okW_set ew_1 hO
  have ft := set_ne ew_1 ft (nd_ne hnd (i := 2) (j := 0) (by decide) rfl rfl)
  have fo := set_ne ew_1 fo (nd_ne hnd (i := 2) (j := 1) (by decide) rfl rfl)
  refine lv_aload_n hx hb dX6_copyFrom_11 rfl (lv_at hl 1 rfl) ?_
  refine va_get (C := RX6) (T := TX6) (N := 6) (ci := 6) hx hb hts hin hown hK hO.1 oq fo rfl 1 (by decide) lk_15_firstHours (fun _ h9 => h9) rfl dX6_copyFrom_12 ?_
  refine lv_aload_n hx hb dX6_copyFrom_15 rfl (lv_at hl 0 rfl) ?_
  refine va_get (C := RX6) (T := TX6) (N := 6) (ci := 6) hx hb hts hin hown hK hO.1 tq ft rfl 1 (by decide) lk_15_firstHours (fun _ h9 => h9) rfl dX6_copyFrom_16 ?_
  have fa := (set_ne ew_1 f0_oq_firstHours (nd_ne hnd (i := 2) (j := 7) (by decide) rfl rfl))
  have fb := (set_ne ew_1 f0_tq_firstHours (nd_ne hnd (i := 2) (j := 3) (by decide) rfl rfl))
  refine cSNv0 (As := [.ref oa_firstHours, .ref ta_firstHours]) (rest := []) C hK hX hO (c_X11_copyRow (l := l) fa fb (rfl : (tyC cI cZ cJ cB cR cT)[0]? = _) (by decide)) ⟨va_cnB 2 hts gi_X6_33 rfl rfl rfl (nWm hX nm_X6_33) (hts _ (List.mem_cons_of_mem _ qw1_1)) hd_X11_copyRow (rok hR (Nat.le_of_ble_eq_true rfl) (Nat.le_of_ble_eq_true rfl)), hts _ (List.mem_cons_of_mem _ qw5_157), trivial⟩ rfl hl.1 rfl (Nat.le_of_ble_eq_true rfl) dX6_copyFrom_19 ⟨Nat.zero_le _, Nat.zero_le _⟩ (fun H locs _ hO => ?_)
  have hO : okW D A s.heap H locs w_2 := okW_set ew_2 hO
  have ft := set_ne ew_2 ft (nd_ne hnd (i := 3) (j := 0) (by decide) rfl rfl)
  have fo := set_ne ew_2 fo (nd_ne hnd (i := 3) (j := 1) (by decide) rfl rfl)
  refine lv_aload_n hx hb dX6_copyFrom_22 rfl (lv_at hl 1 rfl) ?_
  refine va_get (C := RX6) (T := TX6) (N := 6) (ci := 6) hx hb hts hin hown hK hO.1 oq fo rfl 2 (by decide) lk_18_lastHours (fun _ h9 => h9) rfl dX6_copyFrom_23 ?_
  refine lv_aload_n hx hb dX6_copyFrom_26 rfl (lv_at hl 0 rfl) ?_
  refine va_get (C := RX6) (T := TX6) (N := 6) (ci := 6) hx hb hts hin hown hK hO.1 tq ft rfl 2 (by decide) lk_18_lastHours (fun _ h9 => h9) rfl dX6_copyFrom_27 ?_
  have fa := (set_ne ew_2 (set_ne ew_1 f0_oq_lastHours (nd_ne hnd (i := 2) (j := 8) (by decide) rfl rfl)) (nd_ne hnd (i := 3) (j := 8) (by decide) rfl rfl))
  have fb := (set_ne ew_2 (set_ne ew_1 f0_tq_lastHours (nd_ne hnd (i := 2) (j := 4) (by decide) rfl rfl)) (nd_ne hnd (i := 3) (j := 4) (by decide) rfl rfl))
  refine cSNv0 (As := [.ref oa_lastHours, .ref ta_lastHours]) (rest := []) C hK hX hO (c_X11_copyRow (l := l) fa fb (rfl : (tyC cI cZ cJ cB cR cT)[0]? = _) (by decide)) ⟨va_cnB 2 hts gi_X6_33 rfl rfl rfl (nWm hX nm_X6_33) (hts _ (List.mem_cons_of_mem _ qw1_1)) hd_X11_copyRow (rok hR (Nat.le_of_ble_eq_true rfl) (Nat.le_of_ble_eq_true rfl)), hts _ (List.mem_cons_of_mem _ qw5_157), trivial⟩ rfl hl.1 rfl (Nat.le_of_ble_eq_true rfl) dX6_copyFrom_30 ⟨Nat.zero_le _, Nat.zero_le _⟩ (fun H locs _ hO => ?_)
  have hO : okW D A s.heap H locs w_3 := okW_set ew_3 hO
  have ft := set_ne ew_3 ft (nd_ne hnd (i := 4) (j := 0) (by decide) rfl rfl)
  have fo := set_ne ew_3 fo (nd_ne hnd (i := 4) (j := 1) (by decide) rfl rfl)
  refine lv_aload_n hx hb dX6_copyFrom_33 rfl (lv_at hl 0 rfl) ?_
  refine lv_aload_n hx hb dX6_copyFrom_34 rfl (lv_at hl 1 rfl) ?_
  refine va_get (C := RX6) (T := TX6) (N := 6) (ci := 6) hx hb hts hin hown hK hO.1 oq fo rfl 3 (by decide) lk_37_doorCount (fun _ h9 => h9) rfl dX6_copyFrom_35 ?_
  refine va_put (C := RX6) (T := TX6) (N := 6) (ci := 6) (ty := .int) (v := .int ov_doorCount) hx hb hts hin tyX6 tyX6_ok nmX6 hown hK hO.1 hO.2.1 hO.2.2.1 tq ft rfl 3 (by decide) lk_37_doorCount (fun _ h9 => h9) rfl (by decide +kernel) rfl rfl (Nat.le_of_ble_eq_true rfl) dX6_copyFrom_38 (fun H locs hP hD hS => ?_)
  have hO : okW D A s.heap H locs w_4 := okW_set ew_4 ⟨hP, hD, hS, hO.2.2.2⟩
  have ft := set_at ew_4 ft
  have fo := set_ne ew_4 fo (nd_ne hnd (i := 0) (j := 1) (by decide) rfl rfl)
  refine lv_aload_n hx hb dX6_copyFrom_41 rfl (lv_at hl 1 rfl) ?_
  refine va_get (C := RX6) (T := TX6) (N := 6) (ci := 6) hx hb hts hin hown hK hO.1 oq fo rfl 4 (by decide) lk_21_sights (fun _ h9 => h9) rfl dX6_copyFrom_42 ?_
  refine lv_aload_n hx hb dX6_copyFrom_45 rfl (lv_at hl 0 rfl) ?_
  refine va_get (C := RX6) (T := TX6) (N := 6) (ci := 6) hx hb hts hin hown hK hO.1 tq ft rfl 4 (by decide) lk_21_sights (fun _ h9 => h9) rfl dX6_copyFrom_46 ?_
  have fa := (set_ne ew_4 (set_ne ew_3 (set_ne ew_2 (set_ne ew_1 f0_oq_sights (nd_ne hnd (i := 2) (j := 9) (by decide) rfl rfl)) (nd_ne hnd (i := 3) (j := 9) (by decide) rfl rfl)) (nd_ne hnd (i := 4) (j := 9) (by decide) rfl rfl)) (nd_ne hnd (i := 0) (j := 9) (by decide) rfl rfl))
  have fb := (set_ne ew_4 (set_ne ew_3 (set_ne ew_2 (set_ne ew_1 f0_tq_sights (nd_ne hnd (i := 2) (j := 5) (by decide) rfl rfl)) (nd_ne hnd (i := 3) (j := 5) (by decide) rfl rfl)) (nd_ne hnd (i := 4) (j := 5) (by decide) rfl rfl)) (nd_ne hnd (i := 0) (j := 5) (by decide) rfl rfl))
  refine cSNv0 (As := [.ref oa_sights, .ref ta_sights]) (rest := []) C hK hX hO (c_X11_copyRow (l := l) fa fb (rfl : (tyC cI cZ cJ cB cR cT)[0]? = _) (by decide)) ⟨va_cnB 2 hts gi_X6_33 rfl rfl rfl (nWm hX nm_X6_33) (hts _ (List.mem_cons_of_mem _ qw1_1)) hd_X11_copyRow (rok hR (Nat.le_of_ble_eq_true rfl) (Nat.le_of_ble_eq_true rfl)), hts _ (List.mem_cons_of_mem _ qw5_157), trivial⟩ rfl hl.1 rfl (Nat.le_of_ble_eq_true rfl) dX6_copyFrom_49 ⟨Nat.zero_le _, Nat.zero_le _⟩ (fun H locs _ hO => ?_)
  have hO : okW D A s.heap H locs w_5 := okW_set ew_5 hO
  have ft := set_ne ew_5 ft (nd_ne hnd (i := 5) (j := 0) (by decide) rfl rfl)
  have fo := set_ne ew_5 fo (nd_ne hnd (i := 5) (j := 1) (by decide) rfl rfl)
  exact rv0 hQQ hx hb hr hlk hK hO trivial dX6_copyFrom_52
theorem gi_X3_24 {a : Cond} : GoodIn (a :: wsG) (Cond.code yX11_copyRow cX11_copyRow 2 none :: wsG) := gdI qw5_158

set_option maxHeartbeats 4000000 in
set_option maxRecDepth 100000 in
theorem c_X3_copyFrom {l : Launch} {D : va_G} {cI cZ cJ cB cR cT : ClassId} {ws : va_W} {sz : Nat} {ta oa ta_votes ta_sayingDays ta_saidSo ta_saidNot oa_votes oa_sayingDays oa_saidSo oa_saidNot : Nat} {tq oq tq_votes tq_sayingDays tq_saidSo tq_saidNot oq_votes oq_sayingDays oq_saidSo oq_saidNot : Nat} {tv_sayingCount ov_sayingCount : Int32} {tv_votes ov_votes : Nat → Int32} {tv_sayingDays ov_sayingDays : Nat → Int32} {tv_saidSo ov_saidSo : Nat → Int32} {tv_saidNot ov_saidNot : Nat → Int32} {w_1 w_2 w_3 w_4 w_5 : va_W} (f0_tq : ws[tq]? = some (ta, .inr (3, [.ref ta_votes, .ref ta_sayingDays, .ref ta_saidSo, .ref ta_saidNot, .int tv_sayingCount]))) (f0_oq : ws[oq]? = some (oa, .inr (3, [.ref oa_votes, .ref oa_sayingDays, .ref oa_saidSo, .ref oa_saidNot, .int ov_sayingCount]))) (f0_tq_votes : ws[tq_votes]? = some (ta_votes, .inl (cI, (6, .inl tv_votes)))) (f0_tq_sayingDays : ws[tq_sayingDays]? = some (ta_sayingDays, .inl (cI, (20, .inl tv_sayingDays)))) (f0_tq_saidSo : ws[tq_saidSo]? = some (ta_saidSo, .inl (cI, (20, .inl tv_saidSo)))) (f0_tq_saidNot : ws[tq_saidNot]? = some (ta_saidNot, .inl (cI, (20, .inl tv_saidNot)))) (f0_oq_votes : ws[oq_votes]? = some (oa_votes, .inl (cI, (6, .inl ov_votes)))) (f0_oq_sayingDays : ws[oq_sayingDays]? = some (oa_sayingDays, .inl (cI, (20, .inl ov_sayingDays)))) (f0_oq_saidSo : ws[oq_saidSo]? = some (oa_saidSo, .inl (cI, (20, .inl ov_saidSo)))) (f0_oq_saidNot : ws[oq_saidNot]? = some (oa_saidNot, .inl (cI, (20, .inl ov_saidNot)))) (hnd : [tq, oq, tq_votes, tq_sayingDays, tq_saidSo, tq_saidNot, oq_votes, oq_sayingDays, oq_saidSo, oq_saidNot].Nodup) (ew_1 : w_1 = (ws).set tq_votes (ta_votes, .inl (cI, (6, .inl (va_cpy ov_votes tv_votes 0 0 6))))) (ew_2 : w_2 = (w_1).set tq_sayingDays (ta_sayingDays, .inl (cI, (20, .inl (va_cpy ov_sayingDays tv_sayingDays 0 0 20))))) (ew_3 : w_3 = (w_2).set tq_saidSo (ta_saidSo, .inl (cI, (20, .inl (va_cpy ov_saidSo tv_saidSo 0 0 20))))) (ew_4 : w_4 = (w_3).set tq_saidNot (ta_saidNot, .inl (cI, (20, .inl (va_cpy ov_saidNot tv_saidNot 0 0 20))))) (ew_5 : w_5 = (w_4).set tq (ta, .inr (3, [.ref ta_votes, .ref ta_sayingDays, .ref ta_saidSo, .ref ta_saidNot, .int ov_sayingCount]))) : Met l yX3_copyFrom (Cond.code yX3_copyFrom cX3_copyFrom 2 none :: wsG) ({ frames := 2, cells := 0, slots := 0, locals := 81 } : Room) (preW D (tyC cI cZ cJ cB cR cT) ws sz [.ref ta, .ref oa]) (qv0 D (tyC cI cZ cJ cB cR cT) (va_A ws sz) True w_5) 0 0 (va_A ws sz) := by
  refine st_met (cc := cX3_copyFrom) (maxL := 2) (ret := none) (lv := [(0, .ref ta), (1, .ref oa)]) (Qc := fun A => qv0 D (tyC cI cZ cJ cB cR cT) A True w_5) (by decide) rfl (Nat.le_of_ble_eq_true rfl) rfl ?_
  intro p e s m below meth c ls A R args QQ H locs C hr hlk hnm hK hX hsz hl hO hR hQQ
  have hx := C.1
  have hb := C.2.1
  have hown := C.2.2.2.1
  have hts := C.2.2.2.2
  have hin : ∀ w ∈ u_ws RX3 TX3 5, w ∈ (Cond.code yX3_copyFrom cX3_copyFrom 2 none :: wsG) := fun w h9 => List.mem_cons_of_mem _ (inG3 w h9)
  have lk_9_votes := hts (Cond.fieldLink RX3 9 "FreeCity$Hall" "votes" "[I") (List.mem_cons_of_mem _ qw1_216)
  have lk_15_sayingDays := hts (Cond.fieldLink RX3 15 "FreeCity$Hall" "sayingDays" "[I") (List.mem_cons_of_mem _ qw1_218)
  have lk_18_saidSo := hts (Cond.fieldLink RX3 18 "FreeCity$Hall" "saidSo" "[I") (List.mem_cons_of_mem _ qw1_219)
  have lk_21_saidNot := hts (Cond.fieldLink RX3 21 "FreeCity$Hall" "saidNot" "[I") (List.mem_cons_of_mem _ qw1_220)
  have lk_28_sayingCount := hts (Cond.fieldLink RX3 28 "FreeCity$Hall" "sayingCount" "I") (List.mem_cons_of_mem _ qw1_221)
  have ft := f0_tq
  have fo := f0_oq
  refine lv_aload_n hx hb dX3_copyFrom_0 rfl (lv_at hl 1 rfl) ?_
  refine va_get (C := RX3) (T := TX3) (N := 5) (ci := 3) hx hb hts hin hown hK hO.1 oq fo rfl 0 (by decide) lk_9_votes (fun _ h9 => h9) rfl dX3_copyFrom_1 ?_
  refine lv_aload_n hx hb dX3_copyFrom_4 rfl (lv_at hl 0 rfl) ?_
  refine va_get (C := RX3) (T := TX3) (N := 5) (ci := 3) hx hb hts hin hown hK hO.1 tq ft rfl 0 (by decide) lk_9_votes (fun _ h9 => h9) rfl dX3_copyFrom_5 ?_
  have fa := f0_oq_votes
  have fb := f0_tq_votes
  refine cSNv0 (As := [.ref oa_votes, .ref ta_votes]) (rest := []) C hK hX hO (c_X11_copyRow (l := l) fa fb (rfl : (tyC cI cZ cJ cB cR cT)[0]? = _) (by decide)) ⟨va_cnB 2 hts gi_X3_24 rfl rfl rfl (nWm hX nm_X3_24) (hts _ (List.mem_cons_of_mem _ qw1_1)) hd_X11_copyRow (rok hR (Nat.le_of_ble_eq_true rfl) (Nat.le_of_ble_eq_true rfl)), hts _ (List.mem_cons_of_mem _ qw5_157), trivial⟩ rfl hl.1 rfl (Nat.le_of_ble_eq_true rfl) dX3_copyFrom_8 ⟨Nat.zero_le _, Nat.zero_le _⟩ (fun H locs _ hO => ?_)
  have hO : okW D A s.heap H locs w_1 := okW_set ew_1 hO
  have ft := set_ne ew_1 ft (nd_ne hnd (i := 2) (j := 0) (by decide) rfl rfl)
  have fo := set_ne ew_1 fo (nd_ne hnd (i := 2) (j := 1) (by decide) rfl rfl)
  refine lv_aload_n hx hb dX3_copyFrom_11 rfl (lv_at hl 1 rfl) ?_
  refine va_get (C := RX3) (T := TX3) (N := 5) (ci := 3) hx hb hts hin hown hK hO.1 oq fo rfl 1 (by decide) lk_15_sayingDays (fun _ h9 => h9) rfl dX3_copyFrom_12 ?_
  refine lv_aload_n hx hb dX3_copyFrom_15 rfl (lv_at hl 0 rfl) ?_
  refine va_get (C := RX3) (T := TX3) (N := 5) (ci := 3) hx hb hts hin hown hK hO.1 tq ft rfl 1 (by decide) lk_15_sayingDays (fun _ h9 => h9) rfl dX3_copyFrom_16 ?_
  have fa := (set_ne ew_1 f0_oq_sayingDays (nd_ne hnd (i := 2) (j := 7) (by decide) rfl rfl))
  have fb := (set_ne ew_1 f0_tq_sayingDays (nd_ne hnd (i := 2) (j := 3) (by decide) rfl rfl))
  refine cSNv0 (As := [.ref oa_sayingDays, .ref ta_sayingDays]) (rest := []) C hK hX hO (c_X11_copyRow (l := l) fa fb (rfl : (tyC cI cZ cJ cB cR cT)[0]? = _) (by decide)) ⟨va_cnB 2 hts gi_X3_24 rfl rfl rfl (nWm hX nm_X3_24) (hts _ (List.mem_cons_of_mem _ qw1_1)) hd_X11_copyRow (rok hR (Nat.le_of_ble_eq_true rfl) (Nat.le_of_ble_eq_true rfl)), hts _ (List.mem_cons_of_mem _ qw5_157), trivial⟩ rfl hl.1 rfl (Nat.le_of_ble_eq_true rfl) dX3_copyFrom_19 ⟨Nat.zero_le _, Nat.zero_le _⟩ (fun H locs _ hO => ?_)
  have hO : okW D A s.heap H locs w_2 := okW_set ew_2 hO
  have ft := set_ne ew_2 ft (nd_ne hnd (i := 3) (j := 0) (by decide) rfl rfl)
  have fo := set_ne ew_2 fo (nd_ne hnd (i := 3) (j := 1) (by decide) rfl rfl)
  refine lv_aload_n hx hb dX3_copyFrom_22 rfl (lv_at hl 1 rfl) ?_
  refine va_get (C := RX3) (T := TX3) (N := 5) (ci := 3) hx hb hts hin hown hK hO.1 oq fo rfl 2 (by decide) lk_18_saidSo (fun _ h9 => h9) rfl dX3_copyFrom_23 ?_
  refine lv_aload_n hx hb dX3_copyFrom_26 rfl (lv_at hl 0 rfl) ?_
  refine va_get (C := RX3) (T := TX3) (N := 5) (ci := 3) hx hb hts hin hown hK hO.1 tq ft rfl 2 (by decide) lk_18_saidSo (fun _ h9 => h9) rfl dX3_copyFrom_27 ?_
  have fa := (set_ne ew_2 (set_ne ew_1 f0_oq_saidSo (nd_ne hnd (i := 2) (j := 8) (by decide) rfl rfl)) (nd_ne hnd (i := 3) (j := 8) (by decide) rfl rfl))
  have fb := (set_ne ew_2 (set_ne ew_1 f0_tq_saidSo (nd_ne hnd (i := 2) (j := 4) (by decide) rfl rfl)) (nd_ne hnd (i := 3) (j := 4) (by decide) rfl rfl))
  refine cSNv0 (As := [.ref oa_saidSo, .ref ta_saidSo]) (rest := []) C hK hX hO (c_X11_copyRow (l := l) fa fb (rfl : (tyC cI cZ cJ cB cR cT)[0]? = _) (by decide)) ⟨va_cnB 2 hts gi_X3_24 rfl rfl rfl (nWm hX nm_X3_24) (hts _ (List.mem_cons_of_mem _ qw1_1)) hd_X11_copyRow (rok hR (Nat.le_of_ble_eq_true rfl) (Nat.le_of_ble_eq_true rfl)), hts _ (List.mem_cons_of_mem _ qw5_157), trivial⟩ rfl hl.1 rfl (Nat.le_of_ble_eq_true rfl) dX3_copyFrom_30 ⟨Nat.zero_le _, Nat.zero_le _⟩ (fun H locs _ hO => ?_)
  have hO : okW D A s.heap H locs w_3 := okW_set ew_3 hO
  have ft := set_ne ew_3 ft (nd_ne hnd (i := 4) (j := 0) (by decide) rfl rfl)
  have fo := set_ne ew_3 fo (nd_ne hnd (i := 4) (j := 1) (by decide) rfl rfl)
  refine lv_aload_n hx hb dX3_copyFrom_33 rfl (lv_at hl 1 rfl) ?_
  refine va_get (C := RX3) (T := TX3) (N := 5) (ci := 3) hx hb hts hin hown hK hO.1 oq fo rfl 3 (by decide) lk_21_saidNot (fun _ h9 => h9) rfl dX3_copyFrom_34 ?_
  refine lv_aload_n hx hb dX3_copyFrom_37 rfl (lv_at hl 0 rfl) ?_
  refine va_get (C := RX3) (T := TX3) (N := 5) (ci := 3) hx hb hts hin hown hK hO.1 tq ft rfl 3 (by decide) lk_21_saidNot (fun _ h9 => h9) rfl dX3_copyFrom_38 ?_
  have fa := (set_ne ew_3 (set_ne ew_2 (set_ne ew_1 f0_oq_saidNot (nd_ne hnd (i := 2) (j := 9) (by decide) rfl rfl)) (nd_ne hnd (i := 3) (j := 9) (by decide) rfl rfl)) (nd_ne hnd (i := 4) (j := 9) (by decide) rfl rfl))
  have fb := (set_ne ew_3 (set_ne ew_2 (set_ne ew_1 f0_tq_saidNot (nd_ne hnd (i := 2) (j := 5) (by decide) rfl rfl)) (nd_ne hnd (i := 3) (j := 5) (by decide) rfl rfl)) (nd_ne hnd (i := 4) (j := 5) (by decide) rfl rfl))
  refine cSNv0 (As := [.ref oa_saidNot, .ref ta_saidNot]) (rest := []) C hK hX hO (c_X11_copyRow (l := l) fa fb (rfl : (tyC cI cZ cJ cB cR cT)[0]? = _) (by decide)) ⟨va_cnB 2 hts gi_X3_24 rfl rfl rfl (nWm hX nm_X3_24) (hts _ (List.mem_cons_of_mem _ qw1_1)) hd_X11_copyRow (rok hR (Nat.le_of_ble_eq_true rfl) (Nat.le_of_ble_eq_true rfl)), hts _ (List.mem_cons_of_mem _ qw5_157), trivial⟩ rfl hl.1 rfl (Nat.le_of_ble_eq_true rfl) dX3_copyFrom_41 ⟨Nat.zero_le _, Nat.zero_le _⟩ (fun H locs _ hO => ?_)
  have hO : okW D A s.heap H locs w_4 := okW_set ew_4 hO
  have ft := set_ne ew_4 ft (nd_ne hnd (i := 5) (j := 0) (by decide) rfl rfl)
  have fo := set_ne ew_4 fo (nd_ne hnd (i := 5) (j := 1) (by decide) rfl rfl)
  refine lv_aload_n hx hb dX3_copyFrom_44 rfl (lv_at hl 0 rfl) ?_
  refine lv_aload_n hx hb dX3_copyFrom_45 rfl (lv_at hl 1 rfl) ?_
  refine va_get (C := RX3) (T := TX3) (N := 5) (ci := 3) hx hb hts hin hown hK hO.1 oq fo rfl 4 (by decide) lk_28_sayingCount (fun _ h9 => h9) rfl dX3_copyFrom_46 ?_
  refine va_put (C := RX3) (T := TX3) (N := 5) (ci := 3) (ty := .int) (v := .int ov_sayingCount) hx hb hts hin tyX3 tyX3_ok nmX3 hown hK hO.1 hO.2.1 hO.2.2.1 tq ft rfl 4 (by decide) lk_28_sayingCount (fun _ h9 => h9) rfl (by decide +kernel) rfl rfl (Nat.le_of_ble_eq_true rfl) dX3_copyFrom_49 (fun H locs hP hD hS => ?_)
  have hO : okW D A s.heap H locs w_5 := okW_set ew_5 ⟨hP, hD, hS, hO.2.2.2⟩
  have ft := set_at ew_5 ft
  have fo := set_ne ew_5 fo (nd_ne hnd (i := 0) (j := 1) (by decide) rfl rfl)
  exact rv0 hQQ hx hb hr hlk hK hO trivial dX3_copyFrom_52
theorem gi_X0_25 {a : Cond} : GoodIn (a :: wsG) (Cond.code yX11_copyRow cX11_copyRow 2 none :: wsG) := gdI qw5_158
theorem gi_X0_29 {a : Cond} : GoodIn (a :: wsG) (Cond.code yX11_copyRow_ cX11_copyRow_ 2 none :: wsG) := gdI qw5_169

set_option maxHeartbeats 4000000 in
set_option maxRecDepth 100000 in
theorem c_X0_copyFrom {l : Launch} {D : va_G} {cI cZ cJ cB cR cT : ClassId} {ws : va_W} {sz : Nat} {ta oa ta_cells ta_fallingIfLet ta_fallingIfNot ta_wanted oa_cells oa_fallingIfLet oa_fallingIfNot oa_wanted : Nat} {tq oq tq_cells tq_fallingIfLet tq_fallingIfNot tq_wanted oq_cells oq_fallingIfLet oq_fallingIfNot oq_wanted : Nat} {tv_questionCount ov_questionCount : Int32} {tv_wantedCount ov_wantedCount : Int32} {tv_cells ov_cells : Nat → Int32} {tv_fallingIfLet ov_fallingIfLet : Nat → Int64} {tv_fallingIfNot ov_fallingIfNot : Nat → Int64} {tv_wanted ov_wanted : Nat → Int32} {w_1 w_2 w_3 w_4 w_5 w_6 : va_W} (f0_tq : ws[tq]? = some (ta, .inr (0, [.ref ta_cells, .ref ta_fallingIfLet, .ref ta_fallingIfNot, .int tv_questionCount, .ref ta_wanted, .int tv_wantedCount]))) (f0_oq : ws[oq]? = some (oa, .inr (0, [.ref oa_cells, .ref oa_fallingIfLet, .ref oa_fallingIfNot, .int ov_questionCount, .ref oa_wanted, .int ov_wantedCount]))) (f0_tq_cells : ws[tq_cells]? = some (ta_cells, .inl (cI, (6, .inl tv_cells)))) (f0_tq_fallingIfLet : ws[tq_fallingIfLet]? = some (ta_fallingIfLet, .inl (cJ, (6, .inr (.inl tv_fallingIfLet))))) (f0_tq_fallingIfNot : ws[tq_fallingIfNot]? = some (ta_fallingIfNot, .inl (cJ, (6, .inr (.inl tv_fallingIfNot))))) (f0_tq_wanted : ws[tq_wanted]? = some (ta_wanted, .inl (cI, (10, .inl tv_wanted)))) (f0_oq_cells : ws[oq_cells]? = some (oa_cells, .inl (cI, (6, .inl ov_cells)))) (f0_oq_fallingIfLet : ws[oq_fallingIfLet]? = some (oa_fallingIfLet, .inl (cJ, (6, .inr (.inl ov_fallingIfLet))))) (f0_oq_fallingIfNot : ws[oq_fallingIfNot]? = some (oa_fallingIfNot, .inl (cJ, (6, .inr (.inl ov_fallingIfNot))))) (f0_oq_wanted : ws[oq_wanted]? = some (oa_wanted, .inl (cI, (10, .inl ov_wanted)))) (hnd : [tq, oq, tq_cells, tq_fallingIfLet, tq_fallingIfNot, tq_wanted, oq_cells, oq_fallingIfLet, oq_fallingIfNot, oq_wanted].Nodup) (ew_1 : w_1 = (ws).set tq_cells (ta_cells, .inl (cI, (6, .inl (va_cpy ov_cells tv_cells 0 0 6))))) (ew_2 : w_2 = (w_1).set tq_fallingIfLet (ta_fallingIfLet, .inl (cJ, (6, .inr (.inl (va_cpy ov_fallingIfLet tv_fallingIfLet 0 0 6)))))) (ew_3 : w_3 = (w_2).set tq_fallingIfNot (ta_fallingIfNot, .inl (cJ, (6, .inr (.inl (va_cpy ov_fallingIfNot tv_fallingIfNot 0 0 6)))))) (ew_4 : w_4 = (w_3).set tq (ta, .inr (0, [.ref ta_cells, .ref ta_fallingIfLet, .ref ta_fallingIfNot, .int ov_questionCount, .ref ta_wanted, .int tv_wantedCount]))) (ew_5 : w_5 = (w_4).set tq_wanted (ta_wanted, .inl (cI, (10, .inl (va_cpy ov_wanted tv_wanted 0 0 10))))) (ew_6 : w_6 = (w_5).set tq (ta, .inr (0, [.ref ta_cells, .ref ta_fallingIfLet, .ref ta_fallingIfNot, .int ov_questionCount, .ref ta_wanted, .int ov_wantedCount]))) : Met l yX0_copyFrom (Cond.code yX0_copyFrom cX0_copyFrom 2 none :: wsG) ({ frames := 2, cells := 0, slots := 0, locals := 81 } : Room) (preW D (tyC cI cZ cJ cB cR cT) ws sz [.ref ta, .ref oa]) (qv0 D (tyC cI cZ cJ cB cR cT) (va_A ws sz) True w_6) 0 0 (va_A ws sz) := by
  refine st_met (cc := cX0_copyFrom) (maxL := 2) (ret := none) (lv := [(0, .ref ta), (1, .ref oa)]) (Qc := fun A => qv0 D (tyC cI cZ cJ cB cR cT) A True w_6) (by decide) rfl (Nat.le_of_ble_eq_true rfl) rfl ?_
  intro p e s m below meth c ls A R args QQ H locs C hr hlk hnm hK hX hsz hl hO hR hQQ
  have hx := C.1
  have hb := C.2.1
  have hown := C.2.2.2.1
  have hts := C.2.2.2.2
  have hin : ∀ w ∈ u_ws RX0 TX0 6, w ∈ (Cond.code yX0_copyFrom cX0_copyFrom 2 none :: wsG) := fun w h9 => List.mem_cons_of_mem _ (inG0 w h9)
  have lk_9_cells := hts (Cond.fieldLink RX0 9 "FreeCity$Bench" "cells" "[I") (List.mem_cons_of_mem _ qw2_0)
  have lk_15_fallingIfLet := hts (Cond.fieldLink RX0 15 "FreeCity$Bench" "fallingIfLet" "[J") (List.mem_cons_of_mem _ qw2_1)
  have lk_19_fallingIfNot := hts (Cond.fieldLink RX0 19 "FreeCity$Bench" "fallingIfNot" "[J") (List.mem_cons_of_mem _ qw2_2)
  have lk_32_questionCount := hts (Cond.fieldLink RX0 32 "FreeCity$Bench" "questionCount" "I") (List.mem_cons_of_mem _ qw2_3)
  have lk_22_wanted := hts (Cond.fieldLink RX0 22 "FreeCity$Bench" "wanted" "[I") (List.mem_cons_of_mem _ qw2_5)
  have lk_36_wantedCount := hts (Cond.fieldLink RX0 36 "FreeCity$Bench" "wantedCount" "I") (List.mem_cons_of_mem _ qw2_7)
  have ft := f0_tq
  have fo := f0_oq
  refine lv_aload_n hx hb dX0_copyFrom_0 rfl (lv_at hl 1 rfl) ?_
  refine va_get (C := RX0) (T := TX0) (N := 6) (ci := 0) hx hb hts hin hown hK hO.1 oq fo rfl 0 (by decide) lk_9_cells (fun _ h9 => h9) rfl dX0_copyFrom_1 ?_
  refine lv_aload_n hx hb dX0_copyFrom_4 rfl (lv_at hl 0 rfl) ?_
  refine va_get (C := RX0) (T := TX0) (N := 6) (ci := 0) hx hb hts hin hown hK hO.1 tq ft rfl 0 (by decide) lk_9_cells (fun _ h9 => h9) rfl dX0_copyFrom_5 ?_
  have fa := f0_oq_cells
  have fb := f0_tq_cells
  refine cSNv0 (As := [.ref oa_cells, .ref ta_cells]) (rest := []) C hK hX hO (c_X11_copyRow (l := l) fa fb (rfl : (tyC cI cZ cJ cB cR cT)[0]? = _) (by decide)) ⟨va_cnB 2 hts gi_X0_25 rfl rfl rfl (nWm hX nm_X0_25) (hts _ (List.mem_cons_of_mem _ qw1_1)) hd_X11_copyRow (rok hR (Nat.le_of_ble_eq_true rfl) (Nat.le_of_ble_eq_true rfl)), hts _ (List.mem_cons_of_mem _ qw5_157), trivial⟩ rfl hl.1 rfl (Nat.le_of_ble_eq_true rfl) dX0_copyFrom_8 ⟨Nat.zero_le _, Nat.zero_le _⟩ (fun H locs _ hO => ?_)
  have hO : okW D A s.heap H locs w_1 := okW_set ew_1 hO
  have ft := set_ne ew_1 ft (nd_ne hnd (i := 2) (j := 0) (by decide) rfl rfl)
  have fo := set_ne ew_1 fo (nd_ne hnd (i := 2) (j := 1) (by decide) rfl rfl)
  refine lv_aload_n hx hb dX0_copyFrom_11 rfl (lv_at hl 1 rfl) ?_
  refine va_get (C := RX0) (T := TX0) (N := 6) (ci := 0) hx hb hts hin hown hK hO.1 oq fo rfl 1 (by decide) lk_15_fallingIfLet (fun _ h9 => h9) rfl dX0_copyFrom_12 ?_
  refine lv_aload_n hx hb dX0_copyFrom_15 rfl (lv_at hl 0 rfl) ?_
  refine va_get (C := RX0) (T := TX0) (N := 6) (ci := 0) hx hb hts hin hown hK hO.1 tq ft rfl 1 (by decide) lk_15_fallingIfLet (fun _ h9 => h9) rfl dX0_copyFrom_16 ?_
  have fa := (set_ne ew_1 f0_oq_fallingIfLet (nd_ne hnd (i := 2) (j := 7) (by decide) rfl rfl))
  have fb := (set_ne ew_1 f0_tq_fallingIfLet (nd_ne hnd (i := 2) (j := 3) (by decide) rfl rfl))
  refine cSNv0 (As := [.ref oa_fallingIfLet, .ref ta_fallingIfLet]) (rest := []) C hK hX hO (c_X11_copyRow_ (l := l) fa fb (rfl : (tyC cI cZ cJ cB cR cT)[2]? = _) (by decide)) ⟨va_cnB 2 hts gi_X0_29 rfl rfl rfl (nWm hX nm_X0_29) (hts _ (List.mem_cons_of_mem _ qw1_1)) hd_X11_copyRow_ (rok hR (Nat.le_of_ble_eq_true rfl) (Nat.le_of_ble_eq_true rfl)), hts _ (List.mem_cons_of_mem _ qw5_168), trivial⟩ rfl hl.1 rfl (Nat.le_of_ble_eq_true rfl) dX0_copyFrom_19 ⟨Nat.zero_le _, Nat.zero_le _⟩ (fun H locs _ hO => ?_)
  have hO : okW D A s.heap H locs w_2 := okW_set ew_2 hO
  have ft := set_ne ew_2 ft (nd_ne hnd (i := 3) (j := 0) (by decide) rfl rfl)
  have fo := set_ne ew_2 fo (nd_ne hnd (i := 3) (j := 1) (by decide) rfl rfl)
  refine lv_aload_n hx hb dX0_copyFrom_22 rfl (lv_at hl 1 rfl) ?_
  refine va_get (C := RX0) (T := TX0) (N := 6) (ci := 0) hx hb hts hin hown hK hO.1 oq fo rfl 2 (by decide) lk_19_fallingIfNot (fun _ h9 => h9) rfl dX0_copyFrom_23 ?_
  refine lv_aload_n hx hb dX0_copyFrom_26 rfl (lv_at hl 0 rfl) ?_
  refine va_get (C := RX0) (T := TX0) (N := 6) (ci := 0) hx hb hts hin hown hK hO.1 tq ft rfl 2 (by decide) lk_19_fallingIfNot (fun _ h9 => h9) rfl dX0_copyFrom_27 ?_
  have fa := (set_ne ew_2 (set_ne ew_1 f0_oq_fallingIfNot (nd_ne hnd (i := 2) (j := 8) (by decide) rfl rfl)) (nd_ne hnd (i := 3) (j := 8) (by decide) rfl rfl))
  have fb := (set_ne ew_2 (set_ne ew_1 f0_tq_fallingIfNot (nd_ne hnd (i := 2) (j := 4) (by decide) rfl rfl)) (nd_ne hnd (i := 3) (j := 4) (by decide) rfl rfl))
  refine cSNv0 (As := [.ref oa_fallingIfNot, .ref ta_fallingIfNot]) (rest := []) C hK hX hO (c_X11_copyRow_ (l := l) fa fb (rfl : (tyC cI cZ cJ cB cR cT)[2]? = _) (by decide)) ⟨va_cnB 2 hts gi_X0_29 rfl rfl rfl (nWm hX nm_X0_29) (hts _ (List.mem_cons_of_mem _ qw1_1)) hd_X11_copyRow_ (rok hR (Nat.le_of_ble_eq_true rfl) (Nat.le_of_ble_eq_true rfl)), hts _ (List.mem_cons_of_mem _ qw5_168), trivial⟩ rfl hl.1 rfl (Nat.le_of_ble_eq_true rfl) dX0_copyFrom_30 ⟨Nat.zero_le _, Nat.zero_le _⟩ (fun H locs _ hO => ?_)
  have hO : okW D A s.heap H locs w_3 := okW_set ew_3 hO
  have ft := set_ne ew_3 ft (nd_ne hnd (i := 4) (j := 0) (by decide) rfl rfl)
  have fo := set_ne ew_3 fo (nd_ne hnd (i := 4) (j := 1) (by decide) rfl rfl)
  refine lv_aload_n hx hb dX0_copyFrom_33 rfl (lv_at hl 0 rfl) ?_
  refine lv_aload_n hx hb dX0_copyFrom_34 rfl (lv_at hl 1 rfl) ?_
  refine va_get (C := RX0) (T := TX0) (N := 6) (ci := 0) hx hb hts hin hown hK hO.1 oq fo rfl 3 (by decide) lk_32_questionCount (fun _ h9 => h9) rfl dX0_copyFrom_35 ?_
  refine va_put (C := RX0) (T := TX0) (N := 6) (ci := 0) (ty := .int) (v := .int ov_questionCount) hx hb hts hin tyX0 tyX0_ok nmX0 hown hK hO.1 hO.2.1 hO.2.2.1 tq ft rfl 3 (by decide) lk_32_questionCount (fun _ h9 => h9) rfl (by decide +kernel) rfl rfl (Nat.le_of_ble_eq_true rfl) dX0_copyFrom_38 (fun H locs hP hD hS => ?_)
  have hO : okW D A s.heap H locs w_4 := okW_set ew_4 ⟨hP, hD, hS, hO.2.2.2⟩
  have ft := set_at ew_4 ft
  have fo := set_ne ew_4 fo (nd_ne hnd (i := 0) (j := 1) (by decide) rfl rfl)
  refine lv_aload_n hx hb dX0_copyFrom_41 rfl (lv_at hl 1 rfl) ?_
  refine va_get (C := RX0) (T := TX0) (N := 6) (ci := 0) hx hb hts hin hown hK hO.1 oq fo rfl 4 (by decide) lk_22_wanted (fun _ h9 => h9) rfl dX0_copyFrom_42 ?_
  refine lv_aload_n hx hb dX0_copyFrom_45 rfl (lv_at hl 0 rfl) ?_
  refine va_get (C := RX0) (T := TX0) (N := 6) (ci := 0) hx hb hts hin hown hK hO.1 tq ft rfl 4 (by decide) lk_22_wanted (fun _ h9 => h9) rfl dX0_copyFrom_46 ?_
  have fa := (set_ne ew_4 (set_ne ew_3 (set_ne ew_2 (set_ne ew_1 f0_oq_wanted (nd_ne hnd (i := 2) (j := 9) (by decide) rfl rfl)) (nd_ne hnd (i := 3) (j := 9) (by decide) rfl rfl)) (nd_ne hnd (i := 4) (j := 9) (by decide) rfl rfl)) (nd_ne hnd (i := 0) (j := 9) (by decide) rfl rfl))
  have fb := (set_ne ew_4 (set_ne ew_3 (set_ne ew_2 (set_ne ew_1 f0_tq_wanted (nd_ne hnd (i := 2) (j := 5) (by decide) rfl rfl)) (nd_ne hnd (i := 3) (j := 5) (by decide) rfl rfl)) (nd_ne hnd (i := 4) (j := 5) (by decide) rfl rfl)) (nd_ne hnd (i := 0) (j := 5) (by decide) rfl rfl))
  refine cSNv0 (As := [.ref oa_wanted, .ref ta_wanted]) (rest := []) C hK hX hO (c_X11_copyRow (l := l) fa fb (rfl : (tyC cI cZ cJ cB cR cT)[0]? = _) (by decide)) ⟨va_cnB 2 hts gi_X0_25 rfl rfl rfl (nWm hX nm_X0_25) (hts _ (List.mem_cons_of_mem _ qw1_1)) hd_X11_copyRow (rok hR (Nat.le_of_ble_eq_true rfl) (Nat.le_of_ble_eq_true rfl)), hts _ (List.mem_cons_of_mem _ qw5_157), trivial⟩ rfl hl.1 rfl (Nat.le_of_ble_eq_true rfl) dX0_copyFrom_49 ⟨Nat.zero_le _, Nat.zero_le _⟩ (fun H locs _ hO => ?_)
  have hO : okW D A s.heap H locs w_5 := okW_set ew_5 hO
  have ft := set_ne ew_5 ft (nd_ne hnd (i := 5) (j := 0) (by decide) rfl rfl)
  have fo := set_ne ew_5 fo (nd_ne hnd (i := 5) (j := 1) (by decide) rfl rfl)
  refine lv_aload_n hx hb dX0_copyFrom_52 rfl (lv_at hl 0 rfl) ?_
  refine lv_aload_n hx hb dX0_copyFrom_53 rfl (lv_at hl 1 rfl) ?_
  refine va_get (C := RX0) (T := TX0) (N := 6) (ci := 0) hx hb hts hin hown hK hO.1 oq fo rfl 5 (by decide) lk_36_wantedCount (fun _ h9 => h9) rfl dX0_copyFrom_54 ?_
  refine va_put (C := RX0) (T := TX0) (N := 6) (ci := 0) (ty := .int) (v := .int ov_wantedCount) hx hb hts hin tyX0 tyX0_ok nmX0 hown hK hO.1 hO.2.1 hO.2.2.1 tq ft rfl 5 (by decide) lk_36_wantedCount (fun _ h9 => h9) rfl (by decide +kernel) rfl rfl (Nat.le_of_ble_eq_true rfl) dX0_copyFrom_57 (fun H locs hP hD hS => ?_)
  have hO : okW D A s.heap H locs w_6 := okW_set ew_6 ⟨hP, hD, hS, hO.2.2.2⟩
  have ft := set_at ew_6 ft
  have fo := set_ne ew_6 fo (nd_ne hnd (i := 0) (j := 1) (by decide) rfl rfl)
  exact rv0 hQQ hx hb hr hlk hK hO trivial dX0_copyFrom_60
