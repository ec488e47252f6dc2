def f_X12_here (k_s : Nat → Int32) (k_read : Int32) (k_spot : Int32)  : Int32 := (if (k_s (((nI 4450) + k_read)).toNatClampNeg) ≤ k_spot then (-1) else (k_s ((((nI 4750) + ((nI 120) * k_read)) + k_spot)).toNatClampNeg))
def ok_X12_here (k_s : Nat → Int32) (k_read : Int32) (k_spot : Int32)  : Prop := vp_in ((nI 4450) + k_read) 6700 ∧ (¬ (k_s (((nI 4450) + k_read)).toNatClampNeg) ≤ k_spot → (vp_in (((nI 4750) + ((nI 120) * k_read)) + k_spot) 6700))
set_option maxHeartbeats 4000000 in
set_option maxRecDepth 100000 in
theorem c_X12_here {l : Launch} {D : va_G} {cI cZ cJ : ClassId} {h : Nat} {ad : Nat → Nat} {sz : Nat} {k_thrown : Int32} {k_s : Nat → Int32} {k_image : Nat → Int32} {k_hasImage : Int32} {k_steps : Nat → Int32} {k_read : Int32} {k_spot : Int32} {k_isWrong : Int32} {k_open : Int32} {k_act : Int32} {k_letBy : Nat → Int32} {k_letStamp : Nat → Int32} {k_stamp : Int32} {k_fallen : Nat → Int32} {k_held : Nat → Int32} {k_stands : Nat → Int32} {k_falling : Nat → Int32} {k_away : Nat → Int32} {k_round : Nat → Int32} {k_rests : Nat → Int64} {k_may : Nat → Int32} {k_next : Nat → Int32} {k_could : Nat → Int32} {k_couldNight : Nat → Int32} {k_night : Int32} {k_seats : Nat → Int32}  (hw : ok_X12_here k_s k_read k_spot) : Met l yX12_here (Cond.code yX12_here cX12_here 1 (some .int) :: wsG) ({ frames := 0, cells := 0, slots := 0, locals := 0 } : Room) (preW D (tyM cI cZ cJ) (wM cI cZ cJ h ad k_thrown k_s k_image k_hasImage k_steps k_read k_spot k_isWrong k_open k_act k_letBy k_letStamp k_stamp k_fallen k_held k_stands k_falling k_away k_round k_rests k_may k_next k_could k_couldNight k_night k_seats) sz [.ref h]) (qi0 D (tyM cI cZ cJ) (va_A (wM cI cZ cJ h ad k_thrown k_s k_image k_hasImage k_steps k_read k_spot k_isWrong k_open k_act k_letBy k_letStamp k_stamp k_fallen k_held k_stands k_falling k_away k_round k_rests k_may k_next k_could k_couldNight k_night k_seats) sz) (fun r => r = f_X12_here k_s k_read k_spot) (wM cI cZ cJ h ad k_thrown k_s k_image k_hasImage k_steps k_read k_spot k_isWrong k_open k_act k_letBy k_letStamp k_stamp k_fallen k_held k_stands k_falling k_away k_round k_rests k_may k_next k_could k_couldNight k_night k_seats)) 0 0 (va_A (wM cI cZ cJ h ad k_thrown k_s k_image k_hasImage k_steps k_read k_spot k_isWrong k_open k_act k_letBy k_letStamp k_stamp k_fallen k_held k_stands k_falling k_away k_round k_rests k_may k_next k_could k_couldNight k_night k_seats) sz) := by
  refine st_met (cc := cX12_here) (maxL := 1) (ret := (some .int)) (lv := [(0, .ref h)]) (Qc := fun A => qi0 D (tyM cI cZ cJ) A (fun r => r = f_X12_here k_s k_read k_spot) (wM cI cZ cJ h ad k_thrown k_s k_image k_hasImage k_steps k_read k_spot k_isWrong k_open k_act k_letBy k_letStamp k_stamp k_fallen k_held k_stands k_falling k_away k_round k_rests k_may k_next k_could k_couldNight k_night k_seats)) (by decide) rfl (Nat.le_of_ble_eq_true rfl) rfl ?_
  intro p e s m below meth c ls A R args QQ H locs C hr hlk hnm hK hX hsz hl hO hR hQQ
  have hx := C.1
  have hb := C.2.1
  have hown := C.2.2.2.1
  have hts := C.2.2.2.2
  have hin : ∀ w ∈ u_ws RX12 TX12 26, w ∈ (Cond.code yX12_here cX12_here 1 (some .int) :: wsG) := fun w h9 => List.mem_cons_of_mem _ (inG12 w h9)
  have lk_spot := hts (Cond.fieldLink RX12 95 "FreeCityModel" "spot" "I") (List.mem_cons_of_mem _ qw5_212)
  have lk_s := hts (Cond.fieldLink RX12 7 "FreeCityModel" "s" "[I") (List.mem_cons_of_mem _ qw5_207)
  have lk_read := hts (Cond.fieldLink RX12 98 "FreeCityModel" "read" "I") (List.mem_cons_of_mem _ qw5_211)
  unfold ok_X12_here at hw
  have hs := hw
  obtain ⟨o_16, hs⟩ := hs
  refine lv_aload_n hx hb dX12_here_0 rfl (lv_at hl 0 rfl) ?_
  refine gM_spot C hin hK lk_spot hO dX12_here_1 ?_
  refine lv_aload_n hx hb dX12_here_4 rfl (lv_at hl 0 rfl) ?_
  refine gM_s C hin hK lk_s hO dX12_here_5 ?_
  refine lv_sipush (v := (nI 4450)) hx hb dX12_here_8 (by decide) ?_
  refine lv_aload_n hx hb dX12_here_11 rfl (lv_at hl 0 rfl) ?_
  refine gM_read C hin hK lk_read hO dX12_here_12 ?_
  refine lv_iadd hx hb dX12_here_15 ?_
  refine ldM_s C hK hO o_16 rfl dX12_here_16 ?_
  refine lv_icmp_ge (tgt := 44) hx hb dX12_here_17 (by decide) (fun q_17 => ?_) (fun q_17 => ?_)
  · refine lv_iconst (v := (-1)) hx hb dX12_here_44 (by decide) ?_
    exact ri0 hQQ hx hb hr hlk hK hO (by unfold f_X12_here; rw [if_pos q_17]) dX12_here_45
  · have hs := hs q_17
    have o_40 := hs
    refine lv_aload_n hx hb dX12_here_20 rfl (lv_at hl 0 rfl) ?_
    refine gM_s C hin hK lk_s hO dX12_here_21 ?_
    refine lv_sipush (v := (nI 4750)) hx hb dX12_here_24 (by decide) ?_
    refine lv_bipush (v := (nI 120)) hx hb dX12_here_27 (by decide) ?_
    refine lv_aload_n hx hb dX12_here_29 rfl (lv_at hl 0 rfl) ?_
    refine gM_read C hin hK lk_read hO dX12_here_30 ?_
    refine lv_imul hx hb dX12_here_33 ?_
    refine lv_iadd hx hb dX12_here_34 ?_
    refine lv_aload_n hx hb dX12_here_35 rfl (lv_at hl 0 rfl) ?_
    refine gM_spot C hin hK lk_spot hO dX12_here_36 ?_
    refine lv_iadd hx hb dX12_here_39 ?_
    refine ldM_s C hK hO o_40 rfl dX12_here_40 ?_
    refine lv_goto (tgt := 45) hx hb dX12_here_41 (by decide) ?_
    exact ri0 hQQ hx hb hr hlk hK hO (by unfold f_X12_here; rw [if_neg q_17]) dX12_here_45
theorem gd_X12_105 {a : Cond} : GoodIn (a :: wsG) (wsV RX12 105 RX12 yX12_here (Cond.code yX12_here cX12_here 1 (some .int) :: wsG)) := gdV qw6_94 qw6_96 qs_38 qw1_12 qw6_97
theorem hd_X12_here : yX12_here.cls = RX12 ∧ yX12_here.cls ≠ "java/lang/invoke/MethodHandle" ∧ yX12_here.cls ≠ "java/lang/invoke/VarHandle" ∧ (parseMethodDescriptor yX12_here.desc).map (fun d => d.parameters.length) = some 0 := by decide +kernel
def wp_X12_must (p1 : Int32) (k_s : Nat → Int32) (k_read : Int32) (k_spot : Int32) (k_isWrong : Int32) (Q : (Int32) → (Int32) → Prop) : Prop := (((k_isWrong = 0 → (ok_X12_here k_s k_read k_spot))) ∧ (∀ y1_21 : Int32, y1_21 = (if k_isWrong = 0 then (if (f_X12_here k_s k_read k_spot) = p1 then (nI 0) else (nI 1)) else (nI 1)) → (∀ y2_41 : Int32, y2_41 = (if y1_21 = 0 then (nI 1) else (nI 0)) → (Q (k_spot + y2_41) y1_21))))
set_option maxHeartbeats 4000000 in
set_option maxRecDepth 100000 in
theorem c_X12_must {l : Launch} {D : va_G} {cI cZ cJ : ClassId} {h : Nat} {ad : Nat → Nat} {sz : Nat} {k_thrown : Int32} {k_s : Nat → Int32} {k_image : Nat → Int32} {k_hasImage : Int32} {k_steps : Nat → Int32} {k_read : Int32} {k_spot : Int32} {k_isWrong : Int32} {k_open : Int32} {k_act : Int32} {k_letBy : Nat → Int32} {k_letStamp : Nat → Int32} {k_stamp : Int32} {k_fallen : Nat → Int32} {k_held : Nat → Int32} {k_stands : Nat → Int32} {k_falling : Nat → Int32} {k_away : Nat → Int32} {k_round : Nat → Int32} {k_rests : Nat → Int64} {k_may : Nat → Int32} {k_next : Nat → Int32} {k_could : Nat → Int32} {k_couldNight : Nat → Int32} {k_night : Int32} {k_seats : Nat → Int32} {p1 : Int32} {Q : (Int32) → (Int32) → Prop} (hw : wp_X12_must p1 k_s k_read k_spot k_isWrong Q) : Met l yX12_must (Cond.code yX12_must cX12_must 2 none :: wsG) ({ frames := 1, cells := 0, slots := 0, locals := 20 } : Room) (preW D (tyM cI cZ cJ) (wM cI cZ cJ h ad k_thrown k_s k_image k_hasImage k_steps k_read k_spot k_isWrong k_open k_act k_letBy k_letStamp k_stamp k_fallen k_held k_stands k_falling k_away k_round k_rests k_may k_next k_could k_couldNight k_night k_seats) sz [.ref h, .int p1]) (qv2 D (tyM cI cZ cJ) (va_A (wM cI cZ cJ h ad k_thrown k_s k_image k_hasImage k_steps k_read k_spot k_isWrong k_open k_act k_letBy k_letStamp k_stamp k_fallen k_held k_stands k_falling k_away k_round k_rests k_may k_next k_could k_couldNight k_night k_seats) sz) Q (fun k_spot' k_isWrong' => (wM cI cZ cJ h ad k_thrown k_s k_image k_hasImage k_steps k_read k_spot' k_isWrong' k_open k_act k_letBy k_letStamp k_stamp k_fallen k_held k_stands k_falling k_away k_round k_rests k_may k_next k_could k_couldNight k_night k_seats))) 0 0 (va_A (wM cI cZ cJ h ad k_thrown k_s k_image k_hasImage k_steps k_read k_spot k_isWrong k_open k_act k_letBy k_letStamp k_stamp k_fallen k_held k_stands k_falling k_away k_round k_rests k_may k_next k_could k_couldNight k_night k_seats) sz) := by
  refine st_met (cc := cX12_must) (maxL := 2) (ret := none) (lv := [(0, .ref h), (1, .int p1)]) (Qc := fun A => qv2 D (tyM cI cZ cJ) A Q (fun k_spot' k_isWrong' => (wM cI cZ cJ h ad k_thrown k_s k_image k_hasImage k_steps k_read k_spot' k_isWrong' k_open k_act k_letBy k_letStamp k_stamp k_fallen k_held k_stands k_falling k_away k_round k_rests k_may k_next k_could k_couldNight k_night k_seats))) (by decide) rfl (Nat.le_of_ble_eq_true rfl) rfl ?_
  intro p e s m below meth c ls A R args QQ H locs C hr hlk hnm hK hX hsz hl hO hR hQQ
  have hx := C.1
  have hb := C.2.1
  have hown := C.2.2.2.1
  have hts := C.2.2.2.2
  have hin : ∀ w ∈ u_ws RX12 TX12 26, w ∈ (Cond.code yX12_must cX12_must 2 none :: wsG) := fun w h9 => List.mem_cons_of_mem _ (inG12 w h9)
  have lk_isWrong := hts (Cond.fieldLink RX12 101 "FreeCityModel" "isWrong" "Z") (List.mem_cons_of_mem _ qw5_213)
  have lk_spot := hts (Cond.fieldLink RX12 95 "FreeCityModel" "spot" "I") (List.mem_cons_of_mem _ qw5_212)
  unfold wp_X12_must at hw
  refine lv_aload_n hx hb dX12_must_0 rfl (lv_at hl 0 rfl) ?_
  refine lv_aload_n hx hb dX12_must_1 rfl (lv_at hl 0 rfl) ?_
  refine gM_isWrong C hin hK lk_isWrong hO dX12_must_2 ?_
  obtain ⟨hs, hw⟩ := hw
  have m_21 : ∀ (y1_21 : Int32) (H : Heap) (locs : List Loc) (ls : Array Slot), y1_21 = (if k_isWrong = 0 then (if (f_X12_here k_s k_read k_spot) = p1 then (nI 0) else (nI 1)) else (nI 1)) → okW D A s.heap H locs (wM cI cZ cJ h ad k_thrown k_s k_image k_hasImage k_steps k_read k_spot k_isWrong k_open k_act k_letBy k_letStamp k_stamp k_fallen k_held k_stands k_falling k_away k_round k_rests k_may k_next k_could k_couldNight k_night k_seats) → lv_has ls 2 [(0, .ref h)] → W p l e R s m args below meth c H locs 0 0 QQ (F0 m 21 ls [.int y1_21, .ref h]) := by
    intro y1_21 H locs ls ey1_21 hO hl
    have hw := hw y1_21 ey1_21
    refine pM_isWrong C hin hK lk_isWrong hO (by rw [ey1_21]; exact (zb_ite (zb_ite zb0 zb1) zb1)) dX12_must_21 (fun H locs hO => ?_)
    refine lv_aload_n hx hb dX12_must_24 rfl (lv_at hl 0 rfl) ?_
    refine lv_dup hx hb dX12_must_25 rfl ?_
    refine gM_spot C hin hK lk_spot hO dX12_must_26 ?_
    refine lv_aload_n hx hb dX12_must_29 rfl (lv_at hl 0 rfl) ?_
    refine gM_isWrong C hin hK lk_isWrong hO dX12_must_30 ?_
    have m_41 : ∀ (y2_41 : Int32) (H : Heap) (locs : List Loc) (ls : Array Slot), y2_41 = (if y1_21 = 0 then (nI 1) else (nI 0)) → okW D A s.heap H locs (wM cI cZ cJ h ad k_thrown k_s k_image k_hasImage k_steps k_read k_spot y1_21 k_open k_act k_letBy k_letStamp k_stamp k_fallen k_held k_stands k_falling k_away k_round k_rests k_may k_next k_could k_couldNight k_night k_seats) → lv_has ls 2 [] → W p l e R s m args below meth c H locs 0 0 QQ (F0 m 41 ls [.int y2_41, .int k_spot, .ref h]) := by
      intro y2_41 H locs ls ey2_41 hO hl
      have hw := hw y2_41 ey2_41
      refine lv_iadd hx hb dX12_must_41 ?_
      refine pM_spot C hin hK lk_spot hO dX12_must_42 (fun H locs hO => ?_)
      exact rv2 hQQ hx hb hr hlk hK hO hw dX12_must_45
    refine lv_if_eq (tgt := 40) hx hb dX12_must_33 (by decide) (fun q_33 => ?_) (fun q_33 => ?_)
    · refine lv_iconst (v := (nI 1)) hx hb dX12_must_40 (by decide) ?_
      have hl := lv_sub hl [] rfl (l' := [])
      exact m_41 _ _ _ _ (by rw [if_pos q_33]) hO hl
    · refine lv_iconst (v := (nI 0)) hx hb dX12_must_36 (by decide) ?_
      refine lv_goto (tgt := 41) hx hb dX12_must_37 (by decide) ?_
      have hl := lv_sub hl [] rfl (l' := [])
      exact m_41 _ _ _ _ (by rw [if_neg q_33]) hO hl
  refine lv_if_ne (tgt := 16) hx hb dX12_must_5 (by decide) (fun q_5 => ?_) (fun q_5 => ?_)
  · refine lv_iconst (v := (nI 1)) hx hb dX12_must_16 (by decide) ?_
    refine lv_goto (tgt := 21) hx hb dX12_must_17 (by decide) ?_
    have hl := lv_sub hl [0] rfl (l' := [(0, .ref h)])
    exact m_21 _ _ _ _ (by rw [if_neg q_5]) hO hl
  · have hs := hs q_5
    have o_9 := hs
    refine lv_aload_n hx hb dX12_must_8 rfl (lv_at hl 0 rfl) ?_
    refine cVi0 (As := []) (rest := [.ref h]) C hK hX hO (c_X12_here (l := l) o_9) (cwV 0 hts gd_X12_105 rfl rfl rfl hd_X12_here (rok hR (Nat.le_of_ble_eq_true rfl) (Nat.le_of_ble_eq_true rfl))) (ci := 12) (q0 := 0) rfl rfl rfl rfl hl.1 rfl (Nat.le_of_ble_eq_true rfl) dX12_must_9 ⟨Nat.zero_le _, Nat.zero_le _⟩ (fun r_9 H locs e_9 hO => ?_)
    subst e_9
    refine lv_iload_n hx hb dX12_must_12 rfl (lv_at hl 1 rfl) ?_
    refine lv_icmp_eq (tgt := 20) hx hb dX12_must_13 (by decide) (fun q_13 => ?_) (fun q_13 => ?_)
    · refine lv_iconst (v := (nI 0)) hx hb dX12_must_20 (by decide) ?_
      have hl := lv_sub hl [0] rfl (l' := [(0, .ref h)])
      exact m_21 _ _ _ _ (by rw [if_pos q_5, if_pos q_13]) hO hl
    · refine lv_iconst (v := (nI 1)) hx hb dX12_must_16 (by decide) ?_
      refine lv_goto (tgt := 21) hx hb dX12_must_17 (by decide) ?_
      have hl := lv_sub hl [0] rfl (l' := [(0, .ref h)])
      exact m_21 _ _ _ _ (by rw [if_pos q_5, if_neg q_13]) hO hl
def wb_X12_number_34 (k_s : Nat → Int32) (k_read : Int32) (Q : Int32 → (Int32) → (Int32) → Prop) (y1_27 : Int32) (L_34 : Int32 → Int32 → Int32 → Prop) (v1_34 : Int32) (v2_34 : Int32) (spot_34 : Int32) : Prop := (((¬ (nI 2) ≤ v2_34 → ((y1_27 = 0 → (ok_X12_here k_s k_read spot_34))))) ∧ (((¬ (nI 2) ≤ v2_34 ∧ (y1_27 = 0 ∧ ¬ (f_X12_in (f_X12_here k_s k_read spot_34) (nI 48) (nI 57)) = 0)) → (((v2_34 = 0 ∨ ¬ v1_34 ≤ 0) → (ok_X12_here k_s k_read spot_34 ∧ (∀ x_79 : Int32, x_79 = ((((nI 10) * v1_34) + (f_X12_here k_s k_read spot_34)) - (nI 48)) → (L_34 x_79 (v2_34 + (nI 1)) (spot_34 + (nI 1)))))) ∧ (¬ ((v2_34 = 0 ∨ ¬ v1_34 ≤ 0)) → (Q v1_34 spot_34 y1_27)))) ∧ (¬ ((¬ (nI 2) ≤ v2_34 ∧ (y1_27 = 0 ∧ ¬ (f_X12_in (f_X12_here k_s k_read spot_34) (nI 48) (nI 57)) = 0))) → (Q v1_34 spot_34 y1_27))))
def wl_X12_number_34 (k_s : Nat → Int32) (k_read : Int32) (Q : Int32 → (Int32) → (Int32) → Prop) (y1_27 : Int32) : Nat → Int32 → Int32 → Int32 → Prop
  | 0, _, _, _ => False
  | n + 1, v1_34, v2_34, spot_34 => wb_X12_number_34 k_s k_read Q y1_27 (wl_X12_number_34 k_s k_read Q y1_27 n) v1_34 v2_34 spot_34
def wp_X12_number  (k_s : Nat → Int32) (k_read : Int32) (k_spot : Int32) (k_isWrong : Int32) (Q : Int32 → (Int32) → (Int32) → Prop) : Prop := (((k_isWrong = 0 → (ok_X12_here k_s k_read k_spot))) ∧ (∀ y1_27 : Int32, y1_27 = (if k_isWrong = 0 then (if (f_X12_in (f_X12_here k_s k_read k_spot) (nI 48) (nI 57)) = 0 then (nI 1) else (nI 0)) else (nI 1)) → (∃ n, wl_X12_number_34 k_s k_read Q y1_27 n (nI 0) (nI 0) k_spot)))
set_option maxHeartbeats 4000000 in
set_option maxRecDepth 100000 in
theorem c_X12_number {l : Launch} {D : va_G} {cI cZ cJ : ClassId} {h : Nat} {ad : Nat → Nat} {sz : Nat} {k_thrown : Int32} {k_s : Nat → Int32} {k_image : Nat → Int32} {k_hasImage : Int32} {k_steps : Nat → Int32} {k_read : Int32} {k_spot : Int32} {k_isWrong : Int32} {k_open : Int32} {k_act : Int32} {k_letBy : Nat → Int32} {k_letStamp : Nat → Int32} {k_stamp : Int32} {k_fallen : Nat → Int32} {k_held : Nat → Int32} {k_stands : Nat → Int32} {k_falling : Nat → Int32} {k_away : Nat → Int32} {k_round : Nat → Int32} {k_rests : Nat → Int64} {k_may : Nat → Int32} {k_next : Nat → Int32} {k_could : Nat → Int32} {k_couldNight : Nat → Int32} {k_night : Int32} {k_seats : Nat → Int32}  {Q : Int32 → (Int32) → (Int32) → Prop} (hw : wp_X12_number k_s k_read k_spot k_isWrong Q) : Met l yX12_number (Cond.code yX12_number cX12_number 3 (some .int) :: wsG) ({ frames := 1, cells := 0, slots := 0, locals := 22 } : Room) (preW D (tyM cI cZ cJ) (wM cI cZ cJ h ad k_thrown k_s k_image k_hasImage k_steps k_read k_spot k_isWrong k_open k_act k_letBy k_letStamp k_stamp k_fallen k_held k_stands k_falling k_away k_round k_rests k_may k_next k_could k_couldNight k_night k_seats) sz [.ref h]) (qi2 D (tyM cI cZ cJ) (va_A (wM cI cZ cJ h ad k_thrown k_s k_image k_hasImage k_steps k_read k_spot k_isWrong k_open k_act k_letBy k_letStamp k_stamp k_fallen k_held k_stands k_falling k_away k_round k_rests k_may k_next k_could k_couldNight k_night k_seats) sz) Q (fun k_spot' k_isWrong' => (wM cI cZ cJ h ad k_thrown k_s k_image k_hasImage k_steps k_read k_spot' k_isWrong' k_open k_act k_letBy k_letStamp k_stamp k_fallen k_held k_stands k_falling k_away k_round k_rests k_may k_next k_could k_couldNight k_night k_seats))) 0 0 (va_A (wM cI cZ cJ h ad k_thrown k_s k_image k_hasImage k_steps k_read k_spot k_isWrong k_open k_act k_letBy k_letStamp k_stamp k_fallen k_held k_stands k_falling k_away k_round k_rests k_may k_next k_could k_couldNight k_night k_seats) sz) := by
  refine st_met (cc := cX12_number) (maxL := 3) (ret := (some .int)) (lv := [(0, .ref h)]) (Qc := fun A => qi2 D (tyM cI cZ cJ) A Q (fun k_spot' k_isWrong' => (wM cI cZ cJ h ad k_thrown k_s k_image k_hasImage k_steps k_read k_spot' k_isWrong' k_open k_act k_letBy k_letStamp k_stamp k_fallen k_held k_stands k_falling k_away k_round k_rests k_may k_next k_could k_couldNight k_night k_seats))) (by decide) rfl (Nat.le_of_ble_eq_true rfl) rfl ?_
  intro p e s m below meth c ls A R args QQ H locs C hr hlk hnm hK hX hsz hl hO hR hQQ
  have hx := C.1
  have hb := C.2.1
  have hown := C.2.2.2.1
  have hts := C.2.2.2.2
  have hin : ∀ w ∈ u_ws RX12 TX12 26, w ∈ (Cond.code yX12_number cX12_number 3 (some .int) :: wsG) := fun w h9 => List.mem_cons_of_mem _ (inG12 w h9)
  have lk_isWrong := hts (Cond.fieldLink RX12 101 "FreeCityModel" "isWrong" "Z") (List.mem_cons_of_mem _ qw5_213)
  have lk_spot := hts (Cond.fieldLink RX12 95 "FreeCityModel" "spot" "I") (List.mem_cons_of_mem _ qw5_212)
  unfold wp_X12_number at hw
  refine lv_aload_n hx hb dX12_number_0 rfl (lv_at hl 0 rfl) ?_
  refine lv_aload_n hx hb dX12_number_1 rfl (lv_at hl 0 rfl) ?_
  refine gM_isWrong C hin hK lk_isWrong hO dX12_number_2 ?_
  obtain ⟨hs, hw⟩ := hw
  have m_27 : ∀ (y1_27 : Int32) (H : Heap) (locs : List Loc) (ls : Array Slot), y1_27 = (if k_isWrong = 0 then (if (f_X12_in (f_X12_here k_s k_read k_spot) (nI 48) (nI 57)) = 0 then (nI 1) else (nI 0)) else (nI 1)) → okW D A s.heap H locs (wM cI cZ cJ h ad k_thrown k_s k_image k_hasImage k_steps k_read k_spot k_isWrong k_open k_act k_letBy k_letStamp k_stamp k_fallen k_held k_stands k_falling k_away k_round k_rests k_may k_next k_could k_couldNight k_night k_seats) → lv_has ls 3 [(0, .ref h)] → W p l e R s m args below meth c H locs 0 0 QQ (F0 m 27 ls [.int y1_27, .ref h]) := by
    intro y1_27 H locs ls ey1_27 hO hl
    have hw := hw y1_27 ey1_27
    refine pM_isWrong C hin hK lk_isWrong hO (by rw [ey1_27]; exact (zb_ite (zb_ite zb1 zb0) zb1)) dX12_number_27 (fun H locs hO => ?_)
    refine lv_iconst (v := (nI 0)) hx hb dX12_number_30 (by decide) ?_
    refine lv_istore_n (lv' := [(1, .int (nI 0)), (0, .ref h)]) hx hb dX12_number_31 rfl hl (by decide) rfl (fun ls hl => ?_)
    refine lv_iconst (v := (nI 0)) hx hb dX12_number_32 (by decide) ?_
    refine lv_istore_n (lv' := [(2, .int (nI 0)), (1, .int (nI 0)), (0, .ref h)]) hx hb dX12_number_33 rfl hl (by decide) rfl (fun ls hl => ?_)
    obtain ⟨n_34, hw⟩ := hw
    have b_34 : ∀ (L_34 : Int32 → Int32 → Int32 → Prop) (ih_34 : ∀ (v1_34 : Int32) (v2_34 : Int32) (spot_34 : Int32) (H : Heap) (locs : List Loc) (ls : Array Slot), okW D A s.heap H locs (wM cI cZ cJ h ad k_thrown k_s k_image k_hasImage k_steps k_read spot_34 y1_27 k_open k_act k_letBy k_letStamp k_stamp k_fallen k_held k_stands k_falling k_away k_round k_rests k_may k_next k_could k_couldNight k_night k_seats) → lv_has ls 3 [(0, .ref h), (1, .int v1_34), (2, .int v2_34)] → L_34 v1_34 v2_34 spot_34 → W p l e R s m args below meth c H locs 0 0 QQ (F0 m 34 ls [])) (v1_34 : Int32) (v2_34 : Int32) (spot_34 : Int32) (H : Heap) (locs : List Loc) (ls : Array Slot), okW D A s.heap H locs (wM cI cZ cJ h ad k_thrown k_s k_image k_hasImage k_steps k_read spot_34 y1_27 k_open k_act k_letBy k_letStamp k_stamp k_fallen k_held k_stands k_falling k_away k_round k_rests k_may k_next k_could k_couldNight k_night k_seats) → lv_has ls 3 [(0, .ref h), (1, .int v1_34), (2, .int v2_34)] → wb_X12_number_34 k_s k_read Q y1_27 L_34 v1_34 v2_34 spot_34 → W p l e R s m args below meth c H locs 0 0 QQ (F0 m 34 ls []) := by
      intro L_34 ih_34 v1_34 v2_34 spot_34 H locs ls hO hl hw
      unfold wb_X12_number_34 at hw
      refine lv_iload_n hx hb dX12_number_34 rfl (lv_at hl 2 rfl) ?_
      refine lv_iconst (v := (nI 2)) hx hb dX12_number_35 (by decide) ?_
      obtain ⟨hs, hw⟩ := hw
      have a_60 : (¬ (nI 2) ≤ v2_34 ∧ (y1_27 = 0 ∧ ¬ (f_X12_in (f_X12_here k_s k_read spot_34) (nI 48) (nI 57)) = 0)) → ∀ (H : Heap) (locs : List Loc) (ls : Array Slot), okW D A s.heap H locs (wM cI cZ cJ h ad k_thrown k_s k_image k_hasImage k_steps k_read spot_34 y1_27 k_open k_act k_letBy k_letStamp k_stamp k_fallen k_held k_stands k_falling k_away k_round k_rests k_may k_next k_could k_couldNight k_night k_seats) → lv_has ls 3 [(0, .ref h), (1, .int v1_34), (2, .int v2_34)] → W p l e R s m args below meth c H locs 0 0 QQ (F0 m 60 ls []) := by
        intro cf H locs ls hO hl
        have hw := hw.1 cf
        refine lv_iload_n hx hb dX12_number_60 rfl (lv_at hl 2 rfl) ?_
        have a_68 : (v2_34 = 0 ∨ ¬ v1_34 ≤ 0) → ∀ (H : Heap) (locs : List Loc) (ls : Array Slot), okW D A s.heap H locs (wM cI cZ cJ h ad k_thrown k_s k_image k_hasImage k_steps k_read spot_34 y1_27 k_open k_act k_letBy k_letStamp k_stamp k_fallen k_held k_stands k_falling k_away k_round k_rests k_may k_next k_could k_couldNight k_night k_seats) → lv_has ls 3 [(0, .ref h), (1, .int v1_34), (2, .int v2_34)] → W p l e R s m args below meth c H locs 0 0 QQ (F0 m 68 ls []) := by
          intro cf H locs ls hO hl
          have hw := hw.1 cf
          refine lv_bipush (v := (nI 10)) hx hb dX12_number_68 (by decide) ?_
          refine lv_iload_n hx hb dX12_number_70 rfl (lv_at hl 1 rfl) ?_
          refine lv_imul hx hb dX12_number_71 ?_
          refine lv_aload_n hx hb dX12_number_72 rfl (lv_at hl 0 rfl) ?_
          obtain ⟨o_73, hw⟩ := hw
          refine cVi0 (As := []) (rest := [.int ((nI 10) * v1_34)]) C hK hX hO (c_X12_here (l := l) o_73) (cwV 0 hts gd_X12_105 rfl rfl rfl hd_X12_here (rok hR (Nat.le_of_ble_eq_true rfl) (Nat.le_of_ble_eq_true rfl))) (ci := 12) (q0 := 0) rfl rfl rfl rfl hl.1 rfl (Nat.le_of_ble_eq_true rfl) dX12_number_73 ⟨Nat.zero_le _, Nat.zero_le _⟩ (fun r_73 H locs e_73 hO => ?_)
          subst e_73
          refine lv_iadd hx hb dX12_number_76 ?_
          refine lv_bipush (v := (nI 48)) hx hb dX12_number_77 (by decide) ?_
          refine lv_isub hx hb dX12_number_79 ?_
          refine lv_topi (fun x_79 ex_79 => ?_)
          have hw := hw x_79 ex_79
          refine lv_istore_n (lv' := [(1, .int x_79), (0, .ref h), (2, .int v2_34)]) hx hb dX12_number_80 rfl hl (by decide) rfl (fun ls hl => ?_)
          refine lv_aload_n hx hb dX12_number_81 rfl (lv_at hl 1 rfl) ?_
          refine lv_dup hx hb dX12_number_82 rfl ?_
          refine gM_spot C hin hK lk_spot hO dX12_number_83 ?_
          refine lv_iconst (v := (nI 1)) hx hb dX12_number_86 (by decide) ?_
          refine lv_iadd hx hb dX12_number_87 ?_
          refine pM_spot C hin hK lk_spot hO dX12_number_88 (fun H locs hO => ?_)
          refine lv_iinc (v := (v2_34 + (nI 1))) (lv' := [(2, .int (v2_34 + (nI 1))), (1, .int x_79), (0, .ref h)]) hx hb dX12_number_91 hl (k := 2) rfl (iinc_1 _) (by decide) rfl (fun ls hl => ?_)
          refine lv_goto (tgt := 34) hx hb dX12_number_94 (by decide) ?_
          exact ih_34 x_79 (v2_34 + (nI 1)) (spot_34 + (nI 1)) _ _ _ hO (lv_sub hl [2, 1, 0] rfl) hw
        have a_97 : ¬ ((v2_34 = 0 ∨ ¬ v1_34 ≤ 0)) → ∀ (H : Heap) (locs : List Loc) (ls : Array Slot), okW D A s.heap H locs (wM cI cZ cJ h ad k_thrown k_s k_image k_hasImage k_steps k_read spot_34 y1_27 k_open k_act k_letBy k_letStamp k_stamp k_fallen k_held k_stands k_falling k_away k_round k_rests k_may k_next k_could k_couldNight k_night k_seats) → lv_has ls 3 [(1, .int v1_34)] → W p l e R s m args below meth c H locs 0 0 QQ (F0 m 97 ls []) := by
          intro cf H locs ls hO hl
          have hw := hw.2 cf
          refine lv_iload_n hx hb dX12_number_97 rfl (lv_at hl 0 rfl) ?_
          exact ri2 hQQ hx hb hr hlk hK hO hw dX12_number_98
        refine lv_if_eq (tgt := 68) hx hb dX12_number_61 (by decide) (fun q_61 => ?_) (fun q_61 => ?_)
        · have hl := lv_sub hl [0, 1, 2] rfl (l' := [(0, .ref h), (1, .int v1_34), (2, .int v2_34)])
          exact a_68 (Or.inl q_61) _ _ _ hO hl
        · refine lv_iload_n hx hb dX12_number_64 rfl (lv_at hl 1 rfl) ?_
          refine lv_if_le (tgt := 97) hx hb dX12_number_65 (by decide) (fun q_65 => ?_) (fun q_65 => ?_)
          · have hl := lv_sub hl [1] rfl (l' := [(1, .int v1_34)])
            exact a_97 (fun h => h.elim q_61 (fun h => h q_65)) _ _ _ hO hl
          · have hl := lv_sub hl [0, 1, 2] rfl (l' := [(0, .ref h), (1, .int v1_34), (2, .int v2_34)])
            exact a_68 (Or.inr q_65) _ _ _ hO hl
      have a_97 : ¬ ((¬ (nI 2) ≤ v2_34 ∧ (y1_27 = 0 ∧ ¬ (f_X12_in (f_X12_here k_s k_read spot_34) (nI 48) (nI 57)) = 0))) → ∀ (H : Heap) (locs : List Loc) (ls : Array Slot), okW D A s.heap H locs (wM cI cZ cJ h ad k_thrown k_s k_image k_hasImage k_steps k_read spot_34 y1_27 k_open k_act k_letBy k_letStamp k_stamp k_fallen k_held k_stands k_falling k_away k_round k_rests k_may k_next k_could k_couldNight k_night k_seats) → lv_has ls 3 [(1, .int v1_34)] → W p l e R s m args below meth c H locs 0 0 QQ (F0 m 97 ls []) := by
        intro cf H locs ls hO hl
        have hw := hw.2 cf
        refine lv_iload_n hx hb dX12_number_97 rfl (lv_at hl 0 rfl) ?_
        exact ri2 hQQ hx hb hr hlk hK hO hw dX12_number_98
      refine lv_icmp_ge (tgt := 97) hx hb dX12_number_36 (by decide) (fun q_36 => ?_) (fun q_36 => ?_)
      · have hl := lv_sub hl [1] rfl (l' := [(1, .int v1_34)])
        exact a_97 (fun h => h.1 q_36) _ _ _ hO hl
      · have hs := hs q_36
        refine lv_aload_n hx hb dX12_number_39 rfl (lv_at hl 0 rfl) ?_
        refine gM_isWrong C hin hK lk_isWrong hO dX12_number_40 ?_
        refine lv_if_ne (tgt := 97) hx hb dX12_number_43 (by decide) (fun q_43 => ?_) (fun q_43 => ?_)
        · have hl := lv_sub hl [1] rfl (l' := [(1, .int v1_34)])
          exact a_97 (fun h => ((fun h => q_43 h.1)) h.2) _ _ _ hO hl
        · have hs := hs q_43
          have o_47 := hs
          refine lv_aload_n hx hb dX12_number_46 rfl (lv_at hl 0 rfl) ?_
          refine cVi0 (As := []) (rest := []) C hK hX hO (c_X12_here (l := l) o_47) (cwV 0 hts gd_X12_105 rfl rfl rfl hd_X12_here (rok hR (Nat.le_of_ble_eq_true rfl) (Nat.le_of_ble_eq_true rfl))) (ci := 12) (q0 := 0) rfl rfl rfl rfl hl.1 rfl (Nat.le_of_ble_eq_true rfl) dX12_number_47 ⟨Nat.zero_le _, Nat.zero_le _⟩ (fun r_47 H locs e_47 hO => ?_)
          subst e_47
          refine lv_bipush (v := (nI 48)) hx hb dX12_number_50 (by decide) ?_
          refine lv_bipush (v := (nI 57)) hx hb dX12_number_52 (by decide) ?_
          refine cSi0 (As := [.int (f_X12_here k_s k_read spot_34), .int (nI 48), .int (nI 57)]) (rest := []) C hK hX hO (c_X12_in (l := l)) (va_cwS 3 hts gd_X12_74 rfl rfl rfl hd_X12_in (rok hR (Nat.le_of_ble_eq_true rfl) (Nat.le_of_ble_eq_true rfl))) rfl hl.1 rfl (Nat.le_of_ble_eq_true rfl) dX12_number_54 ⟨Nat.zero_le _, Nat.zero_le _⟩ (fun r_54 H locs e_54 hO => ?_)
          subst e_54
          refine lv_if_eq (tgt := 97) hx hb dX12_number_57 (by decide) (fun q_57 => ?_) (fun q_57 => ?_)
          · have hl := lv_sub hl [1] rfl (l' := [(1, .int v1_34)])
            exact a_97 (fun h => ((fun h => ((fun h => h q_57)) h.2)) h.2) _ _ _ hO hl
          · have hl := lv_sub hl [0, 1, 2] rfl (l' := [(0, .ref h), (1, .int v1_34), (2, .int v2_34)])
            exact a_60 ⟨q_36, ⟨q_43, q_57⟩⟩ _ _ _ hO hl
    have l_34 : ∀ (n : Nat) (v1_34 : Int32) (v2_34 : Int32) (spot_34 : Int32) (H : Heap) (locs : List Loc) (ls : Array Slot), okW D A s.heap H locs (wM cI cZ cJ h ad k_thrown k_s k_image k_hasImage k_steps k_read spot_34 y1_27 k_open k_act k_letBy k_letStamp k_stamp k_fallen k_held k_stands k_falling k_away k_round k_rests k_may k_next k_could k_couldNight k_night k_seats) → lv_has ls 3 [(0, .ref h), (1, .int v1_34), (2, .int v2_34)] → wl_X12_number_34 k_s k_read Q y1_27 n v1_34 v2_34 spot_34 → W p l e R s m args below meth c H locs 0 0 QQ (F0 m 34 ls []) := by
      intro n
      induction n with
      | zero => intro v1_34 v2_34 spot_34 H locs ls hO hl hw; exact False.elim hw
      | succ n ih => exact b_34 _ ih
    exact l_34 n_34 (nI 0) (nI 0) k_spot _ _ _ hO (lv_sub hl [2, 1, 0] rfl) hw
  refine lv_if_ne (tgt := 22) hx hb dX12_number_5 (by decide) (fun q_5 => ?_) (fun q_5 => ?_)
  · refine lv_iconst (v := (nI 1)) hx hb dX12_number_22 (by decide) ?_
    refine lv_goto (tgt := 27) hx hb dX12_number_23 (by decide) ?_
    have hl := lv_sub hl [0] rfl (l' := [(0, .ref h)])
    exact m_27 _ _ _ _ (by rw [if_neg q_5]) hO hl
  · have hs := hs q_5
    have o_9 := hs
    refine lv_aload_n hx hb dX12_number_8 rfl (lv_at hl 0 rfl) ?_
    refine cVi0 (As := []) (rest := [.ref h]) C hK hX hO (c_X12_here (l := l) o_9) (cwV 0 hts gd_X12_105 rfl rfl rfl hd_X12_here (rok hR (Nat.le_of_ble_eq_true rfl) (Nat.le_of_ble_eq_true rfl))) (ci := 12) (q0 := 0) rfl rfl rfl rfl hl.1 rfl (Nat.le_of_ble_eq_true rfl) dX12_number_9 ⟨Nat.zero_le _, Nat.zero_le _⟩ (fun r_9 H locs e_9 hO => ?_)
    subst e_9
    refine lv_bipush (v := (nI 48)) hx hb dX12_number_12 (by decide) ?_
    refine lv_bipush (v := (nI 57)) hx hb dX12_number_14 (by decide) ?_
    refine cSi0 (As := [.int (f_X12_here k_s k_read k_spot), .int (nI 48), .int (nI 57)]) (rest := [.ref h]) C hK hX hO (c_X12_in (l := l)) (va_cwS 3 hts gd_X12_74 rfl rfl rfl hd_X12_in (rok hR (Nat.le_of_ble_eq_true rfl) (Nat.le_of_ble_eq_true rfl))) rfl hl.1 rfl (Nat.le_of_ble_eq_true rfl) dX12_number_16 ⟨Nat.zero_le _, Nat.zero_le _⟩ (fun r_16 H locs e_16 hO => ?_)
    subst e_16
    refine lv_if_ne (tgt := 26) hx hb dX12_number_19 (by decide) (fun q_19 => ?_) (fun q_19 => ?_)
    · refine lv_iconst (v := (nI 0)) hx hb dX12_number_26 (by decide) ?_
      have hl := lv_sub hl [0] rfl (l' := [(0, .ref h)])
      exact m_27 _ _ _ _ (by rw [if_pos q_5, if_neg q_19]) hO hl
    · refine lv_iconst (v := (nI 1)) hx hb dX12_number_22 (by decide) ?_
      refine lv_goto (tgt := 27) hx hb dX12_number_23 (by decide) ?_
      have hl := lv_sub hl [0] rfl (l' := [(0, .ref h)])
      exact m_27 _ _ _ _ (by rw [if_pos q_5, if_pos q_19]) hO hl
def f_X12_sideOf  (p1 : Int32) : Int32 := (p1 / (nI 3600))
set_option maxHeartbeats 4000000 in
set_option maxRecDepth 100000 in
theorem c_X12_sideOf {l : Launch} {D : va_G} {T : List (ClassId × FieldType)} {ws : va_W} {sz : Nat} {p1 : Int32} : Met l yX12_sideOf (Cond.code yX12_sideOf cX12_sideOf 1 (some .int) :: wsG) ({ frames := 0, cells := 0, slots := 0, locals := 0 } : Room) (preW D T ws sz [.int p1]) (qi0 D T (va_A ws sz) (fun r => r = f_X12_sideOf p1) ws) 0 0 (va_A ws sz) := by
  refine st_met (cc := cX12_sideOf) (maxL := 1) (ret := (some .int)) (lv := [(0, .int p1)]) (Qc := fun A => qi0 D T A (fun r => r = f_X12_sideOf p1) ws) (by decide) rfl (Nat.le_of_ble_eq_true rfl) rfl ?_
  intro p e s m below meth c ls A R args QQ H locs C hr hlk hnm hK hX hsz hl hO hR hQQ
  have hx := C.1
  have hb := C.2.1
  have hown := C.2.2.2.1
  have hts := C.2.2.2.2
  refine lv_iload_n hx hb dX12_sideOf_0 rfl (lv_at hl 0 rfl) ?_
  refine lv_sipush (v := (nI 3600)) hx hb dX12_sideOf_1 (by decide) ?_
  refine lv_idiv hx hb dX12_sideOf_4 (by decide) ?_
  exact ri0 hQQ hx hb hr hlk hK hO (by unfold f_X12_sideOf; rfl) dX12_sideOf_5
def f_X12_spotOf  (p1 : Int32) : Int32 := ((p1 / (nI 120)) - (p1 / (nI 120)) / (nI 30) * (nI 30))
set_option maxHeartbeats 4000000 in
set_option maxRecDepth 100000 in
theorem c_X12_spotOf {l : Launch} {D : va_G} {T : List (ClassId × FieldType)} {ws : va_W} {sz : Nat} {p1 : Int32} : Met l yX12_spotOf (Cond.code yX12_spotOf cX12_spotOf 1 (some .int) :: wsG) ({ frames := 0, cells := 0, slots := 0, locals := 0 } : Room) (preW D T ws sz [.int p1]) (qi0 D T (va_A ws sz) (fun r => r = f_X12_spotOf p1) ws) 0 0 (va_A ws sz) := by
  refine st_met (cc := cX12_spotOf) (maxL := 1) (ret := (some .int)) (lv := [(0, .int p1)]) (Qc := fun A => qi0 D T A (fun r => r = f_X12_spotOf p1) ws) (by decide) rfl (Nat.le_of_ble_eq_true rfl) rfl ?_
  intro p e s m below meth c ls A R args QQ H locs C hr hlk hnm hK hX hsz hl hO hR hQQ
  have hx := C.1
  have hb := C.2.1
  have hown := C.2.2.2.1
  have hts := C.2.2.2.2
  refine lv_iload_n hx hb dX12_spotOf_0 rfl (lv_at hl 0 rfl) ?_
  refine lv_bipush (v := (nI 120)) hx hb dX12_spotOf_1 (by decide) ?_
  refine lv_idiv hx hb dX12_spotOf_3 (by decide) ?_
  refine lv_bipush (v := (nI 30)) hx hb dX12_spotOf_4 (by decide) ?_
  refine lv_irem hx hb dX12_spotOf_6 (by decide) ?_
  exact ri0 hQQ hx hb hr hlk hK hO (by unfold f_X12_spotOf; rfl) dX12_spotOf_7
def f_X12_matterOf  (p1 : Int32) : Int32 := ((p1 / (nI 24)) - (p1 / (nI 24)) / (nI 5) * (nI 5))
set_option maxHeartbeats 4000000 in
set_option maxRecDepth 100000 in
theorem c_X12_matterOf {l : Launch} {D : va_G} {T : List (ClassId × FieldType)} {ws : va_W} {sz : Nat} {p1 : Int32} : Met l yX12_matterOf (Cond.code yX12_matterOf cX12_matterOf 1 (some .int) :: wsG) ({ frames := 0, cells := 0, slots := 0, locals := 0 } : Room) (preW D T ws sz [.int p1]) (qi0 D T (va_A ws sz) (fun r => r = f_X12_matterOf p1) ws) 0 0 (va_A ws sz) := by
  refine st_met (cc := cX12_matterOf) (maxL := 1) (ret := (some .int)) (lv := [(0, .int p1)]) (Qc := fun A => qi0 D T A (fun r => r = f_X12_matterOf p1) ws) (by decide) rfl (Nat.le_of_ble_eq_true rfl) rfl ?_
  intro p e s m below meth c ls A R args QQ H locs C hr hlk hnm hK hX hsz hl hO hR hQQ
  have hx := C.1
  have hb := C.2.1
  have hown := C.2.2.2.1
  have hts := C.2.2.2.2
  refine lv_iload_n hx hb dX12_matterOf_0 rfl (lv_at hl 0 rfl) ?_
  refine lv_bipush (v := (nI 24)) hx hb dX12_matterOf_1 (by decide) ?_
  refine lv_idiv hx hb dX12_matterOf_3 (by decide) ?_
  refine lv_iconst (v := (nI 5)) hx hb dX12_matterOf_4 (by decide) ?_
  refine lv_irem hx hb dX12_matterOf_5 (by decide) ?_
  exact ri0 hQQ hx hb hr hlk hK hO (by unfold f_X12_matterOf; rfl) dX12_matterOf_6
def f_X12_hourOf  (p1 : Int32) : Int32 := (p1 - p1 / (nI 24) * (nI 24))
set_option maxHeartbeats 4000000 in
set_option maxRecDepth 100000 in
theorem c_X12_hourOf {l : Launch} {D : va_G} {T : List (ClassId × FieldType)} {ws : va_W} {sz : Nat} {p1 : Int32} : Met l yX12_hourOf (Cond.code yX12_hourOf cX12_hourOf 1 (some .int) :: wsG) ({ frames := 0, cells := 0, slots := 0, locals := 0 } : Room) (preW D T ws sz [.int p1]) (qi0 D T (va_A ws sz) (fun r => r = f_X12_hourOf p1) ws) 0 0 (va_A ws sz) := by
  refine st_met (cc := cX12_hourOf) (maxL := 1) (ret := (some .int)) (lv := [(0, .int p1)]) (Qc := fun A => qi0 D T A (fun r => r = f_X12_hourOf p1) ws) (by decide) rfl (Nat.le_of_ble_eq_true rfl) rfl ?_
  intro p e s m below meth c ls A R args QQ H locs C hr hlk hnm hK hX hsz hl hO hR hQQ
  have hx := C.1
  have hb := C.2.1
  have hown := C.2.2.2.1
  have hts := C.2.2.2.2
  refine lv_iload_n hx hb dX12_hourOf_0 rfl (lv_at hl 0 rfl) ?_
  refine lv_bipush (v := (nI 24)) hx hb dX12_hourOf_1 (by decide) ?_
  refine lv_irem hx hb dX12_hourOf_3 (by decide) ?_
  exact ri0 hQQ hx hb hr hlk hK hO (by unfold f_X12_hourOf; rfl) dX12_hourOf_4
abbrev fpT : Type := (Nat → Int32) → (Int32) → (Int32) → (Int32) → (Int32) → (Int32) → (Int32 → (Int32) → (Int32) → (Int32) → Prop) → Prop
def metF (l : Launch) (f lo : Nat) (wF : fpT) : Prop := ∀ {D : va_G} {cI cZ cJ : ClassId} {h : Nat} {ad : Nat → Nat} {sz : Nat} {k_thrown : Int32} {k_s : Nat → Int32} {k_image : Nat → Int32} {k_hasImage : Int32} {k_steps : Nat → Int32} {k_read : Int32} {k_spot : Int32} {k_isWrong : Int32} {k_open : Int32} {k_act : Int32} {k_letBy : Nat → Int32} {k_letStamp : Nat → Int32} {k_stamp : Int32} {k_fallen : Nat → Int32} {k_held : Nat → Int32} {k_stands : Nat → Int32} {k_falling : Nat → Int32} {k_away : Nat → Int32} {k_round : Nat → Int32} {k_rests : Nat → Int64} {k_may : Nat → Int32} {k_next : Nat → Int32} {k_could : Nat → Int32} {k_couldNight : Nat → Int32} {k_night : Int32} {k_seats : Nat → Int32} {Q : Int32 → (Int32) → (Int32) → (Int32) → Prop}, wF k_s k_read k_spot k_isWrong k_open k_act Q → Met l yX12_factor (Cond.code yX12_factor cX12_factor 4 (some .boolean) :: wsG) ({ frames := f, cells := 0, slots := 0, locals := lo } : Room) (preW D (tyM cI cZ cJ) (wM cI cZ cJ h ad k_thrown k_s k_image k_hasImage k_steps k_read k_spot k_isWrong k_open k_act k_letBy k_letStamp k_stamp k_fallen k_held k_stands k_falling k_away k_round k_rests k_may k_next k_could k_couldNight k_night k_seats) sz [.ref h]) (qi3 D (tyM cI cZ cJ) (va_A (wM cI cZ cJ h ad k_thrown k_s k_image k_hasImage k_steps k_read k_spot k_isWrong k_open k_act k_letBy k_letStamp k_stamp k_fallen k_held k_stands k_falling k_away k_round k_rests k_may k_next k_could k_couldNight k_night k_seats) sz) Q (fun k_spot' k_isWrong' k_open' => (wM cI cZ cJ h ad k_thrown k_s k_image k_hasImage k_steps k_read k_spot' k_isWrong' k_open' k_act k_letBy k_letStamp k_stamp k_fallen k_held k_stands k_falling k_away k_round k_rests k_may k_next k_could k_couldNight k_night k_seats))) 0 0 (va_A (wM cI cZ cJ h ad k_thrown k_s k_image k_hasImage k_steps k_read k_spot k_isWrong k_open k_act k_letBy k_letStamp k_stamp k_fallen k_held k_stands k_falling k_away k_round k_rests k_may k_next k_could k_couldNight k_night k_seats) sz)
theorem gd_X12_112 {a : Cond} : GoodIn (a :: wsG) (wsV RX12 112 RX12 yX12_factor (Cond.code yX12_factor cX12_factor 4 (some .boolean) :: wsG)) := gdV qw6_110 qw6_112 qs_42 qw1_12 qw6_113
theorem hd_X12_factor : yX12_factor.cls = RX12 ∧ yX12_factor.cls ≠ "java/lang/invoke/MethodHandle" ∧ yX12_factor.cls ≠ "java/lang/invoke/VarHandle" ∧ (parseMethodDescriptor yX12_factor.desc).map (fun d => d.parameters.length) = some 0 := by decide +kernel
def wb_X12_every_5 (k_s : Nat → Int32) (k_read : Int32) (k_act : Int32) (wF : fpT) (Q : Int32 → (Int32) → (Int32) → (Int32) → Prop) (L_5 : Int32 → Int32 → Int32 → Int32 → Prop) (v1_5 : Int32) (spot_5 : Int32) (isWrong_5 : Int32) (open_5 : Int32) : Prop := (((isWrong_5 = 0 → (ok_X12_here k_s k_read spot_5))) ∧ (((isWrong_5 = 0 ∧ (f_X12_here k_s k_read spot_5) = (nI 38)) → (wF k_s k_read (spot_5 + (nI 1)) isWrong_5 open_5 k_act (fun (r_32 : Int32) (spot_32 : Int32) (isWrong_32 : Int32) (open_32 : Int32) => (∀ y0_49 : Int32, y0_49 = (if v1_5 = 0 then (nI 0) else (if r_32 = 0 then (nI 0) else (nI 1))) → (L_5 y0_49 spot_32 isWrong_32 open_32))))) ∧ (¬ ((isWrong_5 = 0 ∧ (f_X12_here k_s k_read spot_5) = (nI 38))) → (zb v1_5 ∧ (Q v1_5 spot_5 isWrong_5 open_5)))))
def wl_X12_every_5 (k_s : Nat → Int32) (k_read : Int32) (k_act : Int32) (wF : fpT) (Q : Int32 → (Int32) → (Int32) → (Int32) → Prop) : Nat → Int32 → Int32 → Int32 → Int32 → Prop
  | 0, _, _, _, _ => False
  | n + 1, v1_5, spot_5, isWrong_5, open_5 => wb_X12_every_5 k_s k_read k_act wF Q (wl_X12_every_5 k_s k_read k_act wF Q n) v1_5 spot_5 isWrong_5 open_5
def wr_X12_every (wF : fpT) (k_s : Nat → Int32) (k_read : Int32) (k_spot : Int32) (k_isWrong : Int32) (k_open : Int32) (k_act : Int32) (Q : Int32 → (Int32) → (Int32) → (Int32) → Prop) : Prop := (wF k_s k_read k_spot k_isWrong k_open k_act (fun (r_1 : Int32) (spot_1 : Int32) (isWrong_1 : Int32) (open_1 : Int32) => (∃ n, wl_X12_every_5 k_s k_read k_act wF Q n r_1 spot_1 isWrong_1 open_1)))
set_option maxHeartbeats 4000000 in
set_option maxRecDepth 100000 in
theorem cr_X12_every {f lo : Nat} (hf : 4 ≤ f) (hlo : 100 ≤ lo) {wF : fpT} {l : Launch} {D : va_G} {cI cZ cJ : ClassId} {h : Nat} {ad : Nat → Nat} {sz : Nat} {k_thrown : Int32} {k_s : Nat → Int32} {k_image : Nat → Int32} {k_hasImage : Int32} {k_steps : Nat → Int32} {k_read : Int32} {k_spot : Int32} {k_isWrong : Int32} {k_open : Int32} {k_act : Int32} {k_letBy : Nat → Int32} {k_letStamp : Nat → Int32} {k_stamp : Int32} {k_fallen : Nat → Int32} {k_held : Nat → Int32} {k_stands : Nat → Int32} {k_falling : Nat → Int32} {k_away : Nat → Int32} {k_round : Nat → Int32} {k_rests : Nat → Int64} {k_may : Nat → Int32} {k_next : Nat → Int32} {k_could : Nat → Int32} {k_couldNight : Nat → Int32} {k_night : Int32} {k_seats : Nat → Int32} {Q : Int32 → (Int32) → (Int32) → (Int32) → Prop} (hF : metF l f lo wF) (hw : wr_X12_every wF k_s k_read k_spot k_isWrong k_open k_act Q) : Met l yX12_every (Cond.code yX12_every cX12_every 3 (some .boolean) :: wsG) ({ frames := f + 1, cells := 0, slots := 0, locals := lo + 23 } : Room) (preW D (tyM cI cZ cJ) (wM cI cZ cJ h ad k_thrown k_s k_image k_hasImage k_steps k_read k_spot k_isWrong k_open k_act k_letBy k_letStamp k_stamp k_fallen k_held k_stands k_falling k_away k_round k_rests k_may k_next k_could k_couldNight k_night k_seats) sz [.ref h]) (qi3 D (tyM cI cZ cJ) (va_A (wM cI cZ cJ h ad k_thrown k_s k_image k_hasImage k_steps k_read k_spot k_isWrong k_open k_act k_letBy k_letStamp k_stamp k_fallen k_held k_stands k_falling k_away k_round k_rests k_may k_next k_could k_couldNight k_night k_seats) sz) Q (fun k_spot' k_isWrong' k_open' => (wM cI cZ cJ h ad k_thrown k_s k_image k_hasImage k_steps k_read k_spot' k_isWrong' k_open' k_act k_letBy k_letStamp k_stamp k_fallen k_held k_stands k_falling k_away k_round k_rests k_may k_next k_could k_couldNight k_night k_seats))) 0 0 (va_A (wM cI cZ cJ h ad k_thrown k_s k_image k_hasImage k_steps k_read k_spot k_isWrong k_open k_act k_letBy k_letStamp k_stamp k_fallen k_held k_stands k_falling k_away k_round k_rests k_may k_next k_could k_couldNight k_night k_seats) sz) := by
  refine st_met (cc := cX12_every) (maxL := 3) (ret := (some .boolean)) (lv := [(0, .ref h)]) (Qc := fun A => qi3 D (tyM cI cZ cJ) A Q (fun k_spot' k_isWrong' k_open' => (wM cI cZ cJ h ad k_thrown k_s k_image k_hasImage k_steps k_read k_spot' k_isWrong' k_open' k_act k_letBy k_letStamp k_stamp k_fallen k_held k_stands k_falling k_away k_round k_rests k_may k_next k_could k_couldNight k_night k_seats))) (by decide) rfl (Nat.le_of_ble_eq_true rfl) rfl ?_
  intro p e s m below meth c ls A R args QQ H locs C hr hlk hnm hK hX hsz hl hO hR hQQ
  have hx := C.1
  have hb := C.2.1
  have hown := C.2.2.2.1
  have hts := C.2.2.2.2
  have hin : ∀ w ∈ u_ws RX12 TX12 26, w ∈ (Cond.code yX12_every cX12_every 3 (some .boolean) :: wsG) := fun w h9 => List.mem_cons_of_mem _ (inG12 w h9)
  have lk_isWrong := hts (Cond.fieldLink RX12 101 "FreeCityModel" "isWrong" "Z") (List.mem_cons_of_mem _ qw5_213)
  have lk_spot := hts (Cond.fieldLink RX12 95 "FreeCityModel" "spot" "I") (List.mem_cons_of_mem _ qw5_212)
  unfold wr_X12_every at hw
  refine lv_aload_n hx hb dX12_every_0 rfl (lv_at hl 0 rfl) ?_
  refine cVi3 (As := []) (rest := []) C hK hX hO (hF hw) (cwV 0 hts gd_X12_112 rfl rfl rfl hd_X12_factor (rok hR (show f + 1 ≤ f + 1 by omega) (show 8 + (4 + 11) + (lo) ≤ lo + 23 by omega))) (ci := 12) (q0 := 0) rfl rfl rfl rfl hl.1 rfl (Nat.le_of_ble_eq_true rfl) dX12_every_1 ⟨Nat.zero_le _, Nat.zero_le _⟩ (fun r_1 spot_1 isWrong_1 open_1 H locs hw hO => ?_)
  refine lv_istore_n (lv' := [(1, .int r_1), (0, .ref h)]) hx hb dX12_every_4 rfl hl (by decide) rfl (fun ls hl => ?_)
  obtain ⟨n_5, hw⟩ := hw
  have b_5 : ∀ (L_5 : Int32 → Int32 → Int32 → Int32 → Prop) (ih_5 : ∀ (v1_5 : Int32) (spot_5 : Int32) (isWrong_5 : Int32) (open_5 : Int32) (H : Heap) (locs : List Loc) (ls : Array Slot), okW D A s.heap H locs (wM cI cZ cJ h ad k_thrown k_s k_image k_hasImage k_steps k_read spot_5 isWrong_5 open_5 k_act k_letBy k_letStamp k_stamp k_fallen k_held k_stands k_falling k_away k_round k_rests k_may k_next k_could k_couldNight k_night k_seats) → lv_has ls 3 [(0, .ref h), (1, .int v1_5)] → L_5 v1_5 spot_5 isWrong_5 open_5 → W p l e R s m args below meth c H locs 0 0 QQ (F0 m 5 ls [])) (v1_5 : Int32) (spot_5 : Int32) (isWrong_5 : Int32) (open_5 : Int32) (H : Heap) (locs : List Loc) (ls : Array Slot), okW D A s.heap H locs (wM cI cZ cJ h ad k_thrown k_s k_image k_hasImage k_steps k_read spot_5 isWrong_5 open_5 k_act k_letBy k_letStamp k_stamp k_fallen k_held k_stands k_falling k_away k_round k_rests k_may k_next k_could k_couldNight k_night k_seats) → lv_has ls 3 [(0, .ref h), (1, .int v1_5)] → wb_X12_every_5 k_s k_read k_act wF Q L_5 v1_5 spot_5 isWrong_5 open_5 → W p l e R s m args below meth c H locs 0 0 QQ (F0 m 5 ls []) := by
    intro L_5 ih_5 v1_5 spot_5 isWrong_5 open_5 H locs ls hO hl hw
    unfold wb_X12_every_5 at hw
    refine lv_aload_n hx hb dX12_every_5 rfl (lv_at hl 0 rfl) ?_
    refine gM_isWrong C hin hK lk_isWrong hO dX12_every_6 ?_
    obtain ⟨hs, hw⟩ := hw
    have a_21 : (isWrong_5 = 0 ∧ (f_X12_here k_s k_read spot_5) = (nI 38)) → ∀ (H : Heap) (locs : List Loc) (ls : Array Slot), okW D A s.heap H locs (wM cI cZ cJ h ad k_thrown k_s k_image k_hasImage k_steps k_read spot_5 isWrong_5 open_5 k_act k_letBy k_letStamp k_stamp k_fallen k_held k_stands k_falling k_away k_round k_rests k_may k_next k_could k_couldNight k_night k_seats) → lv_has ls 3 [(0, .ref h), (1, .int v1_5)] → W p l e R s m args below meth c H locs 0 0 QQ (F0 m 21 ls []) := by
      intro cf H locs ls hO hl
      have hw := hw.1 cf
      refine lv_aload_n hx hb dX12_every_21 rfl (lv_at hl 0 rfl) ?_
      refine lv_dup hx hb dX12_every_22 rfl ?_
      refine gM_spot C hin hK lk_spot hO dX12_every_23 ?_
      refine lv_iconst (v := (nI 1)) hx hb dX12_every_26 (by decide) ?_
      refine lv_iadd hx hb dX12_every_27 ?_
      refine pM_spot C hin hK lk_spot hO dX12_every_28 (fun H locs hO => ?_)
      refine lv_aload_n hx hb dX12_every_31 rfl (lv_at hl 0 rfl) ?_
      refine cVi3 (As := []) (rest := []) C hK hX hO (hF hw) (cwV 0 hts gd_X12_112 rfl rfl rfl hd_X12_factor (rok hR (show f + 1 ≤ f + 1 by omega) (show 8 + (4 + 11) + (lo) ≤ lo + 23 by omega))) (ci := 12) (q0 := 0) rfl rfl rfl rfl hl.1 rfl (Nat.le_of_ble_eq_true rfl) dX12_every_32 ⟨Nat.zero_le _, Nat.zero_le _⟩ (fun r_32 spot_32 isWrong_32 open_32 H locs hw hO => ?_)
      refine lv_istore_n (lv' := [(2, .int r_32), (0, .ref h), (1, .int v1_5)]) hx hb dX12_every_35 rfl hl (by decide) rfl (fun ls hl => ?_)
      refine lv_iload_n hx hb dX12_every_36 rfl (lv_at hl 2 rfl) ?_
      have m_49 : ∀ (y0_49 : Int32) (H : Heap) (locs : List Loc) (ls : Array Slot), y0_49 = (if v1_5 = 0 then (nI 0) else (if r_32 = 0 then (nI 0) else (nI 1))) → okW D A s.heap H locs (wM cI cZ cJ h ad k_thrown k_s k_image k_hasImage k_steps k_read spot_32 isWrong_32 open_32 k_act k_letBy k_letStamp k_stamp k_fallen k_held k_stands k_falling k_away k_round k_rests k_may k_next k_could k_couldNight k_night k_seats) → lv_has ls 3 [(0, .ref h)] → W p l e R s m args below meth c H locs 0 0 QQ (F0 m 49 ls [.int y0_49]) := by
        intro y0_49 H locs ls ey0_49 hO hl
        have hw := hw y0_49 ey0_49
        refine lv_istore_n (lv' := [(1, .int y0_49), (0, .ref h)]) hx hb dX12_every_49 rfl hl (by decide) rfl (fun ls hl => ?_)
        refine lv_goto (tgt := 5) hx hb dX12_every_50 (by decide) ?_
        exact ih_5 y0_49 spot_32 isWrong_32 open_32 _ _ _ hO (lv_sub hl [1, 0] rfl) hw
      refine lv_if_eq (tgt := 48) hx hb dX12_every_37 (by decide) (fun q_37 => ?_) (fun q_37 => ?_)
      · refine lv_iconst (v := (nI 0)) hx hb dX12_every_48 (by decide) ?_
        have hl := lv_sub hl [1] rfl (l' := [(0, .ref h)])
        exact m_49 _ _ _ _ (by rw [if_pos q_37]) hO hl
      · refine lv_iload_n hx hb dX12_every_40 rfl (lv_at hl 0 rfl) ?_
        refine lv_if_eq (tgt := 48) hx hb dX12_every_41 (by decide) (fun q_41 => ?_) (fun q_41 => ?_)
        · refine lv_iconst (v := (nI 0)) hx hb dX12_every_48 (by decide) ?_
          have hl := lv_sub hl [1] rfl (l' := [(0, .ref h)])
          exact m_49 _ _ _ _ (by rw [if_neg q_37, if_pos q_41]) hO hl
        · refine lv_iconst (v := (nI 1)) hx hb dX12_every_44 (by decide) ?_
          refine lv_goto (tgt := 49) hx hb dX12_every_45 (by decide) ?_
          have hl := lv_sub hl [1] rfl (l' := [(0, .ref h)])
          exact m_49 _ _ _ _ (by rw [if_neg q_37, if_neg q_41]) hO hl
    have a_53 : ¬ ((isWrong_5 = 0 ∧ (f_X12_here k_s k_read spot_5) = (nI 38))) → ∀ (H : Heap) (locs : List Loc) (ls : Array Slot), okW D A s.heap H locs (wM cI cZ cJ h ad k_thrown k_s k_image k_hasImage k_steps k_read spot_5 isWrong_5 open_5 k_act k_letBy k_letStamp k_stamp k_fallen k_held k_stands k_falling k_away k_round k_rests k_may k_next k_could k_couldNight k_night k_seats) → lv_has ls 3 [(1, .int v1_5)] → W p l e R s m args below meth c H locs 0 0 QQ (F0 m 53 ls []) := by
      intro cf H locs ls hO hl
      have hw := hw.2 cf
      refine lv_iload_n hx hb dX12_every_53 rfl (lv_at hl 0 rfl) ?_
      obtain ⟨hz, hw⟩ := hw
      exact rz3 hQQ hx hb hr hlk hK hO hz hw dX12_every_54
    refine lv_if_ne (tgt := 53) hx hb dX12_every_9 (by decide) (fun q_9 => ?_) (fun q_9 => ?_)
    · have hl := lv_sub hl [1] rfl (l' := [(1, .int v1_5)])
      exact a_53 (fun h => q_9 h.1) _ _ _ hO hl
    · have hs := hs q_9
      have o_13 := hs
      refine lv_aload_n hx hb dX12_every_12 rfl (lv_at hl 0 rfl) ?_
      refine cVi0 (As := []) (rest := []) C hK hX hO (c_X12_here (l := l) o_13) (cwV 0 hts gd_X12_105 rfl rfl rfl hd_X12_here (rok hR (show 1 ≤ f + 1 by omega) (show 20 ≤ lo + 23 by omega))) (ci := 12) (q0 := 0) rfl rfl rfl rfl hl.1 rfl (Nat.le_of_ble_eq_true rfl) dX12_every_13 ⟨Nat.zero_le _, Nat.zero_le _⟩ (fun r_13 H locs e_13 hO => ?_)
      subst e_13
      refine lv_bipush (v := (nI 38)) hx hb dX12_every_16 (by decide) ?_
      refine lv_icmp_ne (tgt := 53) hx hb dX12_every_18 (by decide) (fun q_18 => ?_) (fun q_18 => ?_)
      · have hl := lv_sub hl [1] rfl (l' := [(1, .int v1_5)])
        exact a_53 (fun h => (q_18) h.2) _ _ _ hO hl
      · have hl := lv_sub hl [0, 1] rfl (l' := [(0, .ref h), (1, .int v1_5)])
        exact a_21 ⟨q_9, q_18⟩ _ _ _ hO hl
  have l_5 : ∀ (n : Nat) (v1_5 : Int32) (spot_5 : Int32) (isWrong_5 : Int32) (open_5 : Int32) (H : Heap) (locs : List Loc) (ls : Array Slot), okW D A s.heap H locs (wM cI cZ cJ h ad k_thrown k_s k_image k_hasImage k_steps k_read spot_5 isWrong_5 open_5 k_act k_letBy k_letStamp k_stamp k_fallen k_held k_stands k_falling k_away k_round k_rests k_may k_next k_could k_couldNight k_night k_seats) → lv_has ls 3 [(0, .ref h), (1, .int v1_5)] → wl_X12_every_5 k_s k_read k_act wF Q n v1_5 spot_5 isWrong_5 open_5 → W p l e R s m args below meth c H locs 0 0 QQ (F0 m 5 ls []) := by
    intro n
    induction n with
    | zero => intro v1_5 spot_5 isWrong_5 open_5 H locs ls hO hl hw; exact False.elim hw
    | succ n ih => exact b_5 _ ih
  exact l_5 n_5 r_1 spot_1 isWrong_1 open_1 _ _ _ hO (lv_sub hl [1, 0] rfl) hw
theorem gd_X12_142 {a : Cond} : GoodIn (a :: wsG) (wsV RX12 142 RX12 yX12_every (Cond.code yX12_every cX12_every 3 (some .boolean) :: wsG)) := gdV qw6_106 qw6_108 qs_41 qw1_12 qw6_109
theorem hd_X12_every : yX12_every.cls = RX12 ∧ yX12_every.cls ≠ "java/lang/invoke/MethodHandle" ∧ yX12_every.cls ≠ "java/lang/invoke/VarHandle" ∧ (parseMethodDescriptor yX12_every.desc).map (fun d => d.parameters.length) = some 0 := by decide +kernel
def wb_X12_some_5 (k_s : Nat → Int32) (k_read : Int32) (k_act : Int32) (wF : fpT) (Q : Int32 → (Int32) → (Int32) → (Int32) → Prop) (L_5 : Int32 → Int32 → Int32 → Int32 → Prop) (v1_5 : Int32) (spot_5 : Int32) (isWrong_5 : Int32) (open_5 : Int32) : Prop := (((isWrong_5 = 0 → (ok_X12_here k_s k_read spot_5))) ∧ (((isWrong_5 = 0 ∧ (f_X12_here k_s k_read spot_5) = (nI 124)) → (wr_X12_every wF k_s k_read (spot_5 + (nI 1)) isWrong_5 open_5 k_act (fun (r_32 : Int32) (spot_32 : Int32) (isWrong_32 : Int32) (open_32 : Int32) => (∀ y0_49 : Int32, y0_49 = (if v1_5 = 0 then (if r_32 = 0 then (nI 0) else (nI 1)) else (nI 1)) → (L_5 y0_49 spot_32 isWrong_32 open_32))))) ∧ (¬ ((isWrong_5 = 0 ∧ (f_X12_here k_s k_read spot_5) = (nI 124))) → (zb v1_5 ∧ (Q v1_5 spot_5 isWrong_5 open_5)))))
def wl_X12_some_5 (k_s : Nat → Int32) (k_read : Int32) (k_act : Int32) (wF : fpT) (Q : Int32 → (Int32) → (Int32) → (Int32) → Prop) : Nat → Int32 → Int32 → Int32 → Int32 → Prop
  | 0, _, _, _, _ => False
  | n + 1, v1_5, spot_5, isWrong_5, open_5 => wb_X12_some_5 k_s k_read k_act wF Q (wl_X12_some_5 k_s k_read k_act wF Q n) v1_5 spot_5 isWrong_5 open_5
def wr_X12_some (wF : fpT) (k_s : Nat → Int32) (k_read : Int32) (k_spot : Int32) (k_isWrong : Int32) (k_open : Int32) (k_act : Int32) (Q : Int32 → (Int32) → (Int32) → (Int32) → Prop) : Prop := (wr_X12_every wF k_s k_read k_spot k_isWrong k_open k_act (fun (r_1 : Int32) (spot_1 : Int32) (isWrong_1 : Int32) (open_1 : Int32) => (∃ n, wl_X12_some_5 k_s k_read k_act wF Q n r_1 spot_1 isWrong_1 open_1)))
set_option maxHeartbeats 4000000 in
set_option maxRecDepth 100000 in
theorem cr_X12_some {f lo : Nat} (hf : 4 ≤ f) (hlo : 100 ≤ lo) {wF : fpT} {l : Launch} {D : va_G} {cI cZ cJ : ClassId} {h : Nat} {ad : Nat → Nat} {sz : Nat} {k_thrown : Int32} {k_s : Nat → Int32} {k_image : Nat → Int32} {k_hasImage : Int32} {k_steps : Nat → Int32} {k_read : Int32} {k_spot : Int32} {k_isWrong : Int32} {k_open : Int32} {k_act : Int32} {k_letBy : Nat → Int32} {k_letStamp : Nat → Int32} {k_stamp : Int32} {k_fallen : Nat → Int32} {k_held : Nat → Int32} {k_stands : Nat → Int32} {k_falling : Nat → Int32} {k_away : Nat → Int32} {k_round : Nat → Int32} {k_rests : Nat → Int64} {k_may : Nat → Int32} {k_next : Nat → Int32} {k_could : Nat → Int32} {k_couldNight : Nat → Int32} {k_night : Int32} {k_seats : Nat → Int32} {Q : Int32 → (Int32) → (Int32) → (Int32) → Prop} (hF : metF l f lo wF) (hw : wr_X12_some wF k_s k_read k_spot k_isWrong k_open k_act Q) : Met l yX12_some (Cond.code yX12_some cX12_some 3 (some .boolean) :: wsG) ({ frames := f + 2, cells := 0, slots := 0, locals := lo + 45 } : Room) (preW D (tyM cI cZ cJ) (wM cI cZ cJ h ad k_thrown k_s k_image k_hasImage k_steps k_read k_spot k_isWrong k_open k_act k_letBy k_letStamp k_stamp k_fallen k_held k_stands k_falling k_away k_round k_rests k_may k_next k_could k_couldNight k_night k_seats) sz [.ref h]) (qi3 D (tyM cI cZ cJ) (va_A (wM cI cZ cJ h ad k_thrown k_s k_image k_hasImage k_steps k_read k_spot k_isWrong k_open k_act k_letBy k_letStamp k_stamp k_fallen k_held k_stands k_falling k_away k_round k_rests k_may k_next k_could k_couldNight k_night k_seats) sz) Q (fun k_spot' k_isWrong' k_open' => (wM cI cZ cJ h ad k_thrown k_s k_image k_hasImage k_steps k_read k_spot' k_isWrong' k_open' k_act k_letBy k_letStamp k_stamp k_fallen k_held k_stands k_falling k_away k_round k_rests k_may k_next k_could k_couldNight k_night k_seats))) 0 0 (va_A (wM cI cZ cJ h ad k_thrown k_s k_image k_hasImage k_steps k_read k_spot k_isWrong k_open k_act k_letBy k_letStamp k_stamp k_fallen k_held k_stands k_falling k_away k_round k_rests k_may k_next k_could k_couldNight k_night k_seats) sz) := by
  refine st_met (cc := cX12_some) (maxL := 3) (ret := (some .boolean)) (lv := [(0, .ref h)]) (Qc := fun A => qi3 D (tyM cI cZ cJ) A Q (fun k_spot' k_isWrong' k_open' => (wM cI cZ cJ h ad k_thrown k_s k_image k_hasImage k_steps k_read k_spot' k_isWrong' k_open' k_act k_letBy k_letStamp k_stamp k_fallen k_held k_stands k_falling k_away k_round k_rests k_may k_next k_could k_couldNight k_night k_seats))) (by decide) rfl (Nat.le_of_ble_eq_true rfl) rfl ?_
  intro p e s m below meth c ls A R args QQ H locs C hr hlk hnm hK hX hsz hl hO hR hQQ
  have hx := C.1
  have hb := C.2.1
  have hown := C.2.2.2.1
  have hts := C.2.2.2.2
  have hin : ∀ w ∈ u_ws RX12 TX12 26, w ∈ (Cond.code yX12_some cX12_some 3 (some .boolean) :: wsG) := fun w h9 => List.mem_cons_of_mem _ (inG12 w h9)
  have lk_isWrong := hts (Cond.fieldLink RX12 101 "FreeCityModel" "isWrong" "Z") (List.mem_cons_of_mem _ qw5_213)
  have lk_spot := hts (Cond.fieldLink RX12 95 "FreeCityModel" "spot" "I") (List.mem_cons_of_mem _ qw5_212)
  unfold wr_X12_some at hw
  refine lv_aload_n hx hb dX12_some_0 rfl (lv_at hl 0 rfl) ?_
  refine cVi3 (As := []) (rest := []) C hK hX hO (cr_X12_every hf hlo hF hw) (cwV 0 hts gd_X12_142 rfl rfl rfl hd_X12_every (rok hR (show f + 1 + 1 ≤ f + 2 by omega) (show 8 + (3 + 11) + (lo + 23) ≤ lo + 45 by omega))) (ci := 12) (q0 := 0) rfl rfl rfl rfl hl.1 rfl (Nat.le_of_ble_eq_true rfl) dX12_some_1 ⟨Nat.zero_le _, Nat.zero_le _⟩ (fun r_1 spot_1 isWrong_1 open_1 H locs hw hO => ?_)
  refine lv_istore_n (lv' := [(1, .int r_1), (0, .ref h)]) hx hb dX12_some_4 rfl hl (by decide) rfl (fun ls hl => ?_)
  obtain ⟨n_5, hw⟩ := hw
  have b_5 : ∀ (L_5 : Int32 → Int32 → Int32 → Int32 → Prop) (ih_5 : ∀ (v1_5 : Int32) (spot_5 : Int32) (isWrong_5 : Int32) (open_5 : Int32) (H : Heap) (locs : List Loc) (ls : Array Slot), okW D A s.heap H locs (wM cI cZ cJ h ad k_thrown k_s k_image k_hasImage k_steps k_read spot_5 isWrong_5 open_5 k_act k_letBy k_letStamp k_stamp k_fallen k_held k_stands k_falling k_away k_round k_rests k_may k_next k_could k_couldNight k_night k_seats) → lv_has ls 3 [(0, .ref h), (1, .int v1_5)] → L_5 v1_5 spot_5 isWrong_5 open_5 → W p l e R s m args below meth c H locs 0 0 QQ (F0 m 5 ls [])) (v1_5 : Int32) (spot_5 : Int32) (isWrong_5 : Int32) (open_5 : Int32) (H : Heap) (locs : List Loc) (ls : Array Slot), okW D A s.heap H locs (wM cI cZ cJ h ad k_thrown k_s k_image k_hasImage k_steps k_read spot_5 isWrong_5 open_5 k_act k_letBy k_letStamp k_stamp k_fallen k_held k_stands k_falling k_away k_round k_rests k_may k_next k_could k_couldNight k_night k_seats) → lv_has ls 3 [(0, .ref h), (1, .int v1_5)] → wb_X12_some_5 k_s k_read k_act wF Q L_5 v1_5 spot_5 isWrong_5 open_5 → W p l e R s m args below meth c H locs 0 0 QQ (F0 m 5 ls []) := by
    intro L_5 ih_5 v1_5 spot_5 isWrong_5 open_5 H locs ls hO hl hw
    unfold wb_X12_some_5 at hw
    refine lv_aload_n hx hb dX12_some_5 rfl (lv_at hl 0 rfl) ?_
    refine gM_isWrong C hin hK lk_isWrong hO dX12_some_6 ?_
    obtain ⟨hs, hw⟩ := hw
    have a_21 : (isWrong_5 = 0 ∧ (f_X12_here k_s k_read spot_5) = (nI 124)) → ∀ (H : Heap) (locs : List Loc) (ls : Array Slot), okW D A s.heap H locs (wM cI cZ cJ h ad k_thrown k_s k_image k_hasImage k_steps k_read spot_5 isWrong_5 open_5 k_act k_letBy k_letStamp k_stamp k_fallen k_held k_stands k_falling k_away k_round k_rests k_may k_next k_could k_couldNight k_night k_seats) → lv_has ls 3 [(0, .ref h), (1, .int v1_5)] → W p l e R s m args below meth c H locs 0 0 QQ (F0 m 21 ls []) := by
      intro cf H locs ls hO hl
      have hw := hw.1 cf
      refine lv_aload_n hx hb dX12_some_21 rfl (lv_at hl 0 rfl) ?_
      refine lv_dup hx hb dX12_some_22 rfl ?_
      refine gM_spot C hin hK lk_spot hO dX12_some_23 ?_
      refine lv_iconst (v := (nI 1)) hx hb dX12_some_26 (by decide) ?_
      refine lv_iadd hx hb dX12_some_27 ?_
      refine pM_spot C hin hK lk_spot hO dX12_some_28 (fun H locs hO => ?_)
      refine lv_aload_n hx hb dX12_some_31 rfl (lv_at hl 0 rfl) ?_
      refine cVi3 (As := []) (rest := []) C hK hX hO (cr_X12_every hf hlo hF hw) (cwV 0 hts gd_X12_142 rfl rfl rfl hd_X12_every (rok hR (show f + 1 + 1 ≤ f + 2 by omega) (show 8 + (3 + 11) + (lo + 23) ≤ lo + 45 by omega))) (ci := 12) (q0 := 0) rfl rfl rfl rfl hl.1 rfl (Nat.le_of_ble_eq_true rfl) dX12_some_32 ⟨Nat.zero_le _, Nat.zero_le _⟩ (fun r_32 spot_32 isWrong_32 open_32 H locs hw hO => ?_)
      refine lv_istore_n (lv' := [(2, .int r_32), (0, .ref h), (1, .int v1_5)]) hx hb dX12_some_35 rfl hl (by decide) rfl (fun ls hl => ?_)
      refine lv_iload_n hx hb dX12_some_36 rfl (lv_at hl 2 rfl) ?_
      have m_49 : ∀ (y0_49 : Int32) (H : Heap) (locs : List Loc) (ls : Array Slot), y0_49 = (if v1_5 = 0 then (if r_32 = 0 then (nI 0) else (nI 1)) else (nI 1)) → okW D A s.heap H locs (wM cI cZ cJ h ad k_thrown k_s k_image k_hasImage k_steps k_read spot_32 isWrong_32 open_32 k_act k_letBy k_letStamp k_stamp k_fallen k_held k_stands k_falling k_away k_round k_rests k_may k_next k_could k_couldNight k_night k_seats) → lv_has ls 3 [(0, .ref h)] → W p l e R s m args below meth c H locs 0 0 QQ (F0 m 49 ls [.int y0_49]) := by
        intro y0_49 H locs ls ey0_49 hO hl
        have hw := hw y0_49 ey0_49
        refine lv_istore_n (lv' := [(1, .int y0_49), (0, .ref h)]) hx hb dX12_some_49 rfl hl (by decide) rfl (fun ls hl => ?_)
        refine lv_goto (tgt := 5) hx hb dX12_some_50 (by decide) ?_
        exact ih_5 y0_49 spot_32 isWrong_32 open_32 _ _ _ hO (lv_sub hl [1, 0] rfl) hw
      refine lv_if_ne (tgt := 44) hx hb dX12_some_37 (by decide) (fun q_37 => ?_) (fun q_37 => ?_)
      · refine lv_iconst (v := (nI 1)) hx hb dX12_some_44 (by decide) ?_
        refine lv_goto (tgt := 49) hx hb dX12_some_45 (by decide) ?_
        have hl := lv_sub hl [1] rfl (l' := [(0, .ref h)])
        exact m_49 _ _ _ _ (by rw [if_neg q_37]) hO hl
      · refine lv_iload_n hx hb dX12_some_40 rfl (lv_at hl 0 rfl) ?_
        refine lv_if_eq (tgt := 48) hx hb dX12_some_41 (by decide) (fun q_41 => ?_) (fun q_41 => ?_)
        · refine lv_iconst (v := (nI 0)) hx hb dX12_some_48 (by decide) ?_
          have hl := lv_sub hl [1] rfl (l' := [(0, .ref h)])
          exact m_49 _ _ _ _ (by rw [if_pos q_37, if_pos q_41]) hO hl
        · refine lv_iconst (v := (nI 1)) hx hb dX12_some_44 (by decide) ?_
          refine lv_goto (tgt := 49) hx hb dX12_some_45 (by decide) ?_
          have hl := lv_sub hl [1] rfl (l' := [(0, .ref h)])
          exact m_49 _ _ _ _ (by rw [if_pos q_37, if_neg q_41]) hO hl
    have a_53 : ¬ ((isWrong_5 = 0 ∧ (f_X12_here k_s k_read spot_5) = (nI 124))) → ∀ (H : Heap) (locs : List Loc) (ls : Array Slot), okW D A s.heap H locs (wM cI cZ cJ h ad k_thrown k_s k_image k_hasImage k_steps k_read spot_5 isWrong_5 open_5 k_act k_letBy k_letStamp k_stamp k_fallen k_held k_stands k_falling k_away k_round k_rests k_may k_next k_could k_couldNight k_night k_seats) → lv_has ls 3 [(1, .int v1_5)] → W p l e R s m args below meth c H locs 0 0 QQ (F0 m 53 ls []) := by
      intro cf H locs ls hO hl
      have hw := hw.2 cf
      refine lv_iload_n hx hb dX12_some_53 rfl (lv_at hl 0 rfl) ?_
      obtain ⟨hz, hw⟩ := hw
      exact rz3 hQQ hx hb hr hlk hK hO hz hw dX12_some_54
    refine lv_if_ne (tgt := 53) hx hb dX12_some_9 (by decide) (fun q_9 => ?_) (fun q_9 => ?_)
    · have hl := lv_sub hl [1] rfl (l' := [(1, .int v1_5)])
      exact a_53 (fun h => q_9 h.1) _ _ _ hO hl
    · have hs := hs q_9
      have o_13 := hs
      refine lv_aload_n hx hb dX12_some_12 rfl (lv_at hl 0 rfl) ?_
      refine cVi0 (As := []) (rest := []) C hK hX hO (c_X12_here (l := l) o_13) (cwV 0 hts gd_X12_105 rfl rfl rfl hd_X12_here (rok hR (show 1 ≤ f + 2 by omega) (show 20 ≤ lo + 45 by omega))) (ci := 12) (q0 := 0) rfl rfl rfl rfl hl.1 rfl (Nat.le_of_ble_eq_true rfl) dX12_some_13 ⟨Nat.zero_le _, Nat.zero_le _⟩ (fun r_13 H locs e_13 hO => ?_)
      subst e_13
      refine lv_bipush (v := (nI 124)) hx hb dX12_some_16 (by decide) ?_
      refine lv_icmp_ne (tgt := 53) hx hb dX12_some_18 (by decide) (fun q_18 => ?_) (fun q_18 => ?_)
      · have hl := lv_sub hl [1] rfl (l' := [(1, .int v1_5)])
        exact a_53 (fun h => (q_18) h.2) _ _ _ hO hl
      · have hl := lv_sub hl [0, 1] rfl (l' := [(0, .ref h), (1, .int v1_5)])
        exact a_21 ⟨q_9, q_18⟩ _ _ _ hO hl
  have l_5 : ∀ (n : Nat) (v1_5 : Int32) (spot_5 : Int32) (isWrong_5 : Int32) (open_5 : Int32) (H : Heap) (locs : List Loc) (ls : Array Slot), okW D A s.heap H locs (wM cI cZ cJ h ad k_thrown k_s k_image k_hasImage k_steps k_read spot_5 isWrong_5 open_5 k_act k_letBy k_letStamp k_stamp k_fallen k_held k_stands k_falling k_away k_round k_rests k_may k_next k_could k_couldNight k_night k_seats) → lv_has ls 3 [(0, .ref h), (1, .int v1_5)] → wl_X12_some_5 k_s k_read k_act wF Q n v1_5 spot_5 isWrong_5 open_5 → W p l e R s m args below meth c H locs 0 0 QQ (F0 m 5 ls []) := by
    intro n
    induction n with
    | zero => intro v1_5 spot_5 isWrong_5 open_5 H locs ls hO hl hw; exact False.elim hw
    | succ n ih => exact b_5 _ ih
  exact l_5 n_5 r_1 spot_1 isWrong_1 open_1 _ _ _ hO (lv_sub hl [1, 0] rfl) hw
theorem gd_X12_129 {a : Cond} : GoodIn (a :: wsG) (va_wsS RX12 129 yX12_hourOf (Cond.code yX12_hourOf cX12_hourOf 1 (some .int) :: wsG)) := gdS qw6_118 qw6_119 qw1_12 qw6_120
theorem hd_X12_hourOf : yX12_hourOf.cls ≠ "java/lang/invoke/MethodHandle" ∧ yX12_hourOf.cls ≠ "java/lang/invoke/VarHandle" ∧ (parseMethodDescriptor yX12_hourOf.desc).map (fun d => d.parameters.length) = some 1 := by decide +kernel
theorem gd_X12_133 {a : Cond} : GoodIn (a :: wsG) (va_wsS RX12 133 yX12_sideOf (Cond.code yX12_sideOf cX12_sideOf 1 (some .int) :: wsG)) := gdS qw6_121 qw6_122 qw1_12 qw6_123
theorem hd_X12_sideOf : yX12_sideOf.cls ≠ "java/lang/invoke/MethodHandle" ∧ yX12_sideOf.cls ≠ "java/lang/invoke/VarHandle" ∧ (parseMethodDescriptor yX12_sideOf.desc).map (fun d => d.parameters.length) = some 1 := by decide +kernel
theorem gd_X12_136 {a : Cond} : GoodIn (a :: wsG) (va_wsS RX12 136 yX12_spotOf (Cond.code yX12_spotOf cX12_spotOf 1 (some .int) :: wsG)) := gdS qw6_124 qw6_125 qw1_12 qw6_126
theorem hd_X12_spotOf : yX12_spotOf.cls ≠ "java/lang/invoke/MethodHandle" ∧ yX12_spotOf.cls ≠ "java/lang/invoke/VarHandle" ∧ (parseMethodDescriptor yX12_spotOf.desc).map (fun d => d.parameters.length) = some 1 := by decide +kernel
theorem gd_X12_139 {a : Cond} : GoodIn (a :: wsG) (va_wsS RX12 139 yX12_matterOf (Cond.code yX12_matterOf cX12_matterOf 1 (some .int) :: wsG)) := gdS qw6_127 qw6_128 qw1_12 qw6_129
theorem hd_X12_matterOf : yX12_matterOf.cls ≠ "java/lang/invoke/MethodHandle" ∧ yX12_matterOf.cls ≠ "java/lang/invoke/VarHandle" ∧ (parseMethodDescriptor yX12_matterOf.desc).map (fun d => d.parameters.length) = some 1 := by decide +kernel
theorem gd_X12_116 {a : Cond} : GoodIn (a :: wsG) (wsV RX12 116 RX12 yX12_some (Cond.code yX12_some cX12_some 3 (some .boolean) :: wsG)) := gdV qw6_102 qw6_104 qs_40 qw1_12 qw6_105
theorem hd_X12_some : yX12_some.cls = RX12 ∧ yX12_some.cls ≠ "java/lang/invoke/MethodHandle" ∧ yX12_some.cls ≠ "java/lang/invoke/VarHandle" ∧ (parseMethodDescriptor yX12_some.desc).map (fun d => d.parameters.length) = some 0 := by decide +kernel
theorem gd_X12_119 {a : Cond} : GoodIn (a :: wsG) (wsV RX12 119 RX12 yX12_must (Cond.code yX12_must cX12_must 2 none :: wsG)) := gdV qw6_98 qw6_100 qs_39 qw1_12 qw6_101
theorem hd_X12_must : yX12_must.cls = RX12 ∧ yX12_must.cls ≠ "java/lang/invoke/MethodHandle" ∧ yX12_must.cls ≠ "java/lang/invoke/VarHandle" ∧ (parseMethodDescriptor yX12_must.desc).map (fun d => d.parameters.length) = some 1 := by decide +kernel
theorem gd_X12_123 {a : Cond} : GoodIn (a :: wsG) (wsV RX12 123 RX12 yX12_number (Cond.code yX12_number cX12_number 3 (some .int) :: wsG)) := gdV qw6_114 qw6_116 qs_43 qw1_12 qw6_117
theorem hd_X12_number : yX12_number.cls = RX12 ∧ yX12_number.cls ≠ "java/lang/invoke/MethodHandle" ∧ yX12_number.cls ≠ "java/lang/invoke/VarHandle" ∧ (parseMethodDescriptor yX12_number.desc).map (fun d => d.parameters.length) = some 0 := by decide +kernel
def wk_X12_factor_124 (Q : Int32 → (Int32) → (Int32) → (Int32) → Prop) (open_111 : Int32) (t0_111 : Int32) (spot_124 : Int32) (isWrong_124 : Int32) : Prop := (zb t0_111 ∧ (Q t0_111 spot_124 isWrong_124 (open_111 - (nI 1))))
def wk_X12_factor_111 (k_s : Nat → Int32) (k_read : Int32) (k_spot : Int32) (Q : Int32 → (Int32) → (Int32) → (Int32) → Prop) (spot_111 : Int32) (isWrong_111 : Int32) (open_111 : Int32) (t0_111 : Int32) : Prop := ((¬ (f_X12_here k_s k_read k_spot) = (nI 40) → (wk_X12_factor_124 Q open_111 t0_111 spot_111 isWrong_111)) ∧ ((f_X12_here k_s k_read k_spot) = (nI 40) → (wp_X12_must (nI 41) k_s k_read spot_111 isWrong_111 (fun (spot_121 : Int32) (isWrong_121 : Int32) => (wk_X12_factor_124 Q open_111 t0_111 spot_121 isWrong_121)))))
def wr_X12_factor (wF : fpT) (k_s : Nat → Int32) (k_read : Int32) (k_spot : Int32) (k_isWrong : Int32) (k_open : Int32) (k_act : Int32) (Q : Int32 → (Int32) → (Int32) → (Int32) → Prop) : Prop := ((k_isWrong = 0 → (ok_X12_here k_s k_read k_spot ∧ ((((f_X12_here k_s k_read k_spot) = (nI 33) ∨ (f_X12_here k_s k_read k_spot) = (nI 40)) → (∀ y1_41 : Int32, y1_41 = (if k_open = (nI 6) then (nI 1) else (nI 0)) → (∀ y2_71 : Int32, y2_71 = (if y1_41 = 0 then (nI 1) else (nI 0)) → ((y1_41 = 0 → ((¬ (f_X12_here k_s k_read k_spot) = (nI 33) → (wr_X12_some wF k_s k_read (k_spot + y2_71) y1_41 (k_open + (nI 1)) k_act (fun (r_108 : Int32) (spot_108 : Int32) (isWrong_108 : Int32) (open_108 : Int32) => (wk_X12_factor_111 k_s k_read k_spot Q spot_108 isWrong_108 open_108 r_108)))) ∧ ((f_X12_here k_s k_read k_spot) = (nI 33) → (wF k_s k_read (k_spot + y2_71) y1_41 (k_open + (nI 1)) k_act (fun (r_93 : Int32) (spot_93 : Int32) (isWrong_93 : Int32) (open_93 : Int32) => (∀ y0_111 : Int32, y0_111 = (if r_93 = 0 then (nI 1) else (nI 0)) → (wk_X12_factor_111 k_s k_read k_spot Q spot_93 isWrong_93 open_93 y0_111))))))) ∧ (¬ y1_41 = 0 → (wk_X12_factor_111 k_s k_read k_spot Q (k_spot + y2_71) y1_41 (k_open + (nI 1)) (nI 0))))))) ∧ (¬ (((f_X12_here k_s k_read k_spot) = (nI 33) ∨ (f_X12_here k_s k_read k_spot) = (nI 40))) → ((¬ (f_X12_here k_s k_read k_spot) = (nI 104) → (∀ y1_276 : Int32, y1_276 = (if (f_X12_here k_s k_read k_spot) = (nI 115) then (nI 0) else (if (f_X12_here k_s k_read k_spot) = (nI 103) then (nI 0) else (if (f_X12_here k_s k_read k_spot) = (nI 109) then (nI 0) else (if (f_X12_here k_s k_read k_spot) = (nI 112) then (nI 0) else (nI 1))))) → (∀ y2_296 : Int32, y2_296 = (if y1_276 = 0 then (nI 1) else (nI 0)) → (wp_X12_must (nI 61) k_s k_read (k_spot + y2_296) y1_276 (fun (spot_303 : Int32) (isWrong_303 : Int32) => (wp_X12_number k_s k_read spot_303 isWrong_303 (fun (r_307 : Int32) (spot_307 : Int32) (isWrong_307 : Int32) => (((¬ (f_X12_here k_s k_read k_spot) = (nI 115) → (((f_X12_here k_s k_read k_spot) = (nI 103) → (vp_in ((nI 20) + (f_X12_spotOf k_act)) 6700))))) ∧ (∀ y0_374 : Int32, y0_374 = (if (f_X12_here k_s k_read k_spot) = (nI 115) then (f_X12_sideOf k_act) else (if (f_X12_here k_s k_read k_spot) = (nI 103) then (k_s (((nI 20) + (f_X12_spotOf k_act))).toNatClampNeg) else (if (f_X12_here k_s k_read k_spot) = (nI 109) then (f_X12_matterOf k_act) else (f_X12_spotOf k_act)))) → (∀ y0_385 : Int32, y0_385 = (if y0_374 = r_307 then (nI 1) else (nI 0)) → (Q y0_385 spot_307 isWrong_307 k_open))))))))))) ∧ ((f_X12_here k_s k_read k_spot) = (nI 104) → (ok_X12_here k_s k_read (k_spot + (nI 1)) ∧ (∀ x_153 : Int32, x_153 = (f_X12_here k_s k_read (k_spot + (nI 1))) → (∀ y1_175 : Int32, y1_175 = (if x_153 = (nI 60) then (nI 0) else (if x_153 = (nI 62) then (nI 0) else (nI 1))) → (∀ y2_195 : Int32, y2_195 = (if y1_175 = 0 then (nI 1) else (nI 0)) → (wp_X12_number k_s k_read ((k_spot + (nI 1)) + y2_195) y1_175 (fun (r_200 : Int32) (spot_200 : Int32) (isWrong_200 : Int32) => (∀ y0_245 : Int32, y0_245 = (if x_153 = (nI 60) then (if r_200 ≤ (f_X12_hourOf k_act) then (nI 0) else (nI 1)) else (if (f_X12_hourOf k_act) ≤ r_200 then (nI 0) else (nI 1))) → (Q y0_245 spot_200 isWrong_200 k_open)))))))))))))) ∧ (¬ k_isWrong = 0 → (Q (nI 0) k_spot k_isWrong k_open)))
set_option maxHeartbeats 4000000 in
set_option maxRecDepth 100000 in
theorem cr_X12_factor {f lo : Nat} (hf : 4 ≤ f) (hlo : 100 ≤ lo) {wF : fpT} {l : Launch} {D : va_G} {cI cZ cJ : ClassId} {h : Nat} {ad : Nat → Nat} {sz : Nat} {k_thrown : Int32} {k_s : Nat → Int32} {k_image : Nat → Int32} {k_hasImage : Int32} {k_steps : Nat → Int32} {k_read : Int32} {k_spot : Int32} {k_isWrong : Int32} {k_open : Int32} {k_act : Int32} {k_letBy : Nat → Int32} {k_letStamp : Nat → Int32} {k_stamp : Int32} {k_fallen : Nat → Int32} {k_held : Nat → Int32} {k_stands : Nat → Int32} {k_falling : Nat → Int32} {k_away : Nat → Int32} {k_round : Nat → Int32} {k_rests : Nat → Int64} {k_may : Nat → Int32} {k_next : Nat → Int32} {k_could : Nat → Int32} {k_couldNight : Nat → Int32} {k_night : Int32} {k_seats : Nat → Int32} {Q : Int32 → (Int32) → (Int32) → (Int32) → Prop} (hF : metF l f lo wF) (hw : wr_X12_factor wF k_s k_read k_spot k_isWrong k_open k_act Q) : Met l yX12_factor (Cond.code yX12_factor cX12_factor 4 (some .boolean) :: wsG) ({ frames := f + 3, cells := 0, slots := 0, locals := lo + 67 } : Room) (preW D (tyM cI cZ cJ) (wM cI cZ cJ h ad k_thrown k_s k_image k_hasImage k_steps k_read k_spot k_isWrong k_open k_act k_letBy k_letStamp k_stamp k_fallen k_held k_stands k_falling k_away k_round k_rests k_may k_next k_could k_couldNight k_night k_seats) sz [.ref h]) (qi3 D (tyM cI cZ cJ) (va_A (wM cI cZ cJ h ad k_thrown k_s k_image k_hasImage k_steps k_read k_spot k_isWrong k_open k_act k_letBy k_letStamp k_stamp k_fallen k_held k_stands k_falling k_away k_round k_rests k_may k_next k_could k_couldNight k_night k_seats) sz) Q (fun k_spot' k_isWrong' k_open' => (wM cI cZ cJ h ad k_thrown k_s k_image k_hasImage k_steps k_read k_spot' k_isWrong' k_open' k_act k_letBy k_letStamp k_stamp k_fallen k_held k_stands k_falling k_away k_round k_rests k_may k_next k_could k_couldNight k_night k_seats))) 0 0 (va_A (wM cI cZ cJ h ad k_thrown k_s k_image k_hasImage k_steps k_read k_spot k_isWrong k_open k_act k_letBy k_letStamp k_stamp k_fallen k_held k_stands k_falling k_away k_round k_rests k_may k_next k_could k_couldNight k_night k_seats) sz) := by
  refine st_met (cc := cX12_factor) (maxL := 4) (ret := (some .boolean)) (lv := [(0, .ref h)]) (Qc := fun A => qi3 D (tyM cI cZ cJ) A Q (fun k_spot' k_isWrong' k_open' => (wM cI cZ cJ h ad k_thrown k_s k_image k_hasImage k_steps k_read k_spot' k_isWrong' k_open' k_act k_letBy k_letStamp k_stamp k_fallen k_held k_stands k_falling k_away k_round k_rests k_may k_next k_could k_couldNight k_night k_seats))) (by decide) rfl (Nat.le_of_ble_eq_true rfl) rfl ?_
  intro p e s m below meth c ls A R args QQ H locs C hr hlk hnm hK hX hsz hl hO hR hQQ
  have hx := C.1
  have hb := C.2.1
  have hown := C.2.2.2.1
  have hts := C.2.2.2.2
  have hin : ∀ w ∈ u_ws RX12 TX12 26, w ∈ (Cond.code yX12_factor cX12_factor 4 (some .boolean) :: wsG) := fun w h9 => List.mem_cons_of_mem _ (inG12 w h9)
  have lk_isWrong := hts (Cond.fieldLink RX12 101 "FreeCityModel" "isWrong" "Z") (List.mem_cons_of_mem _ qw5_213)
  have lk_open := hts (Cond.fieldLink RX12 109 "FreeCityModel" "open" "I") (List.mem_cons_of_mem _ qw5_214)
  have lk_spot := hts (Cond.fieldLink RX12 95 "FreeCityModel" "spot" "I") (List.mem_cons_of_mem _ qw5_212)
  have lk_act := hts (Cond.fieldLink RX12 126 "FreeCityModel" "act" "I") (List.mem_cons_of_mem _ qw5_215)
  have lk_s := hts (Cond.fieldLink RX12 7 "FreeCityModel" "s" "[I") (List.mem_cons_of_mem _ qw5_207)
  unfold wr_X12_factor at hw
  refine lv_aload_n hx hb dX12_factor_0 rfl (lv_at hl 0 rfl) ?_
  refine gM_isWrong C hin hK lk_isWrong hO dX12_factor_1 ?_
  refine lv_if_eq (tgt := 9) hx hb dX12_factor_4 (by decide) (fun q_4 => ?_) (fun q_4 => ?_)
  · have hw := hw.1 q_4
    refine lv_aload_n hx hb dX12_factor_9 rfl (lv_at hl 0 rfl) ?_
    obtain ⟨o_10, hw⟩ := hw
    refine cVi0 (As := []) (rest := []) C hK hX hO (c_X12_here (l := l) o_10) (cwV 0 hts gd_X12_105 rfl rfl rfl hd_X12_here (rok hR (show 1 ≤ f + 3 by omega) (show 20 ≤ lo + 67 by omega))) (ci := 12) (q0 := 0) rfl rfl rfl rfl hl.1 rfl (Nat.le_of_ble_eq_true rfl) dX12_factor_10 ⟨Nat.zero_le _, Nat.zero_le _⟩ (fun r_10 H locs e_10 hO => ?_)
    subst e_10
    refine lv_istore_n (lv' := [(1, .int (f_X12_here k_s k_read k_spot)), (0, .ref h)]) hx hb dX12_factor_13 rfl hl (by decide) rfl (fun ls hl => ?_)
    refine lv_iload_n hx hb dX12_factor_14 rfl (lv_at hl 0 rfl) ?_
    refine lv_bipush (v := (nI 33)) hx hb dX12_factor_15 (by decide) ?_
    have a_26 : ((f_X12_here k_s k_read k_spot) = (nI 33) ∨ (f_X12_here k_s k_read k_spot) = (nI 40)) → ∀ (H : Heap) (locs : List Loc) (ls : Array Slot), okW D A s.heap H locs (wM cI cZ cJ h ad k_thrown k_s k_image k_hasImage k_steps k_read k_spot k_isWrong k_open k_act k_letBy k_letStamp k_stamp k_fallen k_held k_stands k_falling k_away k_round k_rests k_may k_next k_could k_couldNight k_night k_seats) → lv_has ls 4 [(0, .ref h), (1, .int (f_X12_here k_s k_read k_spot))] → W p l e R s m args below meth c H locs 0 0 QQ (F0 m 26 ls []) := by
      intro cf H locs ls hO hl
      have hw := hw.1 cf
      refine lv_aload_n hx hb dX12_factor_26 rfl (lv_at hl 0 rfl) ?_
      refine lv_aload_n hx hb dX12_factor_27 rfl (lv_at hl 0 rfl) ?_
      refine gM_open C hin hK lk_open hO dX12_factor_28 ?_
      refine lv_bipush (v := (nI 6)) hx hb dX12_factor_31 (by decide) ?_
      have m_41 : ∀ (y1_41 : Int32) (H : Heap) (locs : List Loc) (ls : Array Slot), y1_41 = (if k_open = (nI 6) then (nI 1) else (nI 0)) → okW D A s.heap H locs (wM cI cZ cJ h ad k_thrown k_s k_image k_hasImage k_steps k_read k_spot k_isWrong k_open k_act k_letBy k_letStamp k_stamp k_fallen k_held k_stands k_falling k_away k_round k_rests k_may k_next k_could k_couldNight k_night k_seats) → lv_has ls 4 [(0, .ref h), (1, .int (f_X12_here k_s k_read k_spot))] → W p l e R s m args below meth c H locs 0 0 QQ (F0 m 41 ls [.int y1_41, .ref h]) := by
        intro y1_41 H locs ls ey1_41 hO hl
        have hw := hw y1_41 ey1_41
        refine pM_isWrong C hin hK lk_isWrong hO (by rw [ey1_41]; exact (zb_ite zb1 zb0)) dX12_factor_41 (fun H locs hO => ?_)
        refine lv_aload_n hx hb dX12_factor_44 rfl (lv_at hl 0 rfl) ?_
        refine lv_dup hx hb dX12_factor_45 rfl ?_
        refine gM_open C hin hK lk_open hO dX12_factor_46 ?_
        refine lv_iconst (v := (nI 1)) hx hb dX12_factor_49 (by decide) ?_
        refine lv_iadd hx hb dX12_factor_50 ?_
        refine pM_open C hin hK lk_open hO dX12_factor_51 (fun H locs hO => ?_)
        refine lv_aload_n hx hb dX12_factor_54 rfl (lv_at hl 0 rfl) ?_
        refine lv_dup hx hb dX12_factor_55 rfl ?_
        refine gM_spot C hin hK lk_spot hO dX12_factor_56 ?_
        refine lv_aload_n hx hb dX12_factor_59 rfl (lv_at hl 0 rfl) ?_
        refine gM_isWrong C hin hK lk_isWrong hO dX12_factor_60 ?_
        have m_71 : ∀ (y2_71 : Int32) (H : Heap) (locs : List Loc) (ls : Array Slot), y2_71 = (if y1_41 = 0 then (nI 1) else (nI 0)) → okW D A s.heap H locs (wM cI cZ cJ h ad k_thrown k_s k_image k_hasImage k_steps k_read k_spot y1_41 (k_open + (nI 1)) k_act k_letBy k_letStamp k_stamp k_fallen k_held k_stands k_falling k_away k_round k_rests k_may k_next k_could k_couldNight k_night k_seats) → lv_has ls 4 [(0, .ref h), (1, .int (f_X12_here k_s k_read k_spot))] → W p l e R s m args below meth c H locs 0 0 QQ (F0 m 71 ls [.int y2_71, .int k_spot, .ref h]) := by
          intro y2_71 H locs ls ey2_71 hO hl
          have hw := hw y2_71 ey2_71
          refine lv_iadd hx hb dX12_factor_71 ?_
          refine pM_spot C hin hK lk_spot hO dX12_factor_72 (fun H locs hO => ?_)
          refine lv_aload_n hx hb dX12_factor_75 rfl (lv_at hl 0 rfl) ?_
          refine gM_isWrong C hin hK lk_isWrong hO dX12_factor_76 ?_
          have j_111 : ∀ (spot_111 : Int32) (isWrong_111 : Int32) (open_111 : Int32) (t0_111 : Int32) (H : Heap) (locs : List Loc) (ls : Array Slot), okW D A s.heap H locs (wM cI cZ cJ h ad k_thrown k_s k_image k_hasImage k_steps k_read spot_111 isWrong_111 open_111 k_act k_letBy k_letStamp k_stamp k_fallen k_held k_stands k_falling k_away k_round k_rests k_may k_next k_could k_couldNight k_night k_seats) → lv_has ls 4 [(0, .ref h), (1, .int (f_X12_here k_s k_read k_spot))] → wk_X12_factor_111 k_s k_read k_spot Q spot_111 isWrong_111 open_111 t0_111 → W p l e R s m args below meth c H locs 0 0 QQ (F0 m 111 ls [.int t0_111]) := by
            intro spot_111 isWrong_111 open_111 t0_111 H locs ls hO hl hw
            unfold wk_X12_factor_111 at hw
            refine lv_istore_n (lv' := [(2, .int t0_111), (0, .ref h), (1, .int (f_X12_here k_s k_read k_spot))]) hx hb dX12_factor_111 rfl hl (by decide) rfl (fun ls hl => ?_)
            refine lv_iload_n hx hb dX12_factor_112 rfl (lv_at hl 2 rfl) ?_
            refine lv_bipush (v := (nI 40)) hx hb dX12_factor_113 (by decide) ?_
            have j_124 : ∀ (spot_124 : Int32) (isWrong_124 : Int32) (H : Heap) (locs : List Loc) (ls : Array Slot), okW D A s.heap H locs (wM cI cZ cJ h ad k_thrown k_s k_image k_hasImage k_steps k_read spot_124 isWrong_124 open_111 k_act k_letBy k_letStamp k_stamp k_fallen k_held k_stands k_falling k_away k_round k_rests k_may k_next k_could k_couldNight k_night k_seats) → lv_has ls 4 [(0, .ref h), (2, .int t0_111)] → wk_X12_factor_124 Q open_111 t0_111 spot_124 isWrong_124 → W p l e R s m args below meth c H locs 0 0 QQ (F0 m 124 ls []) := by
              intro spot_124 isWrong_124 H locs ls hO hl hw
              unfold wk_X12_factor_124 at hw
              refine lv_aload_n hx hb dX12_factor_124 rfl (lv_at hl 0 rfl) ?_
              refine lv_dup hx hb dX12_factor_125 rfl ?_
              refine gM_open C hin hK lk_open hO dX12_factor_126 ?_
              refine lv_iconst (v := (nI 1)) hx hb dX12_factor_129 (by decide) ?_
              refine lv_isub hx hb dX12_factor_130 ?_
              refine pM_open C hin hK lk_open hO dX12_factor_131 (fun H locs hO => ?_)
              refine lv_iload_n hx hb dX12_factor_134 rfl (lv_at hl 1 rfl) ?_
              obtain ⟨hz, hw⟩ := hw
              exact rz3 hQQ hx hb hr hlk hK hO hz hw dX12_factor_135
            refine lv_icmp_ne (tgt := 124) hx hb dX12_factor_115 (by decide) (fun q_115 => ?_) (fun q_115 => ?_)
            · have hw := hw.1 q_115
              exact j_124 spot_111 isWrong_111 _ _ _ hO (lv_sub hl [1, 0] rfl) hw
            · have hw := hw.2 q_115
              refine lv_aload_n hx hb dX12_factor_118 rfl (lv_at hl 1 rfl) ?_
              refine lv_bipush (v := (nI 41)) hx hb dX12_factor_119 (by decide) ?_
              refine cVv2 (As := [.int (nI 41)]) (rest := []) C hK hX hO (c_X12_must (l := l) hw) (cwV 1 hts gd_X12_119 rfl rfl rfl hd_X12_must (rok hR (show 2 ≤ f + 3 by omega) (show 41 ≤ lo + 67 by omega))) (ci := 12) (q0 := 0) rfl rfl rfl rfl hl.1 rfl (Nat.le_of_ble_eq_true rfl) dX12_factor_121 ⟨Nat.zero_le _, Nat.zero_le _⟩ (fun spot_121 isWrong_121 H locs hw hO => ?_)
              exact j_124 spot_121 isWrong_121 _ _ _ hO (lv_sub hl [1, 0] rfl) hw
          refine lv_if_eq (tgt := 86) hx hb dX12_factor_79 (by decide) (fun q_79 => ?_) (fun q_79 => ?_)
          · have hw := hw.1 q_79
            refine lv_iload_n hx hb dX12_factor_86 rfl (lv_at hl 1 rfl) ?_
            refine lv_bipush (v := (nI 33)) hx hb dX12_factor_87 (by decide) ?_
            refine lv_icmp_ne (tgt := 107) hx hb dX12_factor_89 (by decide) (fun q_89 => ?_) (fun q_89 => ?_)
            · have hw := hw.1 q_89
              refine lv_aload_n hx hb dX12_factor_107 rfl (lv_at hl 0 rfl) ?_
              refine cVi3 (As := []) (rest := []) C hK hX hO (cr_X12_some hf hlo hF hw) (cwV 0 hts gd_X12_116 rfl rfl rfl hd_X12_some (rok hR (show f + 2 + 1 ≤ f + 3 by omega) (show 8 + (3 + 11) + (lo + 45) ≤ lo + 67 by omega))) (ci := 12) (q0 := 0) rfl rfl rfl rfl hl.1 rfl (Nat.le_of_ble_eq_true rfl) dX12_factor_108 ⟨Nat.zero_le _, Nat.zero_le _⟩ (fun r_108 spot_108 isWrong_108 open_108 H locs hw hO => ?_)
              exact j_111 spot_108 isWrong_108 open_108 r_108 _ _ _ hO (lv_sub hl [0, 1] rfl) hw
            · have hw := hw.2 q_89
              refine lv_aload_n hx hb dX12_factor_92 rfl (lv_at hl 0 rfl) ?_
              refine cVi3 (As := []) (rest := []) C hK hX hO (hF hw) (cwV 0 hts gd_X12_112 rfl rfl rfl hd_X12_factor (rok hR (show f + 1 ≤ f + 3 by omega) (show 8 + (4 + 11) + (lo) ≤ lo + 67 by omega))) (ci := 12) (q0 := 0) rfl rfl rfl rfl hl.1 rfl (Nat.le_of_ble_eq_true rfl) dX12_factor_93 ⟨Nat.zero_le _, Nat.zero_le _⟩ (fun r_93 spot_93 isWrong_93 open_93 H locs hw hO => ?_)
              have m_111 : ∀ (y0_111 : Int32) (H : Heap) (locs : List Loc) (ls : Array Slot), y0_111 = (if r_93 = 0 then (nI 1) else (nI 0)) → okW D A s.heap H locs (wM cI cZ cJ h ad k_thrown k_s k_image k_hasImage k_steps k_read spot_93 isWrong_93 open_93 k_act k_letBy k_letStamp k_stamp k_fallen k_held k_stands k_falling k_away k_round k_rests k_may k_next k_could k_couldNight k_night k_seats) → lv_has ls 4 [(0, .ref h), (1, .int (f_X12_here k_s k_read k_spot))] → W p l e R s m args below meth c H locs 0 0 QQ (F0 m 111 ls [.int y0_111]) := by
                intro y0_111 H locs ls ey0_111 hO hl
                have hw := hw y0_111 ey0_111
                exact j_111 spot_93 isWrong_93 open_93 y0_111 _ _ _ hO (lv_sub hl [0, 1] rfl) hw
              refine lv_if_ne (tgt := 103) hx hb dX12_factor_96 (by decide) (fun q_96 => ?_) (fun q_96 => ?_)
              · refine lv_iconst (v := (nI 0)) hx hb dX12_factor_103 (by decide) ?_
                refine lv_goto (tgt := 111) hx hb dX12_factor_104 (by decide) ?_
                have hl := lv_sub hl [0, 1] rfl (l' := [(0, .ref h), (1, .int (f_X12_here k_s k_read k_spot))])
                exact m_111 _ _ _ _ (by rw [if_neg q_96]) hO hl
              · refine lv_iconst (v := (nI 1)) hx hb dX12_factor_99 (by decide) ?_
                refine lv_goto (tgt := 111) hx hb dX12_factor_100 (by decide) ?_
                have hl := lv_sub hl [0, 1] rfl (l' := [(0, .ref h), (1, .int (f_X12_here k_s k_read k_spot))])
                exact m_111 _ _ _ _ (by rw [if_pos q_96]) hO hl
          · have hw := hw.2 q_79
            refine lv_iconst (v := (nI 0)) hx hb dX12_factor_82 (by decide) ?_
            refine lv_goto (tgt := 111) hx hb dX12_factor_83 (by decide) ?_
            exact j_111 (k_spot + y2_71) y1_41 (k_open + (nI 1)) (nI 0) _ _ _ hO (lv_sub hl [0, 1] rfl) hw
        refine lv_if_eq (tgt := 70) hx hb dX12_factor_63 (by decide) (fun q_63 => ?_) (fun q_63 => ?_)
        · refine lv_iconst (v := (nI 1)) hx hb dX12_factor_70 (by decide) ?_
          have hl := lv_sub hl [0, 1] rfl (l' := [(0, .ref h), (1, .int (f_X12_here k_s k_read k_spot))])
          exact m_71 _ _ _ _ (by rw [if_pos q_63]) hO hl
        · refine lv_iconst (v := (nI 0)) hx hb dX12_factor_66 (by decide) ?_
          refine lv_goto (tgt := 71) hx hb dX12_factor_67 (by decide) ?_
          have hl := lv_sub hl [0, 1] rfl (l' := [(0, .ref h), (1, .int (f_X12_here k_s k_read k_spot))])
          exact m_71 _ _ _ _ (by rw [if_neg q_63]) hO hl
      refine lv_icmp_ne (tgt := 40) hx hb dX12_factor_33 (by decide) (fun q_33 => ?_) (fun q_33 => ?_)
      · refine lv_iconst (v := (nI 0)) hx hb dX12_factor_40 (by decide) ?_
        have hl := lv_sub hl [0, 1] rfl (l' := [(0, .ref h), (1, .int (f_X12_here k_s k_read k_spot))])
        exact m_41 _ _ _ _ (by rw [if_neg q_33]) hO hl
      · refine lv_iconst (v := (nI 1)) hx hb dX12_factor_36 (by decide) ?_
        refine lv_goto (tgt := 41) hx hb dX12_factor_37 (by decide) ?_
        have hl := lv_sub hl [0, 1] rfl (l' := [(0, .ref h), (1, .int (f_X12_here k_s k_read k_spot))])
        exact m_41 _ _ _ _ (by rw [if_pos q_33]) hO hl
    have a_136 : ¬ (((f_X12_here k_s k_read k_spot) = (nI 33) ∨ (f_X12_here k_s k_read k_spot) = (nI 40))) → ∀ (H : Heap) (locs : List Loc) (ls : Array Slot), okW D A s.heap H locs (wM cI cZ cJ h ad k_thrown k_s k_image k_hasImage k_steps k_read k_spot k_isWrong k_open k_act k_letBy k_letStamp k_stamp k_fallen k_held k_stands k_falling k_away k_round k_rests k_may k_next k_could k_couldNight k_night k_seats) → lv_has ls 4 [(0, .ref h), (1, .int (f_X12_here k_s k_read k_spot))] → W p l e R s m args below meth c H locs 0 0 QQ (F0 m 136 ls []) := by
      intro cf H locs ls hO hl
      have hw := hw.2 cf
      refine lv_iload_n hx hb dX12_factor_136 rfl (lv_at hl 1 rfl) ?_
      refine lv_bipush (v := (nI 104)) hx hb dX12_factor_137 (by decide) ?_
      refine lv_icmp_ne (tgt := 246) hx hb dX12_factor_139 (by decide) (fun q_139 => ?_) (fun q_139 => ?_)
      · have hw := hw.1 q_139
        refine lv_aload_n hx hb dX12_factor_246 rfl (lv_at hl 0 rfl) ?_
        refine lv_iload_n hx hb dX12_factor_247 rfl (lv_at hl 1 rfl) ?_
        refine lv_bipush (v := (nI 115)) hx hb dX12_factor_248 (by decide) ?_
        have m_276 : ∀ (y1_276 : Int32) (H : Heap) (locs : List Loc) (ls : Array Slot), y1_276 = (if (f_X12_here k_s k_read k_spot) = (nI 115) then (nI 0) else (if (f_X12_here k_s k_read k_spot) = (nI 103) then (nI 0) else (if (f_X12_here k_s k_read k_spot) = (nI 109) then (nI 0) else (if (f_X12_here k_s k_read k_spot) = (nI 112) then (nI 0) else (nI 1))))) → okW D A s.heap H locs (wM cI cZ cJ h ad k_thrown k_s k_image k_hasImage k_steps k_read k_spot k_isWrong k_open k_act k_letBy k_letStamp k_stamp k_fallen k_held k_stands k_falling k_away k_round k_rests k_may k_next k_could k_couldNight k_night k_seats) → lv_has ls 4 [(0, .ref h), (1, .int (f_X12_here k_s k_read k_spot))] → W p l e R s m args below meth c H locs 0 0 QQ (F0 m 276 ls [.int y1_276, .ref h]) := by
          intro y1_276 H locs ls ey1_276 hO hl
          have hw := hw y1_276 ey1_276
          refine pM_isWrong C hin hK lk_isWrong hO (by rw [ey1_276]; exact (zb_ite zb0 (zb_ite zb0 (zb_ite zb0 (zb_ite zb0 zb1))))) dX12_factor_276 (fun H locs hO => ?_)
          refine lv_aload_n hx hb dX12_factor_279 rfl (lv_at hl 0 rfl) ?_
          refine lv_dup hx hb dX12_factor_280 rfl ?_
          refine gM_spot C hin hK lk_spot hO dX12_factor_281 ?_
          refine lv_aload_n hx hb dX12_factor_284 rfl (lv_at hl 0 rfl) ?_
          refine gM_isWrong C hin hK lk_isWrong hO dX12_factor_285 ?_
          have m_296 : ∀ (y2_296 : Int32) (H : Heap) (locs : List Loc) (ls : Array Slot), y2_296 = (if y1_276 = 0 then (nI 1) else (nI 0)) → okW D A s.heap H locs (wM cI cZ cJ h ad k_thrown k_s k_image k_hasImage k_steps k_read k_spot y1_276 k_open k_act k_letBy k_letStamp k_stamp k_fallen k_held k_stands k_falling k_away k_round k_rests k_may k_next k_could k_couldNight k_night k_seats) → lv_has ls 4 [(0, .ref h), (1, .int (f_X12_here k_s k_read k_spot))] → W p l e R s m args below meth c H locs 0 0 QQ (F0 m 296 ls [.int y2_296, .int k_spot, .ref h]) := by
            intro y2_296 H locs ls ey2_296 hO hl
            have hw := hw y2_296 ey2_296
            refine lv_iadd hx hb dX12_factor_296 ?_
            refine pM_spot C hin hK lk_spot hO dX12_factor_297 (fun H locs hO => ?_)
            refine lv_aload_n hx hb dX12_factor_300 rfl (lv_at hl 0 rfl) ?_
            refine lv_bipush (v := (nI 61)) hx hb dX12_factor_301 (by decide) ?_
            refine cVv2 (As := [.int (nI 61)]) (rest := []) C hK hX hO (c_X12_must (l := l) hw) (cwV 1 hts gd_X12_119 rfl rfl rfl hd_X12_must (rok hR (show 2 ≤ f + 3 by omega) (show 41 ≤ lo + 67 by omega))) (ci := 12) (q0 := 0) rfl rfl rfl rfl hl.1 rfl (Nat.le_of_ble_eq_true rfl) dX12_factor_303 ⟨Nat.zero_le _, Nat.zero_le _⟩ (fun spot_303 isWrong_303 H locs hw hO => ?_)
            refine lv_aload_n hx hb dX12_factor_306 rfl (lv_at hl 0 rfl) ?_
            refine cVi2 (As := []) (rest := []) C hK hX hO (c_X12_number (l := l) hw) (cwV 0 hts gd_X12_123 rfl rfl rfl hd_X12_number (rok hR (show 2 ≤ f + 3 by omega) (show 44 ≤ lo + 67 by omega))) (ci := 12) (q0 := 0) rfl rfl rfl rfl hl.1 rfl (Nat.le_of_ble_eq_true rfl) dX12_factor_307 ⟨Nat.zero_le _, Nat.zero_le _⟩ (fun r_307 spot_307 isWrong_307 H locs hw hO => ?_)
            refine lv_istore_n (lv' := [(2, .int r_307), (0, .ref h), (1, .int (f_X12_here k_s k_read k_spot))]) hx hb dX12_factor_310 rfl hl (by decide) rfl (fun ls hl => ?_)
            refine lv_iload_n hx hb dX12_factor_311 rfl (lv_at hl 2 rfl) ?_
            refine lv_bipush (v := (nI 115)) hx hb dX12_factor_312 (by decide) ?_
            obtain ⟨hs, hw⟩ := hw
            have m_374 : ∀ (y0_374 : Int32) (H : Heap) (locs : List Loc) (ls : Array Slot), y0_374 = (if (f_X12_here k_s k_read k_spot) = (nI 115) then (f_X12_sideOf k_act) else (if (f_X12_here k_s k_read k_spot) = (nI 103) then (k_s (((nI 20) + (f_X12_spotOf k_act))).toNatClampNeg) else (if (f_X12_here k_s k_read k_spot) = (nI 109) then (f_X12_matterOf k_act) else (f_X12_spotOf k_act)))) → okW D A s.heap H locs (wM cI cZ cJ h ad k_thrown k_s k_image k_hasImage k_steps k_read spot_307 isWrong_307 k_open k_act k_letBy k_letStamp k_stamp k_fallen k_held k_stands k_falling k_away k_round k_rests k_may k_next k_could k_couldNight k_night k_seats) → lv_has ls 4 [(2, .int r_307)] → W p l e R s m args below meth c H locs 0 0 QQ (F0 m 374 ls [.int y0_374]) := by
              intro y0_374 H locs ls ey0_374 hO hl
              have hw := hw y0_374 ey0_374
              refine lv_istore_n (lv' := [(3, .int y0_374), (2, .int r_307)]) hx hb dX12_factor_374 rfl hl (by decide) rfl (fun ls hl => ?_)
              refine lv_iload_n hx hb dX12_factor_375 rfl (lv_at hl 0 rfl) ?_
              refine lv_iload_n hx hb dX12_factor_376 rfl (lv_at hl 1 rfl) ?_
              have m_385 : ∀ (y0_385 : Int32) (H : Heap) (locs : List Loc) (ls : Array Slot), y0_385 = (if y0_374 = r_307 then (nI 1) else (nI 0)) → okW D A s.heap H locs (wM cI cZ cJ h ad k_thrown k_s k_image k_hasImage k_steps k_read spot_307 isWrong_307 k_open k_act k_letBy k_letStamp k_stamp k_fallen k_held k_stands k_falling k_away k_round k_rests k_may k_next k_could k_couldNight k_night k_seats) → lv_has ls 4 [] → W p l e R s m args below meth c H locs 0 0 QQ (F0 m 385 ls [.int y0_385]) := by
                intro y0_385 H locs ls ey0_385 hO hl
                have hw := hw y0_385 ey0_385
                exact rz3 hQQ hx hb hr hlk hK hO (by rw [ey0_385]; exact (zb_ite zb1 zb0)) hw dX12_factor_385
              refine lv_icmp_ne (tgt := 384) hx hb dX12_factor_377 (by decide) (fun q_377 => ?_) (fun q_377 => ?_)
              · refine lv_iconst (v := (nI 0)) hx hb dX12_factor_384 (by decide) ?_
                have hl := lv_sub hl [] rfl (l' := [])
                exact m_385 _ _ _ _ (by rw [if_neg q_377]) hO hl
              · refine lv_iconst (v := (nI 1)) hx hb dX12_factor_380 (by decide) ?_
                refine lv_goto (tgt := 385) hx hb dX12_factor_381 (by decide) ?_
                have hl := lv_sub hl [] rfl (l' := [])
                exact m_385 _ _ _ _ (by rw [if_pos q_377]) hO hl
            refine lv_icmp_ne (tgt := 327) hx hb dX12_factor_314 (by decide) (fun q_314 => ?_) (fun q_314 => ?_)
            · have hs := hs q_314
              refine lv_iload_n hx hb dX12_factor_327 rfl (lv_at hl 2 rfl) ?_
              refine lv_bipush (v := (nI 103)) hx hb dX12_factor_328 (by decide) ?_
              refine lv_icmp_ne (tgt := 351) hx hb dX12_factor_330 (by decide) (fun q_330 => ?_) (fun q_330 => ?_)
              · refine lv_iload_n hx hb dX12_factor_351 rfl (lv_at hl 2 rfl) ?_
                refine lv_bipush (v := (nI 109)) hx hb dX12_factor_352 (by decide) ?_
                refine lv_icmp_ne (tgt := 367) hx hb dX12_factor_354 (by decide) (fun q_354 => ?_) (fun q_354 => ?_)
                · refine lv_aload_n hx hb dX12_factor_367 rfl (lv_at hl 1 rfl) ?_
                  refine gM_act C hin hK lk_act hO dX12_factor_368 ?_
                  refine cSi0 (As := [.int k_act]) (rest := []) C hK hX hO (c_X12_spotOf (l := l)) (va_cwS 1 hts gd_X12_136 rfl rfl rfl hd_X12_spotOf (rok hR (show 1 ≤ f + 3 by omega) (show 20 ≤ lo + 67 by omega))) rfl hl.1 rfl (Nat.le_of_ble_eq_true rfl) dX12_factor_371 ⟨Nat.zero_le _, Nat.zero_le _⟩ (fun r_371 H locs e_371 hO => ?_)
                  subst e_371
                  have hl := lv_sub hl [0] rfl (l' := [(2, .int r_307)])
                  exact m_374 _ _ _ _ (by rw [if_neg q_314, if_neg q_330, if_neg q_354]) hO hl
                · refine lv_aload_n hx hb dX12_factor_357 rfl (lv_at hl 1 rfl) ?_
                  refine gM_act C hin hK lk_act hO dX12_factor_358 ?_
                  refine cSi0 (As := [.int k_act]) (rest := []) C hK hX hO (c_X12_matterOf (l := l)) (va_cwS 1 hts gd_X12_139 rfl rfl rfl hd_X12_matterOf (rok hR (show 1 ≤ f + 3 by omega) (show 20 ≤ lo + 67 by omega))) rfl hl.1 rfl (Nat.le_of_ble_eq_true rfl) dX12_factor_361 ⟨Nat.zero_le _, Nat.zero_le _⟩ (fun r_361 H locs e_361 hO => ?_)
                  subst e_361
                  refine lv_goto (tgt := 374) hx hb dX12_factor_364 (by decide) ?_
                  have hl := lv_sub hl [0] rfl (l' := [(2, .int r_307)])
                  exact m_374 _ _ _ _ (by rw [if_neg q_314, if_neg q_330, if_pos q_354]) hO hl
              · have hs := hs q_330
                have o_347 := hs
                refine lv_aload_n hx hb dX12_factor_333 rfl (lv_at hl 1 rfl) ?_
                refine gM_s C hin hK lk_s hO dX12_factor_334 ?_
                refine lv_bipush (v := (nI 20)) hx hb dX12_factor_337 (by decide) ?_
                refine lv_aload_n hx hb dX12_factor_339 rfl (lv_at hl 1 rfl) ?_
                refine gM_act C hin hK lk_act hO dX12_factor_340 ?_
                refine cSi0 (As := [.int k_act]) (rest := [.int (nI 20), .ref (ad 1)]) C hK hX hO (c_X12_spotOf (l := l)) (va_cwS 1 hts gd_X12_136 rfl rfl rfl hd_X12_spotOf (rok hR (show 1 ≤ f + 3 by omega) (show 20 ≤ lo + 67 by omega))) rfl hl.1 rfl (Nat.le_of_ble_eq_true rfl) dX12_factor_343 ⟨Nat.zero_le _, Nat.zero_le _⟩ (fun r_343 H locs e_343 hO => ?_)
                subst e_343
                refine lv_iadd hx hb dX12_factor_346 ?_
                refine ldM_s C hK hO o_347 rfl dX12_factor_347 ?_
                refine lv_goto (tgt := 374) hx hb dX12_factor_348 (by decide) ?_
                have hl := lv_sub hl [0] rfl (l' := [(2, .int r_307)])
                exact m_374 _ _ _ _ (by rw [if_neg q_314, if_pos q_330]) hO hl
            · refine lv_aload_n hx hb dX12_factor_317 rfl (lv_at hl 1 rfl) ?_
              refine gM_act C hin hK lk_act hO dX12_factor_318 ?_
              refine cSi0 (As := [.int k_act]) (rest := []) C hK hX hO (c_X12_sideOf (l := l)) (va_cwS 1 hts gd_X12_133 rfl rfl rfl hd_X12_sideOf (rok hR (show 1 ≤ f + 3 by omega) (show 20 ≤ lo + 67 by omega))) rfl hl.1 rfl (Nat.le_of_ble_eq_true rfl) dX12_factor_321 ⟨Nat.zero_le _, Nat.zero_le _⟩ (fun r_321 H locs e_321 hO => ?_)
              subst e_321
              refine lv_goto (tgt := 374) hx hb dX12_factor_324 (by decide) ?_
              have hl := lv_sub hl [0] rfl (l' := [(2, .int r_307)])
              exact m_374 _ _ _ _ (by rw [if_pos q_314]) hO hl
          refine lv_if_eq (tgt := 295) hx hb dX12_factor_288 (by decide) (fun q_288 => ?_) (fun q_288 => ?_)
          · refine lv_iconst (v := (nI 1)) hx hb dX12_factor_295 (by decide) ?_
            have hl := lv_sub hl [0, 1] rfl (l' := [(0, .ref h), (1, .int (f_X12_here k_s k_read k_spot))])
            exact m_296 _ _ _ _ (by rw [if_pos q_288]) hO hl
          · refine lv_iconst (v := (nI 0)) hx hb dX12_factor_291 (by decide) ?_
            refine lv_goto (tgt := 296) hx hb dX12_factor_292 (by decide) ?_
            have hl := lv_sub hl [0, 1] rfl (l' := [(0, .ref h), (1, .int (f_X12_here k_s k_read k_spot))])
            exact m_296 _ _ _ _ (by rw [if_neg q_288]) hO hl
        refine lv_icmp_eq (tgt := 275) hx hb dX12_factor_250 (by decide) (fun q_250 => ?_) (fun q_250 => ?_)
        · refine lv_iconst (v := (nI 0)) hx hb dX12_factor_275 (by decide) ?_
          have hl := lv_sub hl [0, 1] rfl (l' := [(0, .ref h), (1, .int (f_X12_here k_s k_read k_spot))])
          exact m_276 _ _ _ _ (by rw [if_pos q_250]) hO hl
        · refine lv_iload_n hx hb dX12_factor_253 rfl (lv_at hl 1 rfl) ?_
          refine lv_bipush (v := (nI 103)) hx hb dX12_factor_254 (by decide) ?_
          refine lv_icmp_eq (tgt := 275) hx hb dX12_factor_256 (by decide) (fun q_256 => ?_) (fun q_256 => ?_)
          · refine lv_iconst (v := (nI 0)) hx hb dX12_factor_275 (by decide) ?_
            have hl := lv_sub hl [0, 1] rfl (l' := [(0, .ref h), (1, .int (f_X12_here k_s k_read k_spot))])
            exact m_276 _ _ _ _ (by rw [if_neg q_250, if_pos q_256]) hO hl
          · refine lv_iload_n hx hb dX12_factor_259 rfl (lv_at hl 1 rfl) ?_
            refine lv_bipush (v := (nI 109)) hx hb dX12_factor_260 (by decide) ?_
            refine lv_icmp_eq (tgt := 275) hx hb dX12_factor_262 (by decide) (fun q_262 => ?_) (fun q_262 => ?_)
            · refine lv_iconst (v := (nI 0)) hx hb dX12_factor_275 (by decide) ?_
              have hl := lv_sub hl [0, 1] rfl (l' := [(0, .ref h), (1, .int (f_X12_here k_s k_read k_spot))])
              exact m_276 _ _ _ _ (by rw [if_neg q_250, if_neg q_256, if_pos q_262]) hO hl
            · refine lv_iload_n hx hb dX12_factor_265 rfl (lv_at hl 1 rfl) ?_
              refine lv_bipush (v := (nI 112)) hx hb dX12_factor_266 (by decide) ?_
              refine lv_icmp_eq (tgt := 275) hx hb dX12_factor_268 (by decide) (fun q_268 => ?_) (fun q_268 => ?_)
              · refine lv_iconst (v := (nI 0)) hx hb dX12_factor_275 (by decide) ?_
                have hl := lv_sub hl [0, 1] rfl (l' := [(0, .ref h), (1, .int (f_X12_here k_s k_read k_spot))])
                exact m_276 _ _ _ _ (by rw [if_neg q_250, if_neg q_256, if_neg q_262, if_pos q_268]) hO hl
              · refine lv_iconst (v := (nI 1)) hx hb dX12_factor_271 (by decide) ?_
                refine lv_goto (tgt := 276) hx hb dX12_factor_272 (by decide) ?_
                have hl := lv_sub hl [0, 1] rfl (l' := [(0, .ref h), (1, .int (f_X12_here k_s k_read k_spot))])
                exact m_276 _ _ _ _ (by rw [if_neg q_250, if_neg q_256, if_neg q_262, if_neg q_268]) hO hl
      · have hw := hw.2 q_139
        refine lv_aload_n hx hb dX12_factor_142 rfl (lv_at hl 0 rfl) ?_
        refine lv_dup hx hb dX12_factor_143 rfl ?_
        refine gM_spot C hin hK lk_spot hO dX12_factor_144 ?_
        refine lv_iconst (v := (nI 1)) hx hb dX12_factor_147 (by decide) ?_
        refine lv_iadd hx hb dX12_factor_148 ?_
        refine pM_spot C hin hK lk_spot hO dX12_factor_149 (fun H locs hO => ?_)
        refine lv_aload_n hx hb dX12_factor_152 rfl (lv_at hl 0 rfl) ?_
        obtain ⟨o_153, hw⟩ := hw
        refine cVi0 (As := []) (rest := []) C hK hX hO (c_X12_here (l := l) o_153) (cwV 0 hts gd_X12_105 rfl rfl rfl hd_X12_here (rok hR (show 1 ≤ f + 3 by omega) (show 20 ≤ lo + 67 by omega))) (ci := 12) (q0 := 0) rfl rfl rfl rfl hl.1 rfl (Nat.le_of_ble_eq_true rfl) dX12_factor_153 ⟨Nat.zero_le _, Nat.zero_le _⟩ (fun r_153 H locs e_153 hO => ?_)
        subst e_153
        refine lv_topi (fun x_153 ex_153 => ?_)
        have hw := hw x_153 ex_153
        refine lv_istore_n (lv' := [(2, .int x_153), (0, .ref h), (1, .int (f_X12_here k_s k_read k_spot))]) hx hb dX12_factor_156 rfl hl (by decide) rfl (fun ls hl => ?_)
        refine lv_aload_n hx hb dX12_factor_157 rfl (lv_at hl 1 rfl) ?_
        refine lv_iload_n hx hb dX12_factor_158 rfl (lv_at hl 0 rfl) ?_
        refine lv_bipush (v := (nI 60)) hx hb dX12_factor_159 (by decide) ?_
        have m_175 : ∀ (y1_175 : Int32) (H : Heap) (locs : List Loc) (ls : Array Slot), y1_175 = (if x_153 = (nI 60) then (nI 0) else (if x_153 = (nI 62) then (nI 0) else (nI 1))) → okW D A s.heap H locs (wM cI cZ cJ h ad k_thrown k_s k_image k_hasImage k_steps k_read (k_spot + (nI 1)) k_isWrong k_open k_act k_letBy k_letStamp k_stamp k_fallen k_held k_stands k_falling k_away k_round k_rests k_may k_next k_could k_couldNight k_night k_seats) → lv_has ls 4 [(0, .ref h), (2, .int x_153)] → W p l e R s m args below meth c H locs 0 0 QQ (F0 m 175 ls [.int y1_175, .ref h]) := by
          intro y1_175 H locs ls ey1_175 hO hl
          have hw := hw y1_175 ey1_175
          refine pM_isWrong C hin hK lk_isWrong hO (by rw [ey1_175]; exact (zb_ite zb0 (zb_ite zb0 zb1))) dX12_factor_175 (fun H locs hO => ?_)
          refine lv_aload_n hx hb dX12_factor_178 rfl (lv_at hl 0 rfl) ?_
          refine lv_dup hx hb dX12_factor_179 rfl ?_
          refine gM_spot C hin hK lk_spot hO dX12_factor_180 ?_
          refine lv_aload_n hx hb dX12_factor_183 rfl (lv_at hl 0 rfl) ?_
          refine gM_isWrong C hin hK lk_isWrong hO dX12_factor_184 ?_
          have m_195 : ∀ (y2_195 : Int32) (H : Heap) (locs : List Loc) (ls : Array Slot), y2_195 = (if y1_175 = 0 then (nI 1) else (nI 0)) → okW D A s.heap H locs (wM cI cZ cJ h ad k_thrown k_s k_image k_hasImage k_steps k_read (k_spot + (nI 1)) y1_175 k_open k_act k_letBy k_letStamp k_stamp k_fallen k_held k_stands k_falling k_away k_round k_rests k_may k_next k_could k_couldNight k_night k_seats) → lv_has ls 4 [(0, .ref h), (2, .int x_153)] → W p l e R s m args below meth c H locs 0 0 QQ (F0 m 195 ls [.int y2_195, .int (k_spot + (nI 1)), .ref h]) := by
            intro y2_195 H locs ls ey2_195 hO hl
            have hw := hw y2_195 ey2_195
            refine lv_iadd hx hb dX12_factor_195 ?_
            refine pM_spot C hin hK lk_spot hO dX12_factor_196 (fun H locs hO => ?_)
            refine lv_aload_n hx hb dX12_factor_199 rfl (lv_at hl 0 rfl) ?_
            refine cVi2 (As := []) (rest := []) C hK hX hO (c_X12_number (l := l) hw) (cwV 0 hts gd_X12_123 rfl rfl rfl hd_X12_number (rok hR (show 2 ≤ f + 3 by omega) (show 44 ≤ lo + 67 by omega))) (ci := 12) (q0 := 0) rfl rfl rfl rfl hl.1 rfl (Nat.le_of_ble_eq_true rfl) dX12_factor_200 ⟨Nat.zero_le _, Nat.zero_le _⟩ (fun r_200 spot_200 isWrong_200 H locs hw hO => ?_)
            refine lv_istore_n (lv' := [(3, .int r_200), (0, .ref h), (2, .int x_153)]) hx hb dX12_factor_203 rfl hl (by decide) rfl (fun ls hl => ?_)
            refine lv_iload_n hx hb dX12_factor_204 rfl (lv_at hl 2 rfl) ?_
            refine lv_bipush (v := (nI 60)) hx hb dX12_factor_205 (by decide) ?_
            have m_245 : ∀ (y0_245 : Int32) (H : Heap) (locs : List Loc) (ls : Array Slot), y0_245 = (if x_153 = (nI 60) then (if r_200 ≤ (f_X12_hourOf k_act) then (nI 0) else (nI 1)) else (if (f_X12_hourOf k_act) ≤ r_200 then (nI 0) else (nI 1))) → okW D A s.heap H locs (wM cI cZ cJ h ad k_thrown k_s k_image k_hasImage k_steps k_read spot_200 isWrong_200 k_open k_act k_letBy k_letStamp k_stamp k_fallen k_held k_stands k_falling k_away k_round k_rests k_may k_next k_could k_couldNight k_night k_seats) → lv_has ls 4 [] → W p l e R s m args below meth c H locs 0 0 QQ (F0 m 245 ls [.int y0_245]) := by
              intro y0_245 H locs ls ey0_245 hO hl
              have hw := hw y0_245 ey0_245
              exact rz3 hQQ hx hb hr hlk hK hO (by rw [ey0_245]; exact (zb_ite (zb_ite zb0 zb1) (zb_ite zb0 zb1))) hw dX12_factor_245
            refine lv_icmp_ne (tgt := 229) hx hb dX12_factor_207 (by decide) (fun q_207 => ?_) (fun q_207 => ?_)
            · refine lv_aload_n hx hb dX12_factor_229 rfl (lv_at hl 1 rfl) ?_
              refine gM_act C hin hK lk_act hO dX12_factor_230 ?_
              refine cSi0 (As := [.int k_act]) (rest := []) C hK hX hO (c_X12_hourOf (l := l)) (va_cwS 1 hts gd_X12_129 rfl rfl rfl hd_X12_hourOf (rok hR (show 1 ≤ f + 3 by omega) (show 20 ≤ lo + 67 by omega))) rfl hl.1 rfl (Nat.le_of_ble_eq_true rfl) dX12_factor_233 ⟨Nat.zero_le _, Nat.zero_le _⟩ (fun r_233 H locs e_233 hO => ?_)
              subst e_233
              refine lv_iload_n hx hb dX12_factor_236 rfl (lv_at hl 0 rfl) ?_
              refine lv_icmp_le (tgt := 244) hx hb dX12_factor_237 (by decide) (fun q_237 => ?_) (fun q_237 => ?_)
              · refine lv_iconst (v := (nI 0)) hx hb dX12_factor_244 (by decide) ?_
                have hl := lv_sub hl [] rfl (l' := [])
                exact m_245 _ _ _ _ (by rw [if_neg q_207, if_pos q_237]) hO hl
              · refine lv_iconst (v := (nI 1)) hx hb dX12_factor_240 (by decide) ?_
                refine lv_goto (tgt := 245) hx hb dX12_factor_241 (by decide) ?_
                have hl := lv_sub hl [] rfl (l' := [])
                exact m_245 _ _ _ _ (by rw [if_neg q_207, if_neg q_237]) hO hl
            · refine lv_aload_n hx hb dX12_factor_210 rfl (lv_at hl 1 rfl) ?_
              refine gM_act C hin hK lk_act hO dX12_factor_211 ?_
              refine cSi0 (As := [.int k_act]) (rest := []) C hK hX hO (c_X12_hourOf (l := l)) (va_cwS 1 hts gd_X12_129 rfl rfl rfl hd_X12_hourOf (rok hR (show 1 ≤ f + 3 by omega) (show 20 ≤ lo + 67 by omega))) rfl hl.1 rfl (Nat.le_of_ble_eq_true rfl) dX12_factor_214 ⟨Nat.zero_le _, Nat.zero_le _⟩ (fun r_214 H locs e_214 hO => ?_)
              subst e_214
              refine lv_iload_n hx hb dX12_factor_217 rfl (lv_at hl 0 rfl) ?_
              refine lv_icmp_ge (tgt := 225) hx hb dX12_factor_218 (by decide) (fun q_218 => ?_) (fun q_218 => ?_)
              · refine lv_iconst (v := (nI 0)) hx hb dX12_factor_225 (by decide) ?_
                refine lv_goto (tgt := 245) hx hb dX12_factor_226 (by decide) ?_
                have hl := lv_sub hl [] rfl (l' := [])
                exact m_245 _ _ _ _ (by rw [if_pos q_207, if_pos q_218]) hO hl
              · refine lv_iconst (v := (nI 1)) hx hb dX12_factor_221 (by decide) ?_
                refine lv_goto (tgt := 245) hx hb dX12_factor_222 (by decide) ?_
                have hl := lv_sub hl [] rfl (l' := [])
                exact m_245 _ _ _ _ (by rw [if_pos q_207, if_neg q_218]) hO hl
          refine lv_if_eq (tgt := 194) hx hb dX12_factor_187 (by decide) (fun q_187 => ?_) (fun q_187 => ?_)
          · refine lv_iconst (v := (nI 1)) hx hb dX12_factor_194 (by decide) ?_
            have hl := lv_sub hl [0, 1] rfl (l' := [(0, .ref h), (2, .int x_153)])
            exact m_195 _ _ _ _ (by rw [if_pos q_187]) hO hl
          · refine lv_iconst (v := (nI 0)) hx hb dX12_factor_190 (by decide) ?_
            refine lv_goto (tgt := 195) hx hb dX12_factor_191 (by decide) ?_
            have hl := lv_sub hl [0, 1] rfl (l' := [(0, .ref h), (2, .int x_153)])
            exact m_195 _ _ _ _ (by rw [if_neg q_187]) hO hl
        refine lv_icmp_eq (tgt := 174) hx hb dX12_factor_161 (by decide) (fun q_161 => ?_) (fun q_161 => ?_)
        · refine lv_iconst (v := (nI 0)) hx hb dX12_factor_174 (by decide) ?_
          have hl := lv_sub hl [1, 0] rfl (l' := [(0, .ref h), (2, .int x_153)])
          exact m_175 _ _ _ _ (by rw [if_pos q_161]) hO hl
        · refine lv_iload_n hx hb dX12_factor_164 rfl (lv_at hl 0 rfl) ?_
          refine lv_bipush (v := (nI 62)) hx hb dX12_factor_165 (by decide) ?_
          refine lv_icmp_eq (tgt := 174) hx hb dX12_factor_167 (by decide) (fun q_167 => ?_) (fun q_167 => ?_)
          · refine lv_iconst (v := (nI 0)) hx hb dX12_factor_174 (by decide) ?_
            have hl := lv_sub hl [1, 0] rfl (l' := [(0, .ref h), (2, .int x_153)])
            exact m_175 _ _ _ _ (by rw [if_neg q_161, if_pos q_167]) hO hl
          · refine lv_iconst (v := (nI 1)) hx hb dX12_factor_170 (by decide) ?_
            refine lv_goto (tgt := 175) hx hb dX12_factor_171 (by decide) ?_
            have hl := lv_sub hl [1, 0] rfl (l' := [(0, .ref h), (2, .int x_153)])
            exact m_175 _ _ _ _ (by rw [if_neg q_161, if_neg q_167]) hO hl
    refine lv_icmp_eq (tgt := 26) hx hb dX12_factor_17 (by decide) (fun q_17 => ?_) (fun q_17 => ?_)
    · have hl := lv_sub hl [1, 0] rfl (l' := [(0, .ref h), (1, .int (f_X12_here k_s k_read k_spot))])
      exact a_26 (Or.inl q_17) _ _ _ hO hl
    · refine lv_iload_n hx hb dX12_factor_20 rfl (lv_at hl 0 rfl) ?_
      refine lv_bipush (v := (nI 40)) hx hb dX12_factor_21 (by decide) ?_
      refine lv_icmp_ne (tgt := 136) hx hb dX12_factor_23 (by decide) (fun q_23 => ?_) (fun q_23 => ?_)
      · have hl := lv_sub hl [1, 0] rfl (l' := [(0, .ref h), (1, .int (f_X12_here k_s k_read k_spot))])
        exact a_136 (fun h => h.elim q_17 q_23) _ _ _ hO hl
      · have hl := lv_sub hl [1, 0] rfl (l' := [(0, .ref h), (1, .int (f_X12_here k_s k_read k_spot))])
        exact a_26 (Or.inr q_23) _ _ _ hO hl
  · have hw := hw.2 q_4
    refine lv_iconst (v := (nI 0)) hx hb dX12_factor_7 (by decide) ?_
    exact rz3 hQQ hx hb hr hlk hK hO zb0 hw dX12_factor_8
def wp_X12_factor : Nat → fpT
  | 0 => fun _ _ _ _ _ _ _ => False
  | d + 1 => wr_X12_factor (wp_X12_factor d)
theorem c_X12_factor {l : Launch} (d : Nat) : metF l (3 * d + 4) (67 * d + 100) (wp_X12_factor d) := by
  induction d with
  | zero =>
    unfold metF
    intros
    rename_i hw
    exact False.elim hw
  | succ d ih =>
    unfold metF
    intros
    rename_i hw
    rw [show 3 * (d + 1) + 4 = 3 * d + 4 + 3 from by omega, show 67 * (d + 1) + 100 = 67 * d + 100 + 67 from by omega]
    exact cr_X12_factor (f := 3 * d + 4) (lo := 67 * d + 100) (by omega) (by omega) ih hw
def wp_X12_some (k_s : Nat → Int32) (k_read : Int32) (k_spot : Int32) (k_isWrong : Int32) (k_open : Int32) (k_act : Int32) (Q : Int32 → (Int32) → (Int32) → (Int32) → Prop) : Prop := wr_X12_some (wp_X12_factor 8) k_s k_read k_spot k_isWrong k_open k_act Q
theorem c_X12_some {l : Launch} {D : va_G} {cI cZ cJ : ClassId} {h : Nat} {ad : Nat → Nat} {sz : Nat} {k_thrown : Int32} {k_s : Nat → Int32} {k_image : Nat → Int32} {k_hasImage : Int32} {k_steps : Nat → Int32} {k_read : Int32} {k_spot : Int32} {k_isWrong : Int32} {k_open : Int32} {k_act : Int32} {k_letBy : Nat → Int32} {k_letStamp : Nat → Int32} {k_stamp : Int32} {k_fallen : Nat → Int32} {k_held : Nat → Int32} {k_stands : Nat → Int32} {k_falling : Nat → Int32} {k_away : Nat → Int32} {k_round : Nat → Int32} {k_rests : Nat → Int64} {k_may : Nat → Int32} {k_next : Nat → Int32} {k_could : Nat → Int32} {k_couldNight : Nat → Int32} {k_night : Int32} {k_seats : Nat → Int32} {Q : Int32 → (Int32) → (Int32) → (Int32) → Prop} (hw : wp_X12_some k_s k_read k_spot k_isWrong k_open k_act Q) : Met l yX12_some (Cond.code yX12_some cX12_some 3 (some .boolean) :: wsG) ({ frames := 30, cells := 0, slots := 0, locals := 681 } : Room) (preW D (tyM cI cZ cJ) (wM cI cZ cJ h ad k_thrown k_s k_image k_hasImage k_steps k_read k_spot k_isWrong k_open k_act k_letBy k_letStamp k_stamp k_fallen k_held k_stands k_falling k_away k_round k_rests k_may k_next k_could k_couldNight k_night k_seats) sz [.ref h]) (qi3 D (tyM cI cZ cJ) (va_A (wM cI cZ cJ h ad k_thrown k_s k_image k_hasImage k_steps k_read k_spot k_isWrong k_open k_act k_letBy k_letStamp k_stamp k_fallen k_held k_stands k_falling k_away k_round k_rests k_may k_next k_could k_couldNight k_night k_seats) sz) Q (fun k_spot' k_isWrong' k_open' => (wM cI cZ cJ h ad k_thrown k_s k_image k_hasImage k_steps k_read k_spot' k_isWrong' k_open' k_act k_letBy k_letStamp k_stamp k_fallen k_held k_stands k_falling k_away k_round k_rests k_may k_next k_could k_couldNight k_night k_seats))) 0 0 (va_A (wM cI cZ cJ h ad k_thrown k_s k_image k_hasImage k_steps k_read k_spot k_isWrong k_open k_act k_letBy k_letStamp k_stamp k_fallen k_held k_stands k_falling k_away k_round k_rests k_may k_next k_could k_couldNight k_night k_seats) sz) := cr_X12_some (f := 28) (lo := 636) (by omega) (by omega) (c_X12_factor 8) hw
