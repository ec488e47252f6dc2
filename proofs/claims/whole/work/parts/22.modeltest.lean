def f_X12_in  (p1 : Int32) (p2 : Int32) (p3 : Int32) : Int32 := (if p1 < p2 then (nI 0) else (if p3 < p1 then (nI 0) else (nI 1)))
theorem z_X12_in  (p1 : Int32) (p2 : Int32) (p3 : Int32) : zb (f_X12_in p1 p2 p3) := by
  unfold f_X12_in
  exact (zb_ite zb0 (zb_ite zb0 zb1))
set_option maxHeartbeats 4000000 in
set_option maxRecDepth 100000 in
theorem c_X12_in {l : Launch} {D : va_G} {T : List (ClassId × FieldType)} {ws : va_W} {sz : Nat} {p1 : Int32} {p2 : Int32} {p3 : Int32} : Met l yX12_in (Cond.code yX12_in cX12_in 3 (some .boolean) :: wsG) ({ frames := 0, cells := 0, slots := 0, locals := 0 } : Room) (preW D T ws sz [.int p1, .int p2, .int p3]) (qi0 D T (va_A ws sz) (fun r => r = f_X12_in p1 p2 p3) ws) 0 0 (va_A ws sz) := by
  refine st_met (cc := cX12_in) (maxL := 3) (ret := (some .boolean)) (lv := [(0, .int p1), (1, .int p2), (2, .int p3)]) (Qc := fun A => qi0 D T A (fun r => r = f_X12_in p1 p2 p3) ws) (by decide) rfl (Nat.le_of_ble_eq_true rfl) rfl ?_
  intro p e s m below meth c ls A R args QQ H locs C hr hlk hnm hK hsz hl hO hR hQQ
  have hx := C.1
  have hb := C.2.1
  have hown := C.2.2.2.1
  have hts := C.2.2.2.2
  refine lv_iload_n hx hb dX12_in_0 rfl (lv_at hl 0 rfl) ?_
  refine lv_iload_n hx hb dX12_in_1 rfl (lv_at hl 1 rfl) ?_
  refine lv_icmp_lt (tgt := 14) hx hb dX12_in_2 (by decide) (fun q_2 => ?_) (fun q_2 => ?_)
  · refine lv_iconst (v := (nI 0)) hx hb dX12_in_14 (by decide) ?_
    exact rz0 hx hb hr hlk hK hO zb0 (by unfold f_X12_in; rw [if_pos q_2]) hQQ dX12_in_15
  · refine lv_iload_n hx hb dX12_in_5 rfl (lv_at hl 0 rfl) ?_
    refine lv_iload_n hx hb dX12_in_6 rfl (lv_at hl 2 rfl) ?_
    refine lv_icmp_gt (tgt := 14) hx hb dX12_in_7 (by decide) (fun q_7 => ?_) (fun q_7 => ?_)
    · refine lv_iconst (v := (nI 0)) hx hb dX12_in_14 (by decide) ?_
      exact rz0 hx hb hr hlk hK hO zb0 (by unfold f_X12_in; rw [if_neg q_2, if_pos q_7]) hQQ dX12_in_15
    · refine lv_iconst (v := (nI 1)) hx hb dX12_in_10 (by decide) ?_
      refine lv_goto (tgt := 15) hx hb dX12_in_11 (by decide) ?_
      exact rz0 hx hb hr hlk hK hO zb1 (by unfold f_X12_in; rw [if_neg q_2, if_neg q_7]) hQQ dX12_in_15
theorem gd_X12_74 {a : Cond} : GoodIn (a :: wsG) (va_wsS RX12 74 yX12_in (Cond.code yX12_in cX12_in 3 (some .boolean) :: wsG)) := gdS qw6_52 qw6_53 qw1_12 qw6_54
theorem hd_X12_in : yX12_in.cls ≠ "java/lang/invoke/MethodHandle" ∧ yX12_in.cls ≠ "java/lang/invoke/VarHandle" ∧ (parseMethodDescriptor yX12_in.desc).map (fun d => d.parameters.length) = some 3 := by decide +kernel
def f_X12_isSpot  (p1 : Int32) : Int32 := (f_X12_in p1 (nI 0) (nI 29))
theorem z_X12_isSpot  (p1 : Int32) : zb (f_X12_isSpot p1) := by
  unfold f_X12_isSpot
  exact (z_X12_in p1 (nI 0) (nI 29))
set_option maxHeartbeats 4000000 in
set_option maxRecDepth 100000 in
theorem c_X12_isSpot {l : Launch} {D : va_G} {T : List (ClassId × FieldType)} {ws : va_W} {sz : Nat} {p1 : Int32} : Met l yX12_isSpot (Cond.code yX12_isSpot cX12_isSpot 1 (some .boolean) :: wsG) ({ frames := 1, cells := 0, slots := 0, locals := 22 } : Room) (preW D T ws sz [.int p1]) (qi0 D T (va_A ws sz) (fun r => r = f_X12_isSpot p1) ws) 0 0 (va_A ws sz) := by
  refine st_met (cc := cX12_isSpot) (maxL := 1) (ret := (some .boolean)) (lv := [(0, .int p1)]) (Qc := fun A => qi0 D T A (fun r => r = f_X12_isSpot p1) ws) (by decide) rfl (Nat.le_of_ble_eq_true rfl) rfl ?_
  intro p e s m below meth c ls A R args QQ H locs C hr hlk hnm hK hsz hl hO hR hQQ
  have hx := C.1
  have hb := C.2.1
  have hown := C.2.2.2.1
  have hts := C.2.2.2.2
  refine lv_iload_n hx hb dX12_isSpot_0 rfl (lv_at hl 0 rfl) ?_
  refine lv_iconst (v := (nI 0)) hx hb dX12_isSpot_1 (by decide) ?_
  refine lv_bipush (v := (nI 29)) hx hb dX12_isSpot_2 (by decide) ?_
  refine cSi0 (As := [.int p1, .int (nI 0), .int (nI 29)]) (rest := []) C hK hO (c_X12_in (l := l)) (va_cwS 3 hts gd_X12_74 rfl rfl rfl hd_X12_in (rok hR (Nat.le_of_ble_eq_true rfl) (Nat.le_of_ble_eq_true rfl))) rfl hl.1 rfl (Nat.le_of_ble_eq_true rfl) dX12_isSpot_4 ⟨Nat.zero_le _, Nat.zero_le _⟩ (fun r_4 H locs e_4 hO => ?_)
  subst e_4
  exact rz0 hx hb hr hlk hK hO (z_X12_in p1 (nI 0) (nI 29)) (by unfold f_X12_isSpot; rfl) hQQ dX12_isSpot_7
def f_X12_isDay  (p1 : Int32) : Int32 := (f_X12_in p1 (nI 0) (nI 999))
theorem z_X12_isDay  (p1 : Int32) : zb (f_X12_isDay p1) := by
  unfold f_X12_isDay
  exact (z_X12_in p1 (nI 0) (nI 999))
set_option maxHeartbeats 4000000 in
set_option maxRecDepth 100000 in
theorem c_X12_isDay {l : Launch} {D : va_G} {T : List (ClassId × FieldType)} {ws : va_W} {sz : Nat} {p1 : Int32} : Met l yX12_isDay (Cond.code yX12_isDay cX12_isDay 1 (some .boolean) :: wsG) ({ frames := 1, cells := 0, slots := 0, locals := 22 } : Room) (preW D T ws sz [.int p1]) (qi0 D T (va_A ws sz) (fun r => r = f_X12_isDay p1) ws) 0 0 (va_A ws sz) := by
  refine st_met (cc := cX12_isDay) (maxL := 1) (ret := (some .boolean)) (lv := [(0, .int p1)]) (Qc := fun A => qi0 D T A (fun r => r = f_X12_isDay p1) ws) (by decide) rfl (Nat.le_of_ble_eq_true rfl) rfl ?_
  intro p e s m below meth c ls A R args QQ H locs C hr hlk hnm hK hsz hl hO hR hQQ
  have hx := C.1
  have hb := C.2.1
  have hown := C.2.2.2.1
  have hts := C.2.2.2.2
  refine lv_iload_n hx hb dX12_isDay_0 rfl (lv_at hl 0 rfl) ?_
  refine lv_iconst (v := (nI 0)) hx hb dX12_isDay_1 (by decide) ?_
  refine lv_sipush (v := (nI 999)) hx hb dX12_isDay_2 (by decide) ?_
  refine cSi0 (As := [.int p1, .int (nI 0), .int (nI 999)]) (rest := []) C hK hO (c_X12_in (l := l)) (va_cwS 3 hts gd_X12_74 rfl rfl rfl hd_X12_in (rok hR (Nat.le_of_ble_eq_true rfl) (Nat.le_of_ble_eq_true rfl))) rfl hl.1 rfl (Nat.le_of_ble_eq_true rfl) dX12_isDay_5 ⟨Nat.zero_le _, Nat.zero_le _⟩ (fun r_5 H locs e_5 hO => ?_)
  subst e_5
  exact rz0 hx hb hr hlk hK hO (z_X12_in p1 (nI 0) (nI 999)) (by unfold f_X12_isDay; rfl) hQQ dX12_isDay_8
def f_X12_areBeside  (p1 : Int32) (p2 : Int32) : Int32 := (if ((((p1 - p1 / (nI 6) * (nI 6)) - (p2 - p2 / (nI 6) * (nI 6))) * ((p1 - p1 / (nI 6) * (nI 6)) - (p2 - p2 / (nI 6) * (nI 6)))) + (((p1 / (nI 6)) - (p2 / (nI 6))) * ((p1 / (nI 6)) - (p2 / (nI 6))))) = (nI 1) then (nI 1) else (nI 0))
theorem z_X12_areBeside  (p1 : Int32) (p2 : Int32) : zb (f_X12_areBeside p1 p2) := by
  unfold f_X12_areBeside
  exact (zb_ite zb1 zb0)
set_option maxHeartbeats 4000000 in
set_option maxRecDepth 100000 in
theorem c_X12_areBeside {l : Launch} {D : va_G} {T : List (ClassId × FieldType)} {ws : va_W} {sz : Nat} {p1 : Int32} {p2 : Int32} : Met l yX12_areBeside (Cond.code yX12_areBeside cX12_areBeside 4 (some .boolean) :: wsG) ({ frames := 0, cells := 0, slots := 0, locals := 0 } : Room) (preW D T ws sz [.int p1, .int p2]) (qi0 D T (va_A ws sz) (fun r => r = f_X12_areBeside p1 p2) ws) 0 0 (va_A ws sz) := by
  refine st_met (cc := cX12_areBeside) (maxL := 4) (ret := (some .boolean)) (lv := [(0, .int p1), (1, .int p2)]) (Qc := fun A => qi0 D T A (fun r => r = f_X12_areBeside p1 p2) ws) (by decide) rfl (Nat.le_of_ble_eq_true rfl) rfl ?_
  intro p e s m below meth c ls A R args QQ H locs C hr hlk hnm hK hsz hl hO hR hQQ
  have hx := C.1
  have hb := C.2.1
  have hown := C.2.2.2.1
  have hts := C.2.2.2.2
  refine lv_iload_n hx hb dX12_areBeside_0 rfl (lv_at hl 0 rfl) ?_
  refine lv_bipush (v := (nI 6)) hx hb dX12_areBeside_1 (by decide) ?_
  refine lv_irem hx hb dX12_areBeside_3 (by decide) ?_
  refine lv_iload_n hx hb dX12_areBeside_4 rfl (lv_at hl 1 rfl) ?_
  refine lv_bipush (v := (nI 6)) hx hb dX12_areBeside_5 (by decide) ?_
  refine lv_irem hx hb dX12_areBeside_7 (by decide) ?_
  refine lv_isub hx hb dX12_areBeside_8 ?_
  refine lv_istore_n (lv' := [(2, .int ((p1 - p1 / (nI 6) * (nI 6)) - (p2 - p2 / (nI 6) * (nI 6)))), (0, .int p1), (1, .int p2)]) hx hb dX12_areBeside_9 rfl hl (by decide) rfl (fun ls hl => ?_)
  refine lv_iload_n hx hb dX12_areBeside_10 rfl (lv_at hl 1 rfl) ?_
  refine lv_bipush (v := (nI 6)) hx hb dX12_areBeside_11 (by decide) ?_
  refine lv_idiv hx hb dX12_areBeside_13 (by decide) ?_
  refine lv_iload_n hx hb dX12_areBeside_14 rfl (lv_at hl 2 rfl) ?_
  refine lv_bipush (v := (nI 6)) hx hb dX12_areBeside_15 (by decide) ?_
  refine lv_idiv hx hb dX12_areBeside_17 (by decide) ?_
  refine lv_isub hx hb dX12_areBeside_18 ?_
  refine lv_istore_n (lv' := [(3, .int ((p1 / (nI 6)) - (p2 / (nI 6)))), (2, .int ((p1 - p1 / (nI 6) * (nI 6)) - (p2 - p2 / (nI 6) * (nI 6)))), (0, .int p1), (1, .int p2)]) hx hb dX12_areBeside_19 rfl hl (by decide) rfl (fun ls hl => ?_)
  refine lv_iload_n hx hb dX12_areBeside_20 rfl (lv_at hl 1 rfl) ?_
  refine lv_iload_n hx hb dX12_areBeside_21 rfl (lv_at hl 1 rfl) ?_
  refine lv_imul hx hb dX12_areBeside_22 ?_
  refine lv_iload_n hx hb dX12_areBeside_23 rfl (lv_at hl 0 rfl) ?_
  refine lv_iload_n hx hb dX12_areBeside_24 rfl (lv_at hl 0 rfl) ?_
  refine lv_imul hx hb dX12_areBeside_25 ?_
  refine lv_iadd hx hb dX12_areBeside_26 ?_
  refine lv_iconst (v := (nI 1)) hx hb dX12_areBeside_27 (by decide) ?_
  refine lv_icmp_ne (tgt := 35) hx hb dX12_areBeside_28 (by decide) (fun q_28 => ?_) (fun q_28 => ?_)
  · refine lv_iconst (v := (nI 0)) hx hb dX12_areBeside_35 (by decide) ?_
    exact rz0 hx hb hr hlk hK hO zb0 (by unfold f_X12_areBeside; rw [if_neg q_28]) hQQ dX12_areBeside_36
  · refine lv_iconst (v := (nI 1)) hx hb dX12_areBeside_31 (by decide) ?_
    refine lv_goto (tgt := 36) hx hb dX12_areBeside_32 (by decide) ?_
    exact rz0 hx hb hr hlk hK hO zb1 (by unfold f_X12_areBeside; rw [if_pos q_28]) hQQ dX12_areBeside_36
def f_X12_here (k_s : Nat → Int32) (k_read : Int32) (k_spot : Int32)  : Int32 := (if (k_s (((nI 4450) + k_read)).toNatClampNeg) ≤ k_spot then (-1) else (k_s ((((nI 4750) + ((nI 120) * k_read)) + k_spot)).toNatClampNeg))
def ok_X12_here (k_s : Nat → Int32) (k_read : Int32) (k_spot : Int32)  : Prop := vp_in ((nI 4450) + k_read) 6700 ∧ (¬ (k_s (((nI 4450) + k_read)).toNatClampNeg) ≤ k_spot → (vp_in (((nI 4750) + ((nI 120) * k_read)) + k_spot) 6700))
set_option maxHeartbeats 4000000 in
set_option maxRecDepth 100000 in
theorem c_X12_here {l : Launch} {D : va_G} {cI cZ cJ : ClassId} {h : Nat} {ad : Nat → Nat} {sz : Nat} {k_thrown : Int32} {k_s : Nat → Int32} {k_image : Nat → Int32} {k_hasImage : Int32} {k_steps : Nat → Int32} {k_read : Int32} {k_spot : Int32} {k_isWrong : Int32} {k_open : Int32} {k_act : Int32} {k_letBy : Nat → Int32} {k_letStamp : Nat → Int32} {k_stamp : Int32} {k_fallen : Nat → Int32} {k_held : Nat → Int32} {k_stands : Nat → Int32} {k_falling : Nat → Int32} {k_away : Nat → Int32} {k_round : Nat → Int32} {k_rests : Nat → Int64} {k_may : Nat → Int32} {k_next : Nat → Int32} {k_could : Nat → Int32} {k_couldNight : Nat → Int32} {k_night : Int32} {k_seats : Nat → Int32}  (hw : ok_X12_here k_s k_read k_spot) : Met l yX12_here (Cond.code yX12_here cX12_here 1 (some .int) :: wsG) ({ frames := 0, cells := 0, slots := 0, locals := 0 } : Room) (preW D (tyM cI cZ cJ) (wM cI cZ cJ h ad k_thrown k_s k_image k_hasImage k_steps k_read k_spot k_isWrong k_open k_act k_letBy k_letStamp k_stamp k_fallen k_held k_stands k_falling k_away k_round k_rests k_may k_next k_could k_couldNight k_night k_seats) sz [.ref h]) (qi0 D (tyM cI cZ cJ) (va_A (wM cI cZ cJ h ad k_thrown k_s k_image k_hasImage k_steps k_read k_spot k_isWrong k_open k_act k_letBy k_letStamp k_stamp k_fallen k_held k_stands k_falling k_away k_round k_rests k_may k_next k_could k_couldNight k_night k_seats) sz) (fun r => r = f_X12_here k_s k_read k_spot) (wM cI cZ cJ h ad k_thrown k_s k_image k_hasImage k_steps k_read k_spot k_isWrong k_open k_act k_letBy k_letStamp k_stamp k_fallen k_held k_stands k_falling k_away k_round k_rests k_may k_next k_could k_couldNight k_night k_seats)) 0 0 (va_A (wM cI cZ cJ h ad k_thrown k_s k_image k_hasImage k_steps k_read k_spot k_isWrong k_open k_act k_letBy k_letStamp k_stamp k_fallen k_held k_stands k_falling k_away k_round k_rests k_may k_next k_could k_couldNight k_night k_seats) sz) := by
  refine st_met (cc := cX12_here) (maxL := 1) (ret := (some .int)) (lv := [(0, .ref h)]) (Qc := fun A => qi0 D (tyM cI cZ cJ) A (fun r => r = f_X12_here k_s k_read k_spot) (wM cI cZ cJ h ad k_thrown k_s k_image k_hasImage k_steps k_read k_spot k_isWrong k_open k_act k_letBy k_letStamp k_stamp k_fallen k_held k_stands k_falling k_away k_round k_rests k_may k_next k_could k_couldNight k_night k_seats)) (by decide) rfl (Nat.le_of_ble_eq_true rfl) rfl ?_
  intro p e s m below meth c ls A R args QQ H locs C hr hlk hnm hK hsz hl hO hR hQQ
  have hx := C.1
  have hb := C.2.1
  have hown := C.2.2.2.1
  have hts := C.2.2.2.2
  have hin : ∀ w ∈ u_ws RX12 TX12 26, w ∈ (Cond.code yX12_here cX12_here 1 (some .int) :: wsG) := fun w h9 => List.mem_cons_of_mem _ (inG12 w h9)
  have lk_spot := hts (Cond.fieldLink RX12 95 "FreeCityModel" "spot" "I") (List.mem_cons_of_mem _ qw5_212)
  have lk_s := hts (Cond.fieldLink RX12 7 "FreeCityModel" "s" "[I") (List.mem_cons_of_mem _ qw5_207)
  have lk_read := hts (Cond.fieldLink RX12 98 "FreeCityModel" "read" "I") (List.mem_cons_of_mem _ qw5_211)
  unfold ok_X12_here at hw
  have hs := hw
  obtain ⟨o_16, hs⟩ := hs
  refine lv_aload_n hx hb dX12_here_0 rfl (lv_at hl 0 rfl) ?_
  refine gM_spot C hin hK lk_spot hO dX12_here_1 ?_
  refine lv_aload_n hx hb dX12_here_4 rfl (lv_at hl 0 rfl) ?_
  refine gM_s C hin hK lk_s hO dX12_here_5 ?_
  refine lv_sipush (v := (nI 4450)) hx hb dX12_here_8 (by decide) ?_
  refine lv_aload_n hx hb dX12_here_11 rfl (lv_at hl 0 rfl) ?_
  refine gM_read C hin hK lk_read hO dX12_here_12 ?_
  refine lv_iadd hx hb dX12_here_15 ?_
  refine ldM_s C hK hO o_16 rfl dX12_here_16 ?_
  refine lv_icmp_ge (tgt := 44) hx hb dX12_here_17 (by decide) (fun q_17 => ?_) (fun q_17 => ?_)
  · refine lv_iconst (v := (-1)) hx hb dX12_here_44 (by decide) ?_
    exact ri0 hx hb hr hlk hK hO (by unfold f_X12_here; rw [if_pos q_17]) hQQ dX12_here_45
  · have hs := hs q_17
    have o_40 := hs
    refine lv_aload_n hx hb dX12_here_20 rfl (lv_at hl 0 rfl) ?_
    refine gM_s C hin hK lk_s hO dX12_here_21 ?_
    refine lv_sipush (v := (nI 4750)) hx hb dX12_here_24 (by decide) ?_
    refine lv_bipush (v := (nI 120)) hx hb dX12_here_27 (by decide) ?_
    refine lv_aload_n hx hb dX12_here_29 rfl (lv_at hl 0 rfl) ?_
    refine gM_read C hin hK lk_read hO dX12_here_30 ?_
    refine lv_imul hx hb dX12_here_33 ?_
    refine lv_iadd hx hb dX12_here_34 ?_
    refine lv_aload_n hx hb dX12_here_35 rfl (lv_at hl 0 rfl) ?_
    refine gM_spot C hin hK lk_spot hO dX12_here_36 ?_
    refine lv_iadd hx hb dX12_here_39 ?_
    refine ldM_s C hK hO o_40 rfl dX12_here_40 ?_
    refine lv_goto (tgt := 45) hx hb dX12_here_41 (by decide) ?_
    exact ri0 hx hb hr hlk hK hO (by unfold f_X12_here; rw [if_neg q_17]) hQQ dX12_here_45
def f_X12_leans (k_s : Nat → Int32) (p1 : Int32) (p2 : Int32) : Int32 := (if (k_s ((((nI 1910) + ((nI 50) * p1)) + p2)).toNatClampNeg) = (nI 1) then (nI 1) else (nI 0))
def ok_X12_leans (k_s : Nat → Int32) (p1 : Int32) (p2 : Int32) : Prop := vp_in (((nI 1910) + ((nI 50) * p1)) + p2) 6700
theorem z_X12_leans (k_s : Nat → Int32) (p1 : Int32) (p2 : Int32) : zb (f_X12_leans k_s p1 p2) := by
  unfold f_X12_leans
  exact (zb_ite zb1 zb0)
set_option maxHeartbeats 4000000 in
set_option maxRecDepth 100000 in
theorem c_X12_leans {l : Launch} {D : va_G} {cI cZ cJ : ClassId} {h : Nat} {ad : Nat → Nat} {sz : Nat} {k_thrown : Int32} {k_s : Nat → Int32} {k_image : Nat → Int32} {k_hasImage : Int32} {k_steps : Nat → Int32} {k_read : Int32} {k_spot : Int32} {k_isWrong : Int32} {k_open : Int32} {k_act : Int32} {k_letBy : Nat → Int32} {k_letStamp : Nat → Int32} {k_stamp : Int32} {k_fallen : Nat → Int32} {k_held : Nat → Int32} {k_stands : Nat → Int32} {k_falling : Nat → Int32} {k_away : Nat → Int32} {k_round : Nat → Int32} {k_rests : Nat → Int64} {k_may : Nat → Int32} {k_next : Nat → Int32} {k_could : Nat → Int32} {k_couldNight : Nat → Int32} {k_night : Int32} {k_seats : Nat → Int32} {p1 : Int32} {p2 : Int32} (hw : ok_X12_leans k_s p1 p2) : Met l yX12_leans (Cond.code yX12_leans cX12_leans 3 (some .boolean) :: wsG) ({ frames := 0, cells := 0, slots := 0, locals := 0 } : Room) (preW D (tyM cI cZ cJ) (wM cI cZ cJ h ad k_thrown k_s k_image k_hasImage k_steps k_read k_spot k_isWrong k_open k_act k_letBy k_letStamp k_stamp k_fallen k_held k_stands k_falling k_away k_round k_rests k_may k_next k_could k_couldNight k_night k_seats) sz [.ref h, .int p1, .int p2]) (qi0 D (tyM cI cZ cJ) (va_A (wM cI cZ cJ h ad k_thrown k_s k_image k_hasImage k_steps k_read k_spot k_isWrong k_open k_act k_letBy k_letStamp k_stamp k_fallen k_held k_stands k_falling k_away k_round k_rests k_may k_next k_could k_couldNight k_night k_seats) sz) (fun r => r = f_X12_leans k_s p1 p2) (wM cI cZ cJ h ad k_thrown k_s k_image k_hasImage k_steps k_read k_spot k_isWrong k_open k_act k_letBy k_letStamp k_stamp k_fallen k_held k_stands k_falling k_away k_round k_rests k_may k_next k_could k_couldNight k_night k_seats)) 0 0 (va_A (wM cI cZ cJ h ad k_thrown k_s k_image k_hasImage k_steps k_read k_spot k_isWrong k_open k_act k_letBy k_letStamp k_stamp k_fallen k_held k_stands k_falling k_away k_round k_rests k_may k_next k_could k_couldNight k_night k_seats) sz) := by
  refine st_met (cc := cX12_leans) (maxL := 3) (ret := (some .boolean)) (lv := [(0, .ref h), (1, .int p1), (2, .int p2)]) (Qc := fun A => qi0 D (tyM cI cZ cJ) A (fun r => r = f_X12_leans k_s p1 p2) (wM cI cZ cJ h ad k_thrown k_s k_image k_hasImage k_steps k_read k_spot k_isWrong k_open k_act k_letBy k_letStamp k_stamp k_fallen k_held k_stands k_falling k_away k_round k_rests k_may k_next k_could k_couldNight k_night k_seats)) (by decide) rfl (Nat.le_of_ble_eq_true rfl) rfl ?_
  intro p e s m below meth c ls A R args QQ H locs C hr hlk hnm hK hsz hl hO hR hQQ
  have hx := C.1
  have hb := C.2.1
  have hown := C.2.2.2.1
  have hts := C.2.2.2.2
  have hin : ∀ w ∈ u_ws RX12 TX12 26, w ∈ (Cond.code yX12_leans cX12_leans 3 (some .boolean) :: wsG) := fun w h9 => List.mem_cons_of_mem _ (inG12 w h9)
  have lk_s := hts (Cond.fieldLink RX12 7 "FreeCityModel" "s" "[I") (List.mem_cons_of_mem _ qw5_207)
  unfold ok_X12_leans at hw
  have hs := hw
  have o_14 := hs
  refine lv_aload_n hx hb dX12_leans_0 rfl (lv_at hl 0 rfl) ?_
  refine gM_s C hin hK lk_s hO dX12_leans_1 ?_
  refine lv_sipush (v := (nI 1910)) hx hb dX12_leans_4 (by decide) ?_
  refine lv_bipush (v := (nI 50)) hx hb dX12_leans_7 (by decide) ?_
  refine lv_iload_n hx hb dX12_leans_9 rfl (lv_at hl 1 rfl) ?_
  refine lv_imul hx hb dX12_leans_10 ?_
  refine lv_iadd hx hb dX12_leans_11 ?_
  refine lv_iload_n hx hb dX12_leans_12 rfl (lv_at hl 2 rfl) ?_
  refine lv_iadd hx hb dX12_leans_13 ?_
  refine ldM_s C hK hO o_14 rfl dX12_leans_14 ?_
  refine lv_iconst (v := (nI 1)) hx hb dX12_leans_15 (by decide) ?_
  refine lv_icmp_ne (tgt := 23) hx hb dX12_leans_16 (by decide) (fun q_16 => ?_) (fun q_16 => ?_)
  · refine lv_iconst (v := (nI 0)) hx hb dX12_leans_23 (by decide) ?_
    exact rz0 hx hb hr hlk hK hO zb0 (by unfold f_X12_leans; rw [if_neg q_16]) hQQ dX12_leans_24
  · refine lv_iconst (v := (nI 1)) hx hb dX12_leans_19 (by decide) ?_
    refine lv_goto (tgt := 24) hx hb dX12_leans_20 (by decide) ?_
    exact rz0 hx hb hr hlk hK hO zb1 (by unfold f_X12_leans; rw [if_pos q_16]) hQQ dX12_leans_24
def f_X12_isOf (k_s : Nat → Int32) (p1 : Int32) (p2 : Int32) : Int32 := (if (f_X12_in p1 (nI 0) ((k_s 2) - (nI 1))) = 0 then (nI 0) else (if (k_s (((nI 1310) + p1)).toNatClampNeg) = p2 then (nI 1) else (nI 0)))
def ok_X12_isOf (k_s : Nat → Int32) (p1 : Int32) (p2 : Int32) : Prop := (¬ (f_X12_in p1 (nI 0) ((k_s 2) - (nI 1))) = 0 → (vp_in ((nI 1310) + p1) 6700))
theorem z_X12_isOf (k_s : Nat → Int32) (p1 : Int32) (p2 : Int32) : zb (f_X12_isOf k_s p1 p2) := by
  unfold f_X12_isOf
  exact (zb_ite zb0 (zb_ite zb1 zb0))
set_option maxHeartbeats 4000000 in
set_option maxRecDepth 100000 in
theorem c_X12_isOf {l : Launch} {D : va_G} {cI cZ cJ : ClassId} {h : Nat} {ad : Nat → Nat} {sz : Nat} {k_thrown : Int32} {k_s : Nat → Int32} {k_image : Nat → Int32} {k_hasImage : Int32} {k_steps : Nat → Int32} {k_read : Int32} {k_spot : Int32} {k_isWrong : Int32} {k_open : Int32} {k_act : Int32} {k_letBy : Nat → Int32} {k_letStamp : Nat → Int32} {k_stamp : Int32} {k_fallen : Nat → Int32} {k_held : Nat → Int32} {k_stands : Nat → Int32} {k_falling : Nat → Int32} {k_away : Nat → Int32} {k_round : Nat → Int32} {k_rests : Nat → Int64} {k_may : Nat → Int32} {k_next : Nat → Int32} {k_could : Nat → Int32} {k_couldNight : Nat → Int32} {k_night : Int32} {k_seats : Nat → Int32} {p1 : Int32} {p2 : Int32} (hw : ok_X12_isOf k_s p1 p2) : Met l yX12_isOf (Cond.code yX12_isOf cX12_isOf 3 (some .boolean) :: wsG) ({ frames := 1, cells := 0, slots := 0, locals := 22 } : Room) (preW D (tyM cI cZ cJ) (wM cI cZ cJ h ad k_thrown k_s k_image k_hasImage k_steps k_read k_spot k_isWrong k_open k_act k_letBy k_letStamp k_stamp k_fallen k_held k_stands k_falling k_away k_round k_rests k_may k_next k_could k_couldNight k_night k_seats) sz [.ref h, .int p1, .int p2]) (qi0 D (tyM cI cZ cJ) (va_A (wM cI cZ cJ h ad k_thrown k_s k_image k_hasImage k_steps k_read k_spot k_isWrong k_open k_act k_letBy k_letStamp k_stamp k_fallen k_held k_stands k_falling k_away k_round k_rests k_may k_next k_could k_couldNight k_night k_seats) sz) (fun r => r = f_X12_isOf k_s p1 p2) (wM cI cZ cJ h ad k_thrown k_s k_image k_hasImage k_steps k_read k_spot k_isWrong k_open k_act k_letBy k_letStamp k_stamp k_fallen k_held k_stands k_falling k_away k_round k_rests k_may k_next k_could k_couldNight k_night k_seats)) 0 0 (va_A (wM cI cZ cJ h ad k_thrown k_s k_image k_hasImage k_steps k_read k_spot k_isWrong k_open k_act k_letBy k_letStamp k_stamp k_fallen k_held k_stands k_falling k_away k_round k_rests k_may k_next k_could k_couldNight k_night k_seats) sz) := by
  refine st_met (cc := cX12_isOf) (maxL := 3) (ret := (some .boolean)) (lv := [(0, .ref h), (1, .int p1), (2, .int p2)]) (Qc := fun A => qi0 D (tyM cI cZ cJ) A (fun r => r = f_X12_isOf k_s p1 p2) (wM cI cZ cJ h ad k_thrown k_s k_image k_hasImage k_steps k_read k_spot k_isWrong k_open k_act k_letBy k_letStamp k_stamp k_fallen k_held k_stands k_falling k_away k_round k_rests k_may k_next k_could k_couldNight k_night k_seats)) (by decide) rfl (Nat.le_of_ble_eq_true rfl) rfl ?_
  intro p e s m below meth c ls A R args QQ H locs C hr hlk hnm hK hsz hl hO hR hQQ
  have hx := C.1
  have hb := C.2.1
  have hown := C.2.2.2.1
  have hts := C.2.2.2.2
  have hin : ∀ w ∈ u_ws RX12 TX12 26, w ∈ (Cond.code yX12_isOf cX12_isOf 3 (some .boolean) :: wsG) := fun w h9 => List.mem_cons_of_mem _ (inG12 w h9)
  have lk_s := hts (Cond.fieldLink RX12 7 "FreeCityModel" "s" "[I") (List.mem_cons_of_mem _ qw5_207)
  unfold ok_X12_isOf at hw
  have hs := hw
  refine lv_iload_n hx hb dX12_isOf_0 rfl (lv_at hl 1 rfl) ?_
  refine lv_iconst (v := (nI 0)) hx hb dX12_isOf_1 (by decide) ?_
  refine lv_aload_n hx hb dX12_isOf_2 rfl (lv_at hl 0 rfl) ?_
  refine gM_s C hin hK lk_s hO dX12_isOf_3 ?_
  refine lv_iconst (v := (nI 2)) hx hb dX12_isOf_6 (by decide) ?_
  refine ldM_s C hK hO (inK 2 6700 (by decide) (by decide)) (clK 2 (by decide)) dX12_isOf_7 ?_
  refine lv_iconst (v := (nI 1)) hx hb dX12_isOf_8 (by decide) ?_
  refine lv_isub hx hb dX12_isOf_9 ?_
  refine cSi0 (As := [.int p1, .int (nI 0), .int ((k_s 2) - (nI 1))]) (rest := []) C hK hO (c_X12_in (l := l)) (va_cwS 3 hts gd_X12_74 rfl rfl rfl hd_X12_in (rok hR (Nat.le_of_ble_eq_true rfl) (Nat.le_of_ble_eq_true rfl))) rfl hl.1 rfl (Nat.le_of_ble_eq_true rfl) dX12_isOf_10 ⟨Nat.zero_le _, Nat.zero_le _⟩ (fun r_10 H locs e_10 hO => ?_)
  subst e_10
  refine lv_if_eq (tgt := 34) hx hb dX12_isOf_13 (by decide) (fun q_13 => ?_) (fun q_13 => ?_)
  · refine lv_iconst (v := (nI 0)) hx hb dX12_isOf_34 (by decide) ?_
    exact rz0 hx hb hr hlk hK hO zb0 (by unfold f_X12_isOf; rw [if_pos q_13]) hQQ dX12_isOf_35
  · have hs := hs q_13
    have o_25 := hs
    refine lv_aload_n hx hb dX12_isOf_16 rfl (lv_at hl 0 rfl) ?_
    refine gM_s C hin hK lk_s hO dX12_isOf_17 ?_
    refine lv_sipush (v := (nI 1310)) hx hb dX12_isOf_20 (by decide) ?_
    refine lv_iload_n hx hb dX12_isOf_23 rfl (lv_at hl 1 rfl) ?_
    refine lv_iadd hx hb dX12_isOf_24 ?_
    refine ldM_s C hK hO o_25 rfl dX12_isOf_25 ?_
    refine lv_iload_n hx hb dX12_isOf_26 rfl (lv_at hl 2 rfl) ?_
    refine lv_icmp_ne (tgt := 34) hx hb dX12_isOf_27 (by decide) (fun q_27 => ?_) (fun q_27 => ?_)
    · refine lv_iconst (v := (nI 0)) hx hb dX12_isOf_34 (by decide) ?_
      exact rz0 hx hb hr hlk hK hO zb0 (by unfold f_X12_isOf; rw [if_neg q_13, if_neg q_27]) hQQ dX12_isOf_35
    · refine lv_iconst (v := (nI 1)) hx hb dX12_isOf_30 (by decide) ?_
      refine lv_goto (tgt := 35) hx hb dX12_isOf_31 (by decide) ?_
      exact rz0 hx hb hr hlk hK hO zb1 (by unfold f_X12_isOf; rw [if_neg q_13, if_pos q_27]) hQQ dX12_isOf_35
theorem gd_X12_78 {a : Cond} : GoodIn (a :: wsG) (va_wsS RX12 78 yX12_isSpot (Cond.code yX12_isSpot cX12_isSpot 1 (some .boolean) :: wsG)) := gdS qw6_49 qw6_50 qw1_12 qw6_51
theorem hd_X12_isSpot : yX12_isSpot.cls ≠ "java/lang/invoke/MethodHandle" ∧ yX12_isSpot.cls ≠ "java/lang/invoke/VarHandle" ∧ (parseMethodDescriptor yX12_isSpot.desc).map (fun d => d.parameters.length) = some 1 := by decide +kernel
def wb_X12_yard_70 (p1 : Int32) (p2 : Int32) (k_s : Nat → Int32) (k_stamp : Int32) (k_night : Int32) (Q : Int32 → (Nat → Int32) → (Int32) → (Int32) → Prop) (x_128 : Int32) (y0_106 : Int32) (L_70 : Int32 → Int32 → Prop) (v3_70 : Int32) (v4_70 : Int32) : Prop := (((k_s 6) ≤ v4_70 → ((¬ v3_70 = 0 → (vp_in ((nI 20) + p1) 6700 ∧ (∀ x_128 : Int32, x_128 = (k_s (((nI 20) + p1)).toNatClampNeg) → (vp_in ((nI 20) + p1) 6700 ∧ (Q x_128 (upd k_s ((((nI 20) + p1)).toNatClampNeg) p2) (k_stamp + (nI 1)) (k_night + (nI 1))))))) ∧ (v3_70 = 0 → (Q (-3) k_s k_stamp k_night)))) ∧ (¬ (k_s 6) ≤ v4_70 → (((¬ v3_70 = 0 → (vp_in ((nI 230) + v4_70) 6700))) ∧ (∀ y0_106 : Int32, y0_106 = (if v3_70 = 0 then (nI 0) else (if (k_s (((nI 230) + v4_70)).toNatClampNeg) = p1 then (nI 0) else (nI 1))) → (L_70 y0_106 (v4_70 + (nI 1)))))))
def wl_X12_yard_70 (p1 : Int32) (p2 : Int32) (k_s : Nat → Int32) (k_stamp : Int32) (k_night : Int32) (Q : Int32 → (Nat → Int32) → (Int32) → (Int32) → Prop) (x_128 : Int32) (y0_106 : Int32) : Nat → Int32 → Int32 → Prop
  | 0, _, _ => False
  | n + 1, v3_70, v4_70 => wb_X12_yard_70 p1 p2 k_s k_stamp k_night Q x_128 y0_106 (wl_X12_yard_70 p1 p2 k_s k_stamp k_night Q x_128 y0_106 n) v3_70 v4_70
def wb_X12_yard_26 (p1 : Int32) (p2 : Int32) (k_s : Nat → Int32) (k_stamp : Int32) (k_night : Int32) (Q : Int32 → (Nat → Int32) → (Int32) → (Int32) → Prop) (x_128 : Int32) (y0_106 : Int32) (y0_60 : Int32) (L_26 : Int32 → Int32 → Prop) (v3_26 : Int32) (v4_26 : Int32) : Prop := (((k_s 3) ≤ v4_26 → (∃ n, wl_X12_yard_70 p1 p2 k_s k_stamp k_night Q x_128 y0_106 n v3_26 (nI 0))) ∧ (¬ (k_s 3) ≤ v4_26 → (((¬ v3_26 = 0 → (vp_in ((nI 114) + v4_26) 6700))) ∧ (∀ y0_60 : Int32, y0_60 = (if v3_26 = 0 then (nI 0) else (if (k_s (((nI 114) + v4_26)).toNatClampNeg) = p1 then (nI 0) else (nI 1))) → (L_26 y0_60 (v4_26 + (nI 1)))))))
def wl_X12_yard_26 (p1 : Int32) (p2 : Int32) (k_s : Nat → Int32) (k_stamp : Int32) (k_night : Int32) (Q : Int32 → (Nat → Int32) → (Int32) → (Int32) → Prop) (x_128 : Int32) (y0_106 : Int32) (y0_60 : Int32) : Nat → Int32 → Int32 → Prop
  | 0, _, _ => False
  | n + 1, v3_26, v4_26 => wb_X12_yard_26 p1 p2 k_s k_stamp k_night Q x_128 y0_106 y0_60 (wl_X12_yard_26 p1 p2 k_s k_stamp k_night Q x_128 y0_106 y0_60 n) v3_26 v4_26
def wp_X12_yard (p1 : Int32) (p2 : Int32) (k_s : Nat → Int32) (k_stamp : Int32) (k_night : Int32) (Q : Int32 → (Nat → Int32) → (Int32) → (Int32) → Prop) : Prop := ((¬ (f_X12_isSpot p1) = 0 → ((¬ (f_X12_in p2 (nI 0) (nI 5)) = 0 → (∃ n, wl_X12_yard_26 p1 p2 k_s k_stamp k_night Q x_128 y0_106 y0_60 n (nI 1) (nI 0))) ∧ ((f_X12_in p2 (nI 0) (nI 5)) = 0 → (Q (-2) k_s k_stamp k_night)))) ∧ ((f_X12_isSpot p1) = 0 → (Q (-1) k_s k_stamp k_night)))
set_option maxHeartbeats 4000000 in
set_option maxRecDepth 100000 in
theorem c_X12_yard {l : Launch} {D : va_G} {cI cZ cJ : ClassId} {h : Nat} {ad : Nat → Nat} {sz : Nat} {k_thrown : Int32} {k_s : Nat → Int32} {k_image : Nat → Int32} {k_hasImage : Int32} {k_steps : Nat → Int32} {k_read : Int32} {k_spot : Int32} {k_isWrong : Int32} {k_open : Int32} {k_act : Int32} {k_letBy : Nat → Int32} {k_letStamp : Nat → Int32} {k_stamp : Int32} {k_fallen : Nat → Int32} {k_held : Nat → Int32} {k_stands : Nat → Int32} {k_falling : Nat → Int32} {k_away : Nat → Int32} {k_round : Nat → Int32} {k_rests : Nat → Int64} {k_may : Nat → Int32} {k_next : Nat → Int32} {k_could : Nat → Int32} {k_couldNight : Nat → Int32} {k_night : Int32} {k_seats : Nat → Int32} {p1 : Int32} {p2 : Int32} {Q : Int32 → (Nat → Int32) → (Int32) → (Int32) → Prop} (hw : wp_X12_yard p1 p2 k_s k_stamp k_night Q) : Met l yX12_yard (Cond.code yX12_yard cX12_yard 5 (some .int) :: wsG) ({ frames := 2, cells := 0, slots := 0, locals := 42 } : Room) (preW D (tyM cI cZ cJ) (wM cI cZ cJ h ad k_thrown k_s k_image k_hasImage k_steps k_read k_spot k_isWrong k_open k_act k_letBy k_letStamp k_stamp k_fallen k_held k_stands k_falling k_away k_round k_rests k_may k_next k_could k_couldNight k_night k_seats) sz [.ref h, .int p1, .int p2]) (qi3 D (tyM cI cZ cJ) (va_A (wM cI cZ cJ h ad k_thrown k_s k_image k_hasImage k_steps k_read k_spot k_isWrong k_open k_act k_letBy k_letStamp k_stamp k_fallen k_held k_stands k_falling k_away k_round k_rests k_may k_next k_could k_couldNight k_night k_seats) sz) Q (fun k_s' k_stamp' k_night' => (wM cI cZ cJ h ad k_thrown k_s' k_image k_hasImage k_steps k_read k_spot k_isWrong k_open k_act k_letBy k_letStamp k_stamp' k_fallen k_held k_stands k_falling k_away k_round k_rests k_may k_next k_could k_couldNight k_night' k_seats))) 0 0 (va_A (wM cI cZ cJ h ad k_thrown k_s k_image k_hasImage k_steps k_read k_spot k_isWrong k_open k_act k_letBy k_letStamp k_stamp k_fallen k_held k_stands k_falling k_away k_round k_rests k_may k_next k_could k_couldNight k_night k_seats) sz) := by
  refine st_met (cc := cX12_yard) (maxL := 5) (ret := (some .int)) (lv := [(0, .ref h), (1, .int p1), (2, .int p2)]) (Qc := fun A => qi3 D (tyM cI cZ cJ) A Q (fun k_s' k_stamp' k_night' => (wM cI cZ cJ h ad k_thrown k_s' k_image k_hasImage k_steps k_read k_spot k_isWrong k_open k_act k_letBy k_letStamp k_stamp' k_fallen k_held k_stands k_falling k_away k_round k_rests k_may k_next k_could k_couldNight k_night' k_seats))) (by decide) rfl (Nat.le_of_ble_eq_true rfl) rfl ?_
  intro p e s m below meth c ls A R args QQ H locs C hr hlk hnm hK hsz hl hO hR hQQ
  have hx := C.1
  have hb := C.2.1
  have hown := C.2.2.2.1
  have hts := C.2.2.2.2
  have hin : ∀ w ∈ u_ws RX12 TX12 26, w ∈ (Cond.code yX12_yard cX12_yard 5 (some .int) :: wsG) := fun w h9 => List.mem_cons_of_mem _ (inG12 w h9)
  have lk_s := hts (Cond.fieldLink RX12 7 "FreeCityModel" "s" "[I") (List.mem_cons_of_mem _ qw5_207)
  have lk_stamp := hts (Cond.fieldLink RX12 27 "FreeCityModel" "stamp" "I") (List.mem_cons_of_mem _ qw5_218)
  have lk_night := hts (Cond.fieldLink RX12 65 "FreeCityModel" "night" "I") (List.mem_cons_of_mem _ qw5_230)
  unfold wp_X12_yard at hw
  refine lv_iload_n hx hb dX12_yard_0 rfl (lv_at hl 1 rfl) ?_
  refine cSi0 (As := [.int p1]) (rest := []) C hK hO (c_X12_isSpot (l := l)) (va_cwS 1 hts gd_X12_78 rfl rfl rfl hd_X12_isSpot (rok hR (Nat.le_of_ble_eq_true rfl) (Nat.le_of_ble_eq_true rfl))) rfl hl.1 rfl (Nat.le_of_ble_eq_true rfl) dX12_yard_1 ⟨Nat.zero_le _, Nat.zero_le _⟩ (fun r_1 H locs e_1 hO => ?_)
  subst e_1
  refine lv_if_ne (tgt := 9) hx hb dX12_yard_4 (by decide) (fun q_4 => ?_) (fun q_4 => ?_)
  · have hw := hw.1 q_4
    refine lv_iload_n hx hb dX12_yard_9 rfl (lv_at hl 2 rfl) ?_
    refine lv_iconst (v := (nI 0)) hx hb dX12_yard_10 (by decide) ?_
    refine lv_iconst (v := (nI 5)) hx hb dX12_yard_11 (by decide) ?_
    refine cSi0 (As := [.int p2, .int (nI 0), .int (nI 5)]) (rest := []) C hK hO (c_X12_in (l := l)) (va_cwS 3 hts gd_X12_74 rfl rfl rfl hd_X12_in (rok hR (Nat.le_of_ble_eq_true rfl) (Nat.le_of_ble_eq_true rfl))) rfl hl.1 rfl (Nat.le_of_ble_eq_true rfl) dX12_yard_12 ⟨Nat.zero_le _, Nat.zero_le _⟩ (fun r_12 H locs e_12 hO => ?_)
    subst e_12
    refine lv_if_ne (tgt := 21) hx hb dX12_yard_15 (by decide) (fun q_15 => ?_) (fun q_15 => ?_)
    · have hw := hw.1 q_15
      refine lv_iconst (v := (nI 1)) hx hb dX12_yard_21 (by decide) ?_
      refine lv_istore_n (lv' := [(3, .int (nI 1)), (0, .ref h), (1, .int p1), (2, .int p2)]) hx hb dX12_yard_22 rfl hl (by decide) rfl (fun ls hl => ?_)
      refine lv_iconst (v := (nI 0)) hx hb dX12_yard_23 (by decide) ?_
      refine lv_istore (lv' := [(4, .int (nI 0)), (3, .int (nI 1)), (0, .ref h), (1, .int p1), (2, .int p2)]) hx hb dX12_yard_24 hl (by decide) rfl (fun ls hl => ?_)
      obtain ⟨n_26, hw⟩ := hw
      have b_26 : ∀ (L_26 : Int32 → Int32 → Prop) (ih_26 : ∀ (v3_26 : Int32) (v4_26 : Int32) (H : Heap) (locs : List Loc) (ls : Array Slot), okW D A s.heap H locs (wM cI cZ cJ h ad k_thrown k_s k_image k_hasImage k_steps k_read k_spot k_isWrong k_open k_act k_letBy k_letStamp k_stamp k_fallen k_held k_stands k_falling k_away k_round k_rests k_may k_next k_could k_couldNight k_night k_seats) → lv_has ls 5 [(0, .ref h), (1, .int p1), (2, .int p2), (3, .int v3_26), (4, .int v4_26)] → L_26 v3_26 v4_26 → W p l e R s m args below meth c H locs 0 0 QQ (F0 m 26 ls [])) (v3_26 : Int32) (v4_26 : Int32) (H : Heap) (locs : List Loc) (ls : Array Slot), okW D A s.heap H locs (wM cI cZ cJ h ad k_thrown k_s k_image k_hasImage k_steps k_read k_spot k_isWrong k_open k_act k_letBy k_letStamp k_stamp k_fallen k_held k_stands k_falling k_away k_round k_rests k_may k_next k_could k_couldNight k_night k_seats) → lv_has ls 5 [(0, .ref h), (1, .int p1), (2, .int p2), (3, .int v3_26), (4, .int v4_26)] → wb_X12_yard_26 p1 p2 k_s k_stamp k_night Q x_128 y0_106 y0_60 L_26 v3_26 v4_26 → W p l e R s m args below meth c H locs 0 0 QQ (F0 m 26 ls []) := by
        intro L_26 ih_26 v3_26 v4_26 H locs ls hO hl hw
        unfold wb_X12_yard_26 at hw
        refine lv_iload hx hb dX12_yard_26 (lv_at hl 4 rfl) ?_
        refine lv_aload_n hx hb dX12_yard_28 rfl (lv_at hl 0 rfl) ?_
        refine gM_s C hin hK lk_s hO dX12_yard_29 ?_
        refine lv_iconst (v := (nI 3)) hx hb dX12_yard_32 (by decide) ?_
        refine ldM_s C hK hO (inK 3 6700 (by decide) (by decide)) (clK 3 (by decide)) dX12_yard_33 ?_
        refine lv_icmp_ge (tgt := 67) hx hb dX12_yard_34 (by decide) (fun q_34 => ?_) (fun q_34 => ?_)
        · have hw := hw.1 q_34
          refine lv_iconst (v := (nI 0)) hx hb dX12_yard_67 (by decide) ?_
          refine lv_istore (lv' := [(4, .int (nI 0)), (0, .ref h), (1, .int p1), (2, .int p2), (3, .int v3_26)]) hx hb dX12_yard_68 hl (by decide) rfl (fun ls hl => ?_)
          obtain ⟨n_70, hw⟩ := hw
          have b_70 : ∀ (L_70 : Int32 → Int32 → Prop) (ih_70 : ∀ (v3_70 : Int32) (v4_70 : Int32) (H : Heap) (locs : List Loc) (ls : Array Slot), okW D A s.heap H locs (wM cI cZ cJ h ad k_thrown k_s k_image k_hasImage k_steps k_read k_spot k_isWrong k_open k_act k_letBy k_letStamp k_stamp k_fallen k_held k_stands k_falling k_away k_round k_rests k_may k_next k_could k_couldNight k_night k_seats) → lv_has ls 5 [(0, .ref h), (1, .int p1), (2, .int p2), (3, .int v3_70), (4, .int v4_70)] → L_70 v3_70 v4_70 → W p l e R s m args below meth c H locs 0 0 QQ (F0 m 70 ls [])) (v3_70 : Int32) (v4_70 : Int32) (H : Heap) (locs : List Loc) (ls : Array Slot), okW D A s.heap H locs (wM cI cZ cJ h ad k_thrown k_s k_image k_hasImage k_steps k_read k_spot k_isWrong k_open k_act k_letBy k_letStamp k_stamp k_fallen k_held k_stands k_falling k_away k_round k_rests k_may k_next k_could k_couldNight k_night k_seats) → lv_has ls 5 [(0, .ref h), (1, .int p1), (2, .int p2), (3, .int v3_70), (4, .int v4_70)] → wb_X12_yard_70 p1 p2 k_s k_stamp k_night Q x_128 y0_106 L_70 v3_70 v4_70 → W p l e R s m args below meth c H locs 0 0 QQ (F0 m 70 ls []) := by
            intro L_70 ih_70 v3_70 v4_70 H locs ls hO hl hw
            unfold wb_X12_yard_70 at hw
            refine lv_iload hx hb dX12_yard_70 (lv_at hl 4 rfl) ?_
            refine lv_aload_n hx hb dX12_yard_72 rfl (lv_at hl 0 rfl) ?_
            refine gM_s C hin hK lk_s hO dX12_yard_73 ?_
            refine lv_bipush (v := (nI 6)) hx hb dX12_yard_76 (by decide) ?_
            refine ldM_s C hK hO (inK 6 6700 (by decide) (by decide)) (clK 6 (by decide)) dX12_yard_78 ?_
            refine lv_icmp_ge (tgt := 113) hx hb dX12_yard_79 (by decide) (fun q_79 => ?_) (fun q_79 => ?_)
            · have hw := hw.1 q_79
              refine lv_iload_n hx hb dX12_yard_113 rfl (lv_at hl 3 rfl) ?_
              refine lv_if_ne (tgt := 120) hx hb dX12_yard_114 (by decide) (fun q_114 => ?_) (fun q_114 => ?_)
              · have hw := hw.1 q_114
                refine lv_aload_n hx hb dX12_yard_120 rfl (lv_at hl 0 rfl) ?_
                refine gM_s C hin hK lk_s hO dX12_yard_121 ?_
                refine lv_bipush (v := (nI 20)) hx hb dX12_yard_124 (by decide) ?_
                refine lv_iload_n hx hb dX12_yard_126 rfl (lv_at hl 1 rfl) ?_
                refine lv_iadd hx hb dX12_yard_127 ?_
                obtain ⟨o_128, hw⟩ := hw
                refine ldM_s C hK hO o_128 rfl dX12_yard_128 ?_
                refine lv_topi (fun x_128 ex_128 => ?_)
                have hw := hw x_128 ex_128
                refine lv_istore (lv' := [(4, .int x_128), (0, .ref h), (1, .int p1), (2, .int p2), (3, .int v3_70)]) hx hb dX12_yard_129 hl (by decide) rfl (fun ls hl => ?_)
                refine lv_aload_n hx hb dX12_yard_131 rfl (lv_at hl 1 rfl) ?_
                refine gM_s C hin hK lk_s hO dX12_yard_132 ?_
                refine lv_bipush (v := (nI 20)) hx hb dX12_yard_135 (by decide) ?_
                refine lv_iload_n hx hb dX12_yard_137 rfl (lv_at hl 2 rfl) ?_
                refine lv_iadd hx hb dX12_yard_138 ?_
                refine lv_iload_n hx hb dX12_yard_139 rfl (lv_at hl 3 rfl) ?_
                obtain ⟨o_140, hw⟩ := hw
                refine stM_s C hK hO o_140 rfl dX12_yard_140 (fun H locs hO => ?_)
                refine lv_aload_n hx hb dX12_yard_141 rfl (lv_at hl 1 rfl) ?_
                refine lv_dup hx hb dX12_yard_142 rfl ?_
                refine gM_stamp C hin hK lk_stamp hO dX12_yard_143 ?_
                refine lv_iconst (v := (nI 1)) hx hb dX12_yard_146 (by decide) ?_
                refine lv_iadd hx hb dX12_yard_147 ?_
                refine pM_stamp C hin hK lk_stamp hO dX12_yard_148 (fun H locs hO => ?_)
                refine lv_aload_n hx hb dX12_yard_151 rfl (lv_at hl 1 rfl) ?_
                refine lv_dup hx hb dX12_yard_152 rfl ?_
                refine gM_night C hin hK lk_night hO dX12_yard_153 ?_
                refine lv_iconst (v := (nI 1)) hx hb dX12_yard_156 (by decide) ?_
                refine lv_iadd hx hb dX12_yard_157 ?_
                refine pM_night C hin hK lk_night hO dX12_yard_158 (fun H locs hO => ?_)
                refine lv_iload hx hb dX12_yard_161 (lv_at hl 0 rfl) ?_
                exact ri3 hx hb hr hlk hK hO hw hQQ dX12_yard_163
              · have hw := hw.2 q_114
                refine lv_bipush (v := (-3)) hx hb dX12_yard_117 (by decide) ?_
                exact ri3 hx hb hr hlk hK hO hw hQQ dX12_yard_119
            · have hw := hw.2 q_79
              refine lv_iload_n hx hb dX12_yard_82 rfl (lv_at hl 3 rfl) ?_
              obtain ⟨hs, hw⟩ := hw
              have m_106 : ∀ (y0_106 : Int32) (ls : Array Slot), y0_106 = (if v3_70 = 0 then (nI 0) else (if (k_s (((nI 230) + v4_70)).toNatClampNeg) = p1 then (nI 0) else (nI 1))) → lv_has ls 5 [(0, .ref h), (1, .int p1), (2, .int p2), (4, .int v4_70)] → W p l e R s m args below meth c H locs 0 0 QQ (F0 m 106 ls [.int y0_106]) := by
                intro y0_106 ls ey0_106 hl
                have hw := hw y0_106 ey0_106
                refine lv_istore_n (lv' := [(3, .int y0_106), (0, .ref h), (1, .int p1), (2, .int p2), (4, .int v4_70)]) hx hb dX12_yard_106 rfl hl (by decide) rfl (fun ls hl => ?_)
                refine lv_iinc (v := (v4_70 + (nI 1))) (lv' := [(4, .int (v4_70 + (nI 1))), (3, .int y0_106), (0, .ref h), (1, .int p1), (2, .int p2)]) hx hb dX12_yard_107 hl (k := 4) rfl (iinc_1 _) (by decide) rfl (fun ls hl => ?_)
                refine lv_goto (tgt := 70) hx hb dX12_yard_110 (by decide) ?_
                exact ih_70 y0_106 (v4_70 + (nI 1)) _ _ _ hO (lv_sub hl [2, 3, 4, 1, 0] rfl) hw
              refine lv_if_eq (tgt := 105) hx hb dX12_yard_83 (by decide) (fun q_83 => ?_) (fun q_83 => ?_)
              · refine lv_iconst (v := (nI 0)) hx hb dX12_yard_105 (by decide) ?_
                exact m_106 _ _ (by rw [if_pos q_83]) (lv_sub hl [0, 1, 2, 4] rfl)
              · have hs := hs q_83
                have o_96 := hs
                refine lv_aload_n hx hb dX12_yard_86 rfl (lv_at hl 0 rfl) ?_
                refine gM_s C hin hK lk_s hO dX12_yard_87 ?_
                refine lv_sipush (v := (nI 230)) hx hb dX12_yard_90 (by decide) ?_
                refine lv_iload hx hb dX12_yard_93 (lv_at hl 4 rfl) ?_
                refine lv_iadd hx hb dX12_yard_95 ?_
                refine ldM_s C hK hO o_96 rfl dX12_yard_96 ?_
                refine lv_iload_n hx hb dX12_yard_97 rfl (lv_at hl 1 rfl) ?_
                refine lv_icmp_eq (tgt := 105) hx hb dX12_yard_98 (by decide) (fun q_98 => ?_) (fun q_98 => ?_)
                · refine lv_iconst (v := (nI 0)) hx hb dX12_yard_105 (by decide) ?_
                  exact m_106 _ _ (by rw [if_neg q_83, if_pos q_98]) (lv_sub hl [0, 1, 2, 4] rfl)
                · refine lv_iconst (v := (nI 1)) hx hb dX12_yard_101 (by decide) ?_
                  refine lv_goto (tgt := 106) hx hb dX12_yard_102 (by decide) ?_
                  exact m_106 _ _ (by rw [if_neg q_83, if_neg q_98]) (lv_sub hl [0, 1, 2, 4] rfl)
          have l_70 : ∀ (n : Nat) (v3_70 : Int32) (v4_70 : Int32) (H : Heap) (locs : List Loc) (ls : Array Slot), okW D A s.heap H locs (wM cI cZ cJ h ad k_thrown k_s k_image k_hasImage k_steps k_read k_spot k_isWrong k_open k_act k_letBy k_letStamp k_stamp k_fallen k_held k_stands k_falling k_away k_round k_rests k_may k_next k_could k_couldNight k_night k_seats) → lv_has ls 5 [(0, .ref h), (1, .int p1), (2, .int p2), (3, .int v3_70), (4, .int v4_70)] → wl_X12_yard_70 p1 p2 k_s k_stamp k_night Q x_128 y0_106 n v3_70 v4_70 → W p l e R s m args below meth c H locs 0 0 QQ (F0 m 70 ls []) := by
            intro n
            induction n with
            | zero => intro v3_70 v4_70 H locs ls hO hl hw; exact False.elim hw
            | succ n ih => exact b_70 _ ih
          exact l_70 n_70 v3_26 (nI 0) _ _ _ hO (lv_sub hl [1, 2, 3, 4, 0] rfl) hw
        · have hw := hw.2 q_34
          refine lv_iload_n hx hb dX12_yard_37 rfl (lv_at hl 3 rfl) ?_
          obtain ⟨hs, hw⟩ := hw
          have m_60 : ∀ (y0_60 : Int32) (ls : Array Slot), y0_60 = (if v3_26 = 0 then (nI 0) else (if (k_s (((nI 114) + v4_26)).toNatClampNeg) = p1 then (nI 0) else (nI 1))) → lv_has ls 5 [(0, .ref h), (1, .int p1), (2, .int p2), (4, .int v4_26)] → W p l e R s m args below meth c H locs 0 0 QQ (F0 m 60 ls [.int y0_60]) := by
            intro y0_60 ls ey0_60 hl
            have hw := hw y0_60 ey0_60
            refine lv_istore_n (lv' := [(3, .int y0_60), (0, .ref h), (1, .int p1), (2, .int p2), (4, .int v4_26)]) hx hb dX12_yard_60 rfl hl (by decide) rfl (fun ls hl => ?_)
            refine lv_iinc (v := (v4_26 + (nI 1))) (lv' := [(4, .int (v4_26 + (nI 1))), (3, .int y0_60), (0, .ref h), (1, .int p1), (2, .int p2)]) hx hb dX12_yard_61 hl (k := 4) rfl (iinc_1 _) (by decide) rfl (fun ls hl => ?_)
            refine lv_goto (tgt := 26) hx hb dX12_yard_64 (by decide) ?_
            exact ih_26 y0_60 (v4_26 + (nI 1)) _ _ _ hO (lv_sub hl [2, 3, 4, 1, 0] rfl) hw
          refine lv_if_eq (tgt := 59) hx hb dX12_yard_38 (by decide) (fun q_38 => ?_) (fun q_38 => ?_)
          · refine lv_iconst (v := (nI 0)) hx hb dX12_yard_59 (by decide) ?_
            exact m_60 _ _ (by rw [if_pos q_38]) (lv_sub hl [0, 1, 2, 4] rfl)
          · have hs := hs q_38
            have o_50 := hs
            refine lv_aload_n hx hb dX12_yard_41 rfl (lv_at hl 0 rfl) ?_
            refine gM_s C hin hK lk_s hO dX12_yard_42 ?_
            refine lv_bipush (v := (nI 114)) hx hb dX12_yard_45 (by decide) ?_
            refine lv_iload hx hb dX12_yard_47 (lv_at hl 4 rfl) ?_
            refine lv_iadd hx hb dX12_yard_49 ?_
            refine ldM_s C hK hO o_50 rfl dX12_yard_50 ?_
            refine lv_iload_n hx hb dX12_yard_51 rfl (lv_at hl 1 rfl) ?_
            refine lv_icmp_eq (tgt := 59) hx hb dX12_yard_52 (by decide) (fun q_52 => ?_) (fun q_52 => ?_)
            · refine lv_iconst (v := (nI 0)) hx hb dX12_yard_59 (by decide) ?_
              exact m_60 _ _ (by rw [if_neg q_38, if_pos q_52]) (lv_sub hl [0, 1, 2, 4] rfl)
            · refine lv_iconst (v := (nI 1)) hx hb dX12_yard_55 (by decide) ?_
              refine lv_goto (tgt := 60) hx hb dX12_yard_56 (by decide) ?_
              exact m_60 _ _ (by rw [if_neg q_38, if_neg q_52]) (lv_sub hl [0, 1, 2, 4] rfl)
      have l_26 : ∀ (n : Nat) (v3_26 : Int32) (v4_26 : Int32) (H : Heap) (locs : List Loc) (ls : Array Slot), okW D A s.heap H locs (wM cI cZ cJ h ad k_thrown k_s k_image k_hasImage k_steps k_read k_spot k_isWrong k_open k_act k_letBy k_letStamp k_stamp k_fallen k_held k_stands k_falling k_away k_round k_rests k_may k_next k_could k_couldNight k_night k_seats) → lv_has ls 5 [(0, .ref h), (1, .int p1), (2, .int p2), (3, .int v3_26), (4, .int v4_26)] → wl_X12_yard_26 p1 p2 k_s k_stamp k_night Q x_128 y0_106 y0_60 n v3_26 v4_26 → W p l e R s m args below meth c H locs 0 0 QQ (F0 m 26 ls []) := by
        intro n
        induction n with
        | zero => intro v3_26 v4_26 H locs ls hO hl hw; exact False.elim hw
        | succ n ih => exact b_26 _ ih
      exact l_26 n_26 (nI 1) (nI 0) _ _ _ hO (lv_sub hl [2, 3, 4, 1, 0] rfl) hw
    · have hw := hw.2 q_15
      refine lv_bipush (v := (-2)) hx hb dX12_yard_18 (by decide) ?_
      exact ri3 hx hb hr hlk hK hO hw hQQ dX12_yard_20
  · have hw := hw.2 q_4
    refine lv_iconst (v := (-1)) hx hb dX12_yard_7 (by decide) ?_
    exact ri3 hx hb hr hlk hK hO hw hQQ dX12_yard_8
theorem gd_X12_105 {a : Cond} : GoodIn (a :: wsG) (wsV RX12 105 RX12 yX12_here (Cond.code yX12_here cX12_here 1 (some .int) :: wsG)) := gdV qw6_94 qw6_96 qs_38 qw1_12 qw6_97
theorem hd_X12_here : yX12_here.cls = RX12 ∧ yX12_here.cls ≠ "java/lang/invoke/MethodHandle" ∧ yX12_here.cls ≠ "java/lang/invoke/VarHandle" ∧ (parseMethodDescriptor yX12_here.desc).map (fun d => d.parameters.length) = some 0 := by decide +kernel
def wp_X12_must (p1 : Int32) (k_s : Nat → Int32) (k_read : Int32) (k_spot : Int32) (k_isWrong : Int32) (Q : (Int32) → (Int32) → Prop) : Prop := (((k_isWrong = 0 → (ok_X12_here k_s k_read k_spot))) ∧ (∀ y1_21 : Int32, y1_21 = (if k_isWrong = 0 then (if (f_X12_here k_s k_read k_spot) = p1 then (nI 0) else (nI 1)) else (nI 1)) → (∀ y2_41 : Int32, y2_41 = (if y1_21 = 0 then (nI 1) else (nI 0)) → (Q (k_spot + y2_41) y1_21))))
set_option maxHeartbeats 4000000 in
set_option maxRecDepth 100000 in
theorem c_X12_must {l : Launch} {D : va_G} {cI cZ cJ : ClassId} {h : Nat} {ad : Nat → Nat} {sz : Nat} {k_thrown : Int32} {k_s : Nat → Int32} {k_image : Nat → Int32} {k_hasImage : Int32} {k_steps : Nat → Int32} {k_read : Int32} {k_spot : Int32} {k_isWrong : Int32} {k_open : Int32} {k_act : Int32} {k_letBy : Nat → Int32} {k_letStamp : Nat → Int32} {k_stamp : Int32} {k_fallen : Nat → Int32} {k_held : Nat → Int32} {k_stands : Nat → Int32} {k_falling : Nat → Int32} {k_away : Nat → Int32} {k_round : Nat → Int32} {k_rests : Nat → Int64} {k_may : Nat → Int32} {k_next : Nat → Int32} {k_could : Nat → Int32} {k_couldNight : Nat → Int32} {k_night : Int32} {k_seats : Nat → Int32} {p1 : Int32} {Q : (Int32) → (Int32) → Prop} (hw : wp_X12_must p1 k_s k_read k_spot k_isWrong Q) : Met l yX12_must (Cond.code yX12_must cX12_must 2 none :: wsG) ({ frames := 1, cells := 0, slots := 0, locals := 20 } : Room) (preW D (tyM cI cZ cJ) (wM cI cZ cJ h ad k_thrown k_s k_image k_hasImage k_steps k_read k_spot k_isWrong k_open k_act k_letBy k_letStamp k_stamp k_fallen k_held k_stands k_falling k_away k_round k_rests k_may k_next k_could k_couldNight k_night k_seats) sz [.ref h, .int p1]) (qv2 D (tyM cI cZ cJ) (va_A (wM cI cZ cJ h ad k_thrown k_s k_image k_hasImage k_steps k_read k_spot k_isWrong k_open k_act k_letBy k_letStamp k_stamp k_fallen k_held k_stands k_falling k_away k_round k_rests k_may k_next k_could k_couldNight k_night k_seats) sz) Q (fun k_spot' k_isWrong' => (wM cI cZ cJ h ad k_thrown k_s k_image k_hasImage k_steps k_read k_spot' k_isWrong' k_open k_act k_letBy k_letStamp k_stamp k_fallen k_held k_stands k_falling k_away k_round k_rests k_may k_next k_could k_couldNight k_night k_seats))) 0 0 (va_A (wM cI cZ cJ h ad k_thrown k_s k_image k_hasImage k_steps k_read k_spot k_isWrong k_open k_act k_letBy k_letStamp k_stamp k_fallen k_held k_stands k_falling k_away k_round k_rests k_may k_next k_could k_couldNight k_night k_seats) sz) := by
  refine st_met (cc := cX12_must) (maxL := 2) (ret := none) (lv := [(0, .ref h), (1, .int p1)]) (Qc := fun A => qv2 D (tyM cI cZ cJ) A Q (fun k_spot' k_isWrong' => (wM cI cZ cJ h ad k_thrown k_s k_image k_hasImage k_steps k_read k_spot' k_isWrong' k_open k_act k_letBy k_letStamp k_stamp k_fallen k_held k_stands k_falling k_away k_round k_rests k_may k_next k_could k_couldNight k_night k_seats))) (by decide) rfl (Nat.le_of_ble_eq_true rfl) rfl ?_
  intro p e s m below meth c ls A R args QQ H locs C hr hlk hnm hK hsz hl hO hR hQQ
  have hx := C.1
  have hb := C.2.1
  have hown := C.2.2.2.1
  have hts := C.2.2.2.2
  have hin : ∀ w ∈ u_ws RX12 TX12 26, w ∈ (Cond.code yX12_must cX12_must 2 none :: wsG) := fun w h9 => List.mem_cons_of_mem _ (inG12 w h9)
  have lk_isWrong := hts (Cond.fieldLink RX12 101 "FreeCityModel" "isWrong" "Z") (List.mem_cons_of_mem _ qw5_213)
  have lk_spot := hts (Cond.fieldLink RX12 95 "FreeCityModel" "spot" "I") (List.mem_cons_of_mem _ qw5_212)
  unfold wp_X12_must at hw
  refine lv_aload_n hx hb dX12_must_0 rfl (lv_at hl 0 rfl) ?_
  refine lv_aload_n hx hb dX12_must_1 rfl (lv_at hl 0 rfl) ?_
  refine gM_isWrong C hin hK lk_isWrong hO dX12_must_2 ?_
  obtain ⟨hs, hw⟩ := hw
  have m_21 : ∀ (y1_21 : Int32) (ls : Array Slot), y1_21 = (if k_isWrong = 0 then (if (f_X12_here k_s k_read k_spot) = p1 then (nI 0) else (nI 1)) else (nI 1)) → lv_has ls 2 [(0, .ref h)] → W p l e R s m args below meth c H locs 0 0 QQ (F0 m 21 ls [.int y1_21, .ref h]) := by
    intro y1_21 ls ey1_21 hl
    have hw := hw y1_21 ey1_21
    refine pM_isWrong C hin hK lk_isWrong hO (by rw [ey1_21]; exact (zb_ite (zb_ite zb0 zb1) zb1)) dX12_must_21 (fun H locs hO => ?_)
    refine lv_aload_n hx hb dX12_must_24 rfl (lv_at hl 0 rfl) ?_
    refine lv_dup hx hb dX12_must_25 rfl ?_
    refine gM_spot C hin hK lk_spot hO dX12_must_26 ?_
    refine lv_aload_n hx hb dX12_must_29 rfl (lv_at hl 0 rfl) ?_
    refine gM_isWrong C hin hK lk_isWrong hO dX12_must_30 ?_
    have m_41 : ∀ (y2_41 : Int32) (ls : Array Slot), y2_41 = (if y1_21 = 0 then (nI 1) else (nI 0)) → lv_has ls 2 [] → W p l e R s m args below meth c H locs 0 0 QQ (F0 m 41 ls [.int y2_41, .int k_spot, .ref h]) := by
      intro y2_41 ls ey2_41 hl
      have hw := hw y2_41 ey2_41
      refine lv_iadd hx hb dX12_must_41 ?_
      refine pM_spot C hin hK lk_spot hO dX12_must_42 (fun H locs hO => ?_)
      exact rv2 hx hb hr hlk hK hO hw hQQ dX12_must_45
    refine lv_if_eq (tgt := 40) hx hb dX12_must_33 (by decide) (fun q_33 => ?_) (fun q_33 => ?_)
    · refine lv_iconst (v := (nI 1)) hx hb dX12_must_40 (by decide) ?_
      exact m_41 _ _ (by rw [if_pos q_33]) (lv_sub hl [] rfl)
    · refine lv_iconst (v := (nI 0)) hx hb dX12_must_36 (by decide) ?_
      refine lv_goto (tgt := 41) hx hb dX12_must_37 (by decide) ?_
      exact m_41 _ _ (by rw [if_neg q_33]) (lv_sub hl [] rfl)
  refine lv_if_ne (tgt := 16) hx hb dX12_must_5 (by decide) (fun q_5 => ?_) (fun q_5 => ?_)
  · refine lv_iconst (v := (nI 1)) hx hb dX12_must_16 (by decide) ?_
    refine lv_goto (tgt := 21) hx hb dX12_must_17 (by decide) ?_
    exact m_21 _ _ (by rw [if_neg q_5]) (lv_sub hl [0] rfl)
  · have hs := hs q_5
    have o_9 := hs
    refine lv_aload_n hx hb dX12_must_8 rfl (lv_at hl 0 rfl) ?_
    refine cVi0 (As := []) (rest := [.ref h]) C hK hO (c_X12_here (l := l) o_9) (cwV 0 hts gd_X12_105 rfl rfl rfl hd_X12_here (rok hR (Nat.le_of_ble_eq_true rfl) (Nat.le_of_ble_eq_true rfl))) (ci := 12) (q0 := 0) rfl rfl rfl rfl hl.1 rfl (Nat.le_of_ble_eq_true rfl) dX12_must_9 ⟨Nat.zero_le _, Nat.zero_le _⟩ (fun r_9 H locs e_9 hO => ?_)
    subst e_9
    refine lv_iload_n hx hb dX12_must_12 rfl (lv_at hl 1 rfl) ?_
    refine lv_icmp_eq (tgt := 20) hx hb dX12_must_13 (by decide) (fun q_13 => ?_) (fun q_13 => ?_)
    · refine lv_iconst (v := (nI 0)) hx hb dX12_must_20 (by decide) ?_
      exact m_21 _ _ (by rw [if_pos q_5, if_pos q_13]) (lv_sub hl [0] rfl)
    · refine lv_iconst (v := (nI 1)) hx hb dX12_must_16 (by decide) ?_
      refine lv_goto (tgt := 21) hx hb dX12_must_17 (by decide) ?_
      exact m_21 _ _ (by rw [if_pos q_5, if_neg q_13]) (lv_sub hl [0] rfl)
def wp_X12_vote (p1 : Int32) (p2 : Int32) (k_s : Nat → Int32) (Q : Int32 → (Nat → Int32) → Prop) : Prop := ((¬ (f_X12_in p1 (nI 0) (nI 5)) = 0 → ((¬ (f_X12_in p2 (nI 0) (nI 99999)) = 0 → (vp_in ((nI 75) + p1) 6700 ∧ (∀ x_32 : Int32, x_32 = (k_s (((nI 75) + p1)).toNatClampNeg) → (vp_in ((nI 75) + p1) 6700 ∧ (Q x_32 (upd k_s ((((nI 75) + p1)).toNatClampNeg) p2)))))) ∧ ((f_X12_in p2 (nI 0) (nI 99999)) = 0 → (Q (-2) k_s)))) ∧ ((f_X12_in p1 (nI 0) (nI 5)) = 0 → (Q (-1) k_s)))
set_option maxHeartbeats 4000000 in
set_option maxRecDepth 100000 in
theorem c_X12_vote {l : Launch} {D : va_G} {cI cZ cJ : ClassId} {h : Nat} {ad : Nat → Nat} {sz : Nat} {k_thrown : Int32} {k_s : Nat → Int32} {k_image : Nat → Int32} {k_hasImage : Int32} {k_steps : Nat → Int32} {k_read : Int32} {k_spot : Int32} {k_isWrong : Int32} {k_open : Int32} {k_act : Int32} {k_letBy : Nat → Int32} {k_letStamp : Nat → Int32} {k_stamp : Int32} {k_fallen : Nat → Int32} {k_held : Nat → Int32} {k_stands : Nat → Int32} {k_falling : Nat → Int32} {k_away : Nat → Int32} {k_round : Nat → Int32} {k_rests : Nat → Int64} {k_may : Nat → Int32} {k_next : Nat → Int32} {k_could : Nat → Int32} {k_couldNight : Nat → Int32} {k_night : Int32} {k_seats : Nat → Int32} {p1 : Int32} {p2 : Int32} {Q : Int32 → (Nat → Int32) → Prop} (hw : wp_X12_vote p1 p2 k_s Q) : Met l yX12_vote (Cond.code yX12_vote cX12_vote 4 (some .int) :: wsG) ({ frames := 1, cells := 0, slots := 0, locals := 22 } : Room) (preW D (tyM cI cZ cJ) (wM cI cZ cJ h ad k_thrown k_s k_image k_hasImage k_steps k_read k_spot k_isWrong k_open k_act k_letBy k_letStamp k_stamp k_fallen k_held k_stands k_falling k_away k_round k_rests k_may k_next k_could k_couldNight k_night k_seats) sz [.ref h, .int p1, .int p2]) (qi1 D (tyM cI cZ cJ) (va_A (wM cI cZ cJ h ad k_thrown k_s k_image k_hasImage k_steps k_read k_spot k_isWrong k_open k_act k_letBy k_letStamp k_stamp k_fallen k_held k_stands k_falling k_away k_round k_rests k_may k_next k_could k_couldNight k_night k_seats) sz) Q (fun k_s' => (wM cI cZ cJ h ad k_thrown k_s' k_image k_hasImage k_steps k_read k_spot k_isWrong k_open k_act k_letBy k_letStamp k_stamp k_fallen k_held k_stands k_falling k_away k_round k_rests k_may k_next k_could k_couldNight k_night k_seats))) 0 0 (va_A (wM cI cZ cJ h ad k_thrown k_s k_image k_hasImage k_steps k_read k_spot k_isWrong k_open k_act k_letBy k_letStamp k_stamp k_fallen k_held k_stands k_falling k_away k_round k_rests k_may k_next k_could k_couldNight k_night k_seats) sz) := by
  refine st_met (cc := cX12_vote) (maxL := 4) (ret := (some .int)) (lv := [(0, .ref h), (1, .int p1), (2, .int p2)]) (Qc := fun A => qi1 D (tyM cI cZ cJ) A Q (fun k_s' => (wM cI cZ cJ h ad k_thrown k_s' k_image k_hasImage k_steps k_read k_spot k_isWrong k_open k_act k_letBy k_letStamp k_stamp k_fallen k_held k_stands k_falling k_away k_round k_rests k_may k_next k_could k_couldNight k_night k_seats))) (by decide) rfl (Nat.le_of_ble_eq_true rfl) rfl ?_
  intro p e s m below meth c ls A R args QQ H locs C hr hlk hnm hK hsz hl hO hR hQQ
  have hx := C.1
  have hb := C.2.1
  have hown := C.2.2.2.1
  have hts := C.2.2.2.2
  have hin : ∀ w ∈ u_ws RX12 TX12 26, w ∈ (Cond.code yX12_vote cX12_vote 4 (some .int) :: wsG) := fun w h9 => List.mem_cons_of_mem _ (inG12 w h9)
  have lk_s := hts (Cond.fieldLink RX12 7 "FreeCityModel" "s" "[I") (List.mem_cons_of_mem _ qw5_207)
  unfold wp_X12_vote at hw
  refine lv_iload_n hx hb dX12_vote_0 rfl (lv_at hl 1 rfl) ?_
  refine lv_iconst (v := (nI 0)) hx hb dX12_vote_1 (by decide) ?_
  refine lv_iconst (v := (nI 5)) hx hb dX12_vote_2 (by decide) ?_
  refine cSi0 (As := [.int p1, .int (nI 0), .int (nI 5)]) (rest := []) C hK hO (c_X12_in (l := l)) (va_cwS 3 hts gd_X12_74 rfl rfl rfl hd_X12_in (rok hR (Nat.le_of_ble_eq_true rfl) (Nat.le_of_ble_eq_true rfl))) rfl hl.1 rfl (Nat.le_of_ble_eq_true rfl) dX12_vote_3 ⟨Nat.zero_le _, Nat.zero_le _⟩ (fun r_3 H locs e_3 hO => ?_)
  subst e_3
  refine lv_if_ne (tgt := 11) hx hb dX12_vote_6 (by decide) (fun q_6 => ?_) (fun q_6 => ?_)
  · have hw := hw.1 q_6
    refine lv_iload_n hx hb dX12_vote_11 rfl (lv_at hl 2 rfl) ?_
    refine lv_iconst (v := (nI 0)) hx hb dX12_vote_12 (by decide) ?_
    refine lv_ldc (v := (99999)) hx hb hown (hts (Cond.constant RX12 246 (99999)) (List.mem_cons_of_mem _ qw7_124)) dX12_vote_13 ?_
    refine W.eq (g2 := F0 m 15 ls [.int (nI 99999), .int (nI 0), .int p2]) (by rw [show ((99999 : Int32)) = (nI 99999) from by decide]) ?_
    refine cSi0 (As := [.int p2, .int (nI 0), .int (nI 99999)]) (rest := []) C hK hO (c_X12_in (l := l)) (va_cwS 3 hts gd_X12_74 rfl rfl rfl hd_X12_in (rok hR (Nat.le_of_ble_eq_true rfl) (Nat.le_of_ble_eq_true rfl))) rfl hl.1 rfl (Nat.le_of_ble_eq_true rfl) dX12_vote_15 ⟨Nat.zero_le _, Nat.zero_le _⟩ (fun r_15 H locs e_15 hO => ?_)
    subst e_15
    refine lv_if_ne (tgt := 24) hx hb dX12_vote_18 (by decide) (fun q_18 => ?_) (fun q_18 => ?_)
    · have hw := hw.1 q_18
      refine lv_aload_n hx hb dX12_vote_24 rfl (lv_at hl 0 rfl) ?_
      refine gM_s C hin hK lk_s hO dX12_vote_25 ?_
      refine lv_bipush (v := (nI 75)) hx hb dX12_vote_28 (by decide) ?_
      refine lv_iload_n hx hb dX12_vote_30 rfl (lv_at hl 1 rfl) ?_
      refine lv_iadd hx hb dX12_vote_31 ?_
      obtain ⟨o_32, hw⟩ := hw
      refine ldM_s C hK hO o_32 rfl dX12_vote_32 ?_
      refine lv_topi (fun x_32 ex_32 => ?_)
      have hw := hw x_32 ex_32
      refine lv_istore_n (lv' := [(3, .int x_32), (0, .ref h), (1, .int p1), (2, .int p2)]) hx hb dX12_vote_33 rfl hl (by decide) rfl (fun ls hl => ?_)
      refine lv_aload_n hx hb dX12_vote_34 rfl (lv_at hl 1 rfl) ?_
      refine gM_s C hin hK lk_s hO dX12_vote_35 ?_
      refine lv_bipush (v := (nI 75)) hx hb dX12_vote_38 (by decide) ?_
      refine lv_iload_n hx hb dX12_vote_40 rfl (lv_at hl 2 rfl) ?_
      refine lv_iadd hx hb dX12_vote_41 ?_
      refine lv_iload_n hx hb dX12_vote_42 rfl (lv_at hl 3 rfl) ?_
      obtain ⟨o_43, hw⟩ := hw
      refine stM_s C hK hO o_43 rfl dX12_vote_43 (fun H locs hO => ?_)
      refine lv_iload_n hx hb dX12_vote_44 rfl (lv_at hl 0 rfl) ?_
      exact ri1 hx hb hr hlk hK hO hw hQQ dX12_vote_45
    · have hw := hw.2 q_18
      refine lv_bipush (v := (-2)) hx hb dX12_vote_21 (by decide) ?_
      exact ri1 hx hb hr hlk hK hO hw hQQ dX12_vote_23
  · have hw := hw.2 q_6
    refine lv_iconst (v := (-1)) hx hb dX12_vote_9 (by decide) ?_
    exact ri1 hx hb hr hlk hK hO hw hQQ dX12_vote_10
def wb_X12_image_2 (k_s : Nat → Int32) (Q : Int32 → (Nat → Int32) → (Int32) → Prop) (L_2 : Int32 → (Nat → Int32) → Prop) (v1_2 : Int32) (image_2 : Nat → Int32) : Prop := (((nI 6700) ≤ v1_2 → (Q (k_s 0) image_2 (nI 1))) ∧ (¬ (nI 6700) ≤ v1_2 → (vp_in v1_2 6700 ∧ (vp_in v1_2 6700 ∧ (L_2 (v1_2 + (nI 1)) (upd image_2 ((v1_2).toNatClampNeg) (k_s (v1_2).toNatClampNeg)))))))
def wl_X12_image_2 (k_s : Nat → Int32) (Q : Int32 → (Nat → Int32) → (Int32) → Prop) : Nat → Int32 → (Nat → Int32) → Prop
  | 0, _, _ => False
  | n + 1, v1_2, image_2 => wb_X12_image_2 k_s Q (wl_X12_image_2 k_s Q n) v1_2 image_2
def wp_X12_image  (k_s : Nat → Int32) (k_image : Nat → Int32) (Q : Int32 → (Nat → Int32) → (Int32) → Prop) : Prop := (∃ n, wl_X12_image_2 k_s Q n (nI 0) k_image)
set_option maxHeartbeats 4000000 in
set_option maxRecDepth 100000 in
theorem c_X12_image {l : Launch} {D : va_G} {cI cZ cJ : ClassId} {h : Nat} {ad : Nat → Nat} {sz : Nat} {k_thrown : Int32} {k_s : Nat → Int32} {k_image : Nat → Int32} {k_hasImage : Int32} {k_steps : Nat → Int32} {k_read : Int32} {k_spot : Int32} {k_isWrong : Int32} {k_open : Int32} {k_act : Int32} {k_letBy : Nat → Int32} {k_letStamp : Nat → Int32} {k_stamp : Int32} {k_fallen : Nat → Int32} {k_held : Nat → Int32} {k_stands : Nat → Int32} {k_falling : Nat → Int32} {k_away : Nat → Int32} {k_round : Nat → Int32} {k_rests : Nat → Int64} {k_may : Nat → Int32} {k_next : Nat → Int32} {k_could : Nat → Int32} {k_couldNight : Nat → Int32} {k_night : Int32} {k_seats : Nat → Int32}  {Q : Int32 → (Nat → Int32) → (Int32) → Prop} (hw : wp_X12_image k_s k_image Q) : Met l yX12_image (Cond.code yX12_image cX12_image 2 (some .int) :: wsG) ({ frames := 0, cells := 0, slots := 0, locals := 0 } : Room) (preW D (tyM cI cZ cJ) (wM cI cZ cJ h ad k_thrown k_s k_image k_hasImage k_steps k_read k_spot k_isWrong k_open k_act k_letBy k_letStamp k_stamp k_fallen k_held k_stands k_falling k_away k_round k_rests k_may k_next k_could k_couldNight k_night k_seats) sz [.ref h]) (qi2 D (tyM cI cZ cJ) (va_A (wM cI cZ cJ h ad k_thrown k_s k_image k_hasImage k_steps k_read k_spot k_isWrong k_open k_act k_letBy k_letStamp k_stamp k_fallen k_held k_stands k_falling k_away k_round k_rests k_may k_next k_could k_couldNight k_night k_seats) sz) Q (fun k_image' k_hasImage' => (wM cI cZ cJ h ad k_thrown k_s k_image' k_hasImage' k_steps k_read k_spot k_isWrong k_open k_act k_letBy k_letStamp k_stamp k_fallen k_held k_stands k_falling k_away k_round k_rests k_may k_next k_could k_couldNight k_night k_seats))) 0 0 (va_A (wM cI cZ cJ h ad k_thrown k_s k_image k_hasImage k_steps k_read k_spot k_isWrong k_open k_act k_letBy k_letStamp k_stamp k_fallen k_held k_stands k_falling k_away k_round k_rests k_may k_next k_could k_couldNight k_night k_seats) sz) := by
  refine st_met (cc := cX12_image) (maxL := 2) (ret := (some .int)) (lv := [(0, .ref h)]) (Qc := fun A => qi2 D (tyM cI cZ cJ) A Q (fun k_image' k_hasImage' => (wM cI cZ cJ h ad k_thrown k_s k_image' k_hasImage' k_steps k_read k_spot k_isWrong k_open k_act k_letBy k_letStamp k_stamp k_fallen k_held k_stands k_falling k_away k_round k_rests k_may k_next k_could k_couldNight k_night k_seats))) (by decide) rfl (Nat.le_of_ble_eq_true rfl) rfl ?_
  intro p e s m below meth c ls A R args QQ H locs C hr hlk hnm hK hsz hl hO hR hQQ
  have hx := C.1
  have hb := C.2.1
  have hown := C.2.2.2.1
  have hts := C.2.2.2.2
  have hin : ∀ w ∈ u_ws RX12 TX12 26, w ∈ (Cond.code yX12_image cX12_image 2 (some .int) :: wsG) := fun w h9 => List.mem_cons_of_mem _ (inG12 w h9)
  have lk_image := hts (Cond.fieldLink RX12 13 "FreeCityModel" "image" "[I") (List.mem_cons_of_mem _ qw5_208)
  have lk_s := hts (Cond.fieldLink RX12 7 "FreeCityModel" "s" "[I") (List.mem_cons_of_mem _ qw5_207)
  have lk_hasImage := hts (Cond.fieldLink RX12 265 "FreeCityModel" "hasImage" "Z") (List.mem_cons_of_mem _ qw5_209)
  unfold wp_X12_image at hw
  refine lv_iconst (v := (nI 0)) hx hb dX12_image_0 (by decide) ?_
  refine lv_istore_n (lv' := [(1, .int (nI 0)), (0, .ref h)]) hx hb dX12_image_1 rfl hl (by decide) rfl (fun ls hl => ?_)
  obtain ⟨n_2, hw⟩ := hw
  have b_2 : ∀ (L_2 : Int32 → (Nat → Int32) → Prop) (ih_2 : ∀ (v1_2 : Int32) (image_2 : Nat → Int32) (H : Heap) (locs : List Loc) (ls : Array Slot), okW D A s.heap H locs (wM cI cZ cJ h ad k_thrown k_s image_2 k_hasImage k_steps k_read k_spot k_isWrong k_open k_act k_letBy k_letStamp k_stamp k_fallen k_held k_stands k_falling k_away k_round k_rests k_may k_next k_could k_couldNight k_night k_seats) → lv_has ls 2 [(0, .ref h), (1, .int v1_2)] → L_2 v1_2 image_2 → W p l e R s m args below meth c H locs 0 0 QQ (F0 m 2 ls [])) (v1_2 : Int32) (image_2 : Nat → Int32) (H : Heap) (locs : List Loc) (ls : Array Slot), okW D A s.heap H locs (wM cI cZ cJ h ad k_thrown k_s image_2 k_hasImage k_steps k_read k_spot k_isWrong k_open k_act k_letBy k_letStamp k_stamp k_fallen k_held k_stands k_falling k_away k_round k_rests k_may k_next k_could k_couldNight k_night k_seats) → lv_has ls 2 [(0, .ref h), (1, .int v1_2)] → wb_X12_image_2 k_s Q L_2 v1_2 image_2 → W p l e R s m args below meth c H locs 0 0 QQ (F0 m 2 ls []) := by
    intro L_2 ih_2 v1_2 image_2 H locs ls hO hl hw
    unfold wb_X12_image_2 at hw
    refine lv_iload_n hx hb dX12_image_2 rfl (lv_at hl 1 rfl) ?_
    refine lv_sipush (v := (nI 6700)) hx hb dX12_image_3 (by decide) ?_
    refine lv_icmp_ge (tgt := 27) hx hb dX12_image_6 (by decide) (fun q_6 => ?_) (fun q_6 => ?_)
    · have hw := hw.1 q_6
      refine lv_aload_n hx hb dX12_image_27 rfl (lv_at hl 0 rfl) ?_
      refine lv_iconst (v := (nI 1)) hx hb dX12_image_28 (by decide) ?_
      refine pM_hasImage C hin hK lk_hasImage hO zb1 dX12_image_29 (fun H locs hO => ?_)
      refine lv_aload_n hx hb dX12_image_32 rfl (lv_at hl 0 rfl) ?_
      refine gM_s C hin hK lk_s hO dX12_image_33 ?_
      refine lv_iconst (v := (nI 0)) hx hb dX12_image_36 (by decide) ?_
      refine ldM_s C hK hO (inK 0 6700 (by decide) (by decide)) (clK 0 (by decide)) dX12_image_37 ?_
      exact ri2 hx hb hr hlk hK hO hw hQQ dX12_image_38
    · have hw := hw.2 q_6
      refine lv_aload_n hx hb dX12_image_9 rfl (lv_at hl 0 rfl) ?_
      refine gM_image C hin hK lk_image hO dX12_image_10 ?_
      refine lv_iload_n hx hb dX12_image_13 rfl (lv_at hl 1 rfl) ?_
      refine lv_aload_n hx hb dX12_image_14 rfl (lv_at hl 0 rfl) ?_
      refine gM_s C hin hK lk_s hO dX12_image_15 ?_
      refine lv_iload_n hx hb dX12_image_18 rfl (lv_at hl 1 rfl) ?_
      obtain ⟨o_19, hw⟩ := hw
      refine ldM_s C hK hO o_19 rfl dX12_image_19 ?_
      obtain ⟨o_20, hw⟩ := hw
      refine stM_image C hK hO o_20 rfl dX12_image_20 (fun H locs hO => ?_)
      refine lv_iinc (v := (v1_2 + (nI 1))) (lv' := [(1, .int (v1_2 + (nI 1))), (0, .ref h)]) hx hb dX12_image_21 hl (k := 1) rfl (iinc_1 _) (by decide) rfl (fun ls hl => ?_)
      refine lv_goto (tgt := 2) hx hb dX12_image_24 (by decide) ?_
      exact ih_2 (v1_2 + (nI 1)) (upd image_2 ((v1_2).toNatClampNeg) (k_s (v1_2).toNatClampNeg)) _ _ _ hO (lv_sub hl [1, 0] rfl) hw
  have l_2 : ∀ (n : Nat) (v1_2 : Int32) (image_2 : Nat → Int32) (H : Heap) (locs : List Loc) (ls : Array Slot), okW D A s.heap H locs (wM cI cZ cJ h ad k_thrown k_s image_2 k_hasImage k_steps k_read k_spot k_isWrong k_open k_act k_letBy k_letStamp k_stamp k_fallen k_held k_stands k_falling k_away k_round k_rests k_may k_next k_could k_couldNight k_night k_seats) → lv_has ls 2 [(0, .ref h), (1, .int v1_2)] → wl_X12_image_2 k_s Q n v1_2 image_2 → W p l e R s m args below meth c H locs 0 0 QQ (F0 m 2 ls []) := by
    intro n
    induction n with
    | zero => intro v1_2 image_2 H locs ls hO hl hw; exact False.elim hw
    | succ n ih => exact b_2 _ ih
  exact l_2 n_2 (nI 0) k_image _ _ _ hO (lv_sub hl [1, 0] rfl) hw
