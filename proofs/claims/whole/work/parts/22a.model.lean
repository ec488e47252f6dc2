def f_X12_in  (p1 : Int32) (p2 : Int32) (p3 : Int32) : Int32 := (if p1 < p2 then (nI 0) else (if p3 < p1 then (nI 0) else (nI 1)))
theorem z_X12_in  (p1 : Int32) (p2 : Int32) (p3 : Int32) : zb (f_X12_in p1 p2 p3) := by
  unfold f_X12_in
  exact (zb_ite zb0 (zb_ite zb0 zb1))
set_option maxHeartbeats 4000000 in
set_option maxRecDepth 100000 in
theorem c_X12_in {l : Launch} {D : va_G} {T : List (ClassId × FieldType)} {ws : va_W} {sz : Nat} {p1 : Int32} {p2 : Int32} {p3 : Int32} : Met l yX12_in (Cond.code yX12_in cX12_in 3 (some .boolean) :: wsG) ({ frames := 0, cells := 0, slots := 0, locals := 0 } : Room) (preW D T ws sz [.int p1, .int p2, .int p3]) (qi0 D T (va_A ws sz) (fun r => r = f_X12_in p1 p2 p3) ws) 0 0 (va_A ws sz) := by
  refine st_met (cc := cX12_in) (maxL := 3) (ret := (some .boolean)) (lv := [(0, .int p1), (1, .int p2), (2, .int p3)]) (Qc := fun A => qi0 D T A (fun r => r = f_X12_in p1 p2 p3) ws) (by decide) rfl (Nat.le_of_ble_eq_true rfl) rfl ?_
  intro p e s m below meth c ls A R args QQ H locs C hr hlk hnm hK hX hsz hl hO hR hQQ
  have hx := C.1
  have hb := C.2.1
  have hown := C.2.2.2.1
  have hts := C.2.2.2.2
  refine lv_iload_n hx hb dX12_in_0 rfl (lv_at hl 0 rfl) ?_
  refine lv_iload_n hx hb dX12_in_1 rfl (lv_at hl 1 rfl) ?_
  refine lv_icmp_lt (tgt := 14) hx hb dX12_in_2 (by decide) (fun q_2 => ?_) (fun q_2 => ?_)
  · refine lv_iconst (v := (nI 0)) hx hb dX12_in_14 (by decide) ?_
    exact rz0 hQQ hx hb hr hlk hK hO zb0 (by unfold f_X12_in; rw [if_pos q_2]) dX12_in_15
  · refine lv_iload_n hx hb dX12_in_5 rfl (lv_at hl 0 rfl) ?_
    refine lv_iload_n hx hb dX12_in_6 rfl (lv_at hl 2 rfl) ?_
    refine lv_icmp_gt (tgt := 14) hx hb dX12_in_7 (by decide) (fun q_7 => ?_) (fun q_7 => ?_)
    · refine lv_iconst (v := (nI 0)) hx hb dX12_in_14 (by decide) ?_
      exact rz0 hQQ hx hb hr hlk hK hO zb0 (by unfold f_X12_in; rw [if_neg q_2, if_pos q_7]) dX12_in_15
    · refine lv_iconst (v := (nI 1)) hx hb dX12_in_10 (by decide) ?_
      refine lv_goto (tgt := 15) hx hb dX12_in_11 (by decide) ?_
      exact rz0 hQQ hx hb hr hlk hK hO zb1 (by unfold f_X12_in; rw [if_neg q_2, if_neg q_7]) dX12_in_15
theorem gd_X12_74 {a : Cond} : GoodIn (a :: wsG) (va_wsS RX12 74 yX12_in (Cond.code yX12_in cX12_in 3 (some .boolean) :: wsG)) := gdS qw6_52 qw6_53 qw1_12 qw6_54
theorem hd_X12_in : yX12_in.cls ≠ "java/lang/invoke/MethodHandle" ∧ yX12_in.cls ≠ "java/lang/invoke/VarHandle" ∧ (parseMethodDescriptor yX12_in.desc).map (fun d => d.parameters.length) = some 3 := by decide +kernel
def f_X12_isSpot  (p1 : Int32) : Int32 := (f_X12_in p1 (nI 0) (nI 29))
theorem z_X12_isSpot  (p1 : Int32) : zb (f_X12_isSpot p1) := by
  unfold f_X12_isSpot
  exact (z_X12_in p1 (nI 0) (nI 29))
set_option maxHeartbeats 4000000 in
set_option maxRecDepth 100000 in
theorem c_X12_isSpot {l : Launch} {D : va_G} {T : List (ClassId × FieldType)} {ws : va_W} {sz : Nat} {p1 : Int32} : Met l yX12_isSpot (Cond.code yX12_isSpot cX12_isSpot 1 (some .boolean) :: wsG) ({ frames := 1, cells := 0, slots := 0, locals := 22 } : Room) (preW D T ws sz [.int p1]) (qi0 D T (va_A ws sz) (fun r => r = f_X12_isSpot p1) ws) 0 0 (va_A ws sz) := by
  refine st_met (cc := cX12_isSpot) (maxL := 1) (ret := (some .boolean)) (lv := [(0, .int p1)]) (Qc := fun A => qi0 D T A (fun r => r = f_X12_isSpot p1) ws) (by decide) rfl (Nat.le_of_ble_eq_true rfl) rfl ?_
  intro p e s m below meth c ls A R args QQ H locs C hr hlk hnm hK hX hsz hl hO hR hQQ
  have hx := C.1
  have hb := C.2.1
  have hown := C.2.2.2.1
  have hts := C.2.2.2.2
  refine lv_iload_n hx hb dX12_isSpot_0 rfl (lv_at hl 0 rfl) ?_
  refine lv_iconst (v := (nI 0)) hx hb dX12_isSpot_1 (by decide) ?_
  refine lv_bipush (v := (nI 29)) hx hb dX12_isSpot_2 (by decide) ?_
  refine cSi0 (As := [.int p1, .int (nI 0), .int (nI 29)]) (rest := []) C hK hX hO (c_X12_in (l := l)) (va_cwS 3 hts gd_X12_74 rfl rfl rfl hd_X12_in (rok hR (Nat.le_of_ble_eq_true rfl) (Nat.le_of_ble_eq_true rfl))) rfl hl.1 rfl (Nat.le_of_ble_eq_true rfl) dX12_isSpot_4 ⟨Nat.zero_le _, Nat.zero_le _⟩ (fun r_4 H locs e_4 hO => ?_)
  subst e_4
  exact rz0 hQQ hx hb hr hlk hK hO (z_X12_in p1 (nI 0) (nI 29)) (by unfold f_X12_isSpot; rfl) dX12_isSpot_7
def f_X12_isDay  (p1 : Int32) : Int32 := (f_X12_in p1 (nI 0) (nI 999))
theorem z_X12_isDay  (p1 : Int32) : zb (f_X12_isDay p1) := by
  unfold f_X12_isDay
  exact (z_X12_in p1 (nI 0) (nI 999))
set_option maxHeartbeats 4000000 in
set_option maxRecDepth 100000 in
theorem c_X12_isDay {l : Launch} {D : va_G} {T : List (ClassId × FieldType)} {ws : va_W} {sz : Nat} {p1 : Int32} : Met l yX12_isDay (Cond.code yX12_isDay cX12_isDay 1 (some .boolean) :: wsG) ({ frames := 1, cells := 0, slots := 0, locals := 22 } : Room) (preW D T ws sz [.int p1]) (qi0 D T (va_A ws sz) (fun r => r = f_X12_isDay p1) ws) 0 0 (va_A ws sz) := by
  refine st_met (cc := cX12_isDay) (maxL := 1) (ret := (some .boolean)) (lv := [(0, .int p1)]) (Qc := fun A => qi0 D T A (fun r => r = f_X12_isDay p1) ws) (by decide) rfl (Nat.le_of_ble_eq_true rfl) rfl ?_
  intro p e s m below meth c ls A R args QQ H locs C hr hlk hnm hK hX hsz hl hO hR hQQ
  have hx := C.1
  have hb := C.2.1
  have hown := C.2.2.2.1
  have hts := C.2.2.2.2
  refine lv_iload_n hx hb dX12_isDay_0 rfl (lv_at hl 0 rfl) ?_
  refine lv_iconst (v := (nI 0)) hx hb dX12_isDay_1 (by decide) ?_
  refine lv_sipush (v := (nI 999)) hx hb dX12_isDay_2 (by decide) ?_
  refine cSi0 (As := [.int p1, .int (nI 0), .int (nI 999)]) (rest := []) C hK hX hO (c_X12_in (l := l)) (va_cwS 3 hts gd_X12_74 rfl rfl rfl hd_X12_in (rok hR (Nat.le_of_ble_eq_true rfl) (Nat.le_of_ble_eq_true rfl))) rfl hl.1 rfl (Nat.le_of_ble_eq_true rfl) dX12_isDay_5 ⟨Nat.zero_le _, Nat.zero_le _⟩ (fun r_5 H locs e_5 hO => ?_)
  subst e_5
  exact rz0 hQQ hx hb hr hlk hK hO (z_X12_in p1 (nI 0) (nI 999)) (by unfold f_X12_isDay; rfl) dX12_isDay_8
theorem gd_X12_78 {a : Cond} : GoodIn (a :: wsG) (va_wsS RX12 78 yX12_isSpot (Cond.code yX12_isSpot cX12_isSpot 1 (some .boolean) :: wsG)) := gdS qw6_49 qw6_50 qw1_12 qw6_51
theorem hd_X12_isSpot : yX12_isSpot.cls ≠ "java/lang/invoke/MethodHandle" ∧ yX12_isSpot.cls ≠ "java/lang/invoke/VarHandle" ∧ (parseMethodDescriptor yX12_isSpot.desc).map (fun d => d.parameters.length) = some 1 := by decide +kernel
def wb_X12_yard_70 (p1 : Int32) (p2 : Int32) (k_s : Nat → Int32) (k_stamp : Int32) (k_night : Int32) (Q : Int32 → (Nat → Int32) → (Int32) → (Int32) → Prop) (L_70 : Int32 → Int32 → Prop) (v3_70 : Int32) (v4_70 : Int32) : Prop := (((k_s 6) ≤ v4_70 → ((¬ v3_70 = 0 → (vp_in ((nI 20) + p1) 6700 ∧ (∀ x_128 : Int32, x_128 = (k_s (((nI 20) + p1)).toNatClampNeg) → (vp_in ((nI 20) + p1) 6700 ∧ (Q x_128 (upd k_s ((((nI 20) + p1)).toNatClampNeg) p2) (k_stamp + (nI 1)) (k_night + (nI 1))))))) ∧ (v3_70 = 0 → (Q (-3) k_s k_stamp k_night)))) ∧ (¬ (k_s 6) ≤ v4_70 → (((¬ v3_70 = 0 → (vp_in ((nI 230) + v4_70) 6700))) ∧ (∀ y0_106 : Int32, y0_106 = (if v3_70 = 0 then (nI 0) else (if (k_s (((nI 230) + v4_70)).toNatClampNeg) = p1 then (nI 0) else (nI 1))) → (L_70 y0_106 (v4_70 + (nI 1)))))))
def wl_X12_yard_70 (p1 : Int32) (p2 : Int32) (k_s : Nat → Int32) (k_stamp : Int32) (k_night : Int32) (Q : Int32 → (Nat → Int32) → (Int32) → (Int32) → Prop) : Nat → Int32 → Int32 → Prop
  | 0, _, _ => False
  | n + 1, v3_70, v4_70 => wb_X12_yard_70 p1 p2 k_s k_stamp k_night Q (wl_X12_yard_70 p1 p2 k_s k_stamp k_night Q n) v3_70 v4_70
def wb_X12_yard_26 (p1 : Int32) (p2 : Int32) (k_s : Nat → Int32) (k_stamp : Int32) (k_night : Int32) (Q : Int32 → (Nat → Int32) → (Int32) → (Int32) → Prop) (L_26 : Int32 → Int32 → Prop) (v3_26 : Int32) (v4_26 : Int32) : Prop := (((k_s 3) ≤ v4_26 → (∃ n, wl_X12_yard_70 p1 p2 k_s k_stamp k_night Q n v3_26 (nI 0))) ∧ (¬ (k_s 3) ≤ v4_26 → (((¬ v3_26 = 0 → (vp_in ((nI 114) + v4_26) 6700))) ∧ (∀ y0_60 : Int32, y0_60 = (if v3_26 = 0 then (nI 0) else (if (k_s (((nI 114) + v4_26)).toNatClampNeg) = p1 then (nI 0) else (nI 1))) → (L_26 y0_60 (v4_26 + (nI 1)))))))
def wl_X12_yard_26 (p1 : Int32) (p2 : Int32) (k_s : Nat → Int32) (k_stamp : Int32) (k_night : Int32) (Q : Int32 → (Nat → Int32) → (Int32) → (Int32) → Prop) : Nat → Int32 → Int32 → Prop
  | 0, _, _ => False
  | n + 1, v3_26, v4_26 => wb_X12_yard_26 p1 p2 k_s k_stamp k_night Q (wl_X12_yard_26 p1 p2 k_s k_stamp k_night Q n) v3_26 v4_26
def wp_X12_yard (p1 : Int32) (p2 : Int32) (k_s : Nat → Int32) (k_stamp : Int32) (k_night : Int32) (Q : Int32 → (Nat → Int32) → (Int32) → (Int32) → Prop) : Prop := ((¬ (f_X12_isSpot p1) = 0 → ((¬ (f_X12_in p2 (nI 0) (nI 5)) = 0 → (∃ n, wl_X12_yard_26 p1 p2 k_s k_stamp k_night Q n (nI 1) (nI 0))) ∧ ((f_X12_in p2 (nI 0) (nI 5)) = 0 → (Q (-2) k_s k_stamp k_night)))) ∧ ((f_X12_isSpot p1) = 0 → (Q (-1) k_s k_stamp k_night)))
set_option maxHeartbeats 4000000 in
set_option maxRecDepth 100000 in
theorem c_X12_yard {l : Launch} {D : va_G} {cI cZ cJ : ClassId} {h : Nat} {ad : Nat → Nat} {sz : Nat} {k_thrown : Int32} {k_s : Nat → Int32} {k_image : Nat → Int32} {k_hasImage : Int32} {k_steps : Nat → Int32} {k_read : Int32} {k_spot : Int32} {k_isWrong : Int32} {k_open : Int32} {k_act : Int32} {k_letBy : Nat → Int32} {k_letStamp : Nat → Int32} {k_stamp : Int32} {k_fallen : Nat → Int32} {k_held : Nat → Int32} {k_stands : Nat → Int32} {k_falling : Nat → Int32} {k_away : Nat → Int32} {k_round : Nat → Int32} {k_rests : Nat → Int64} {k_may : Nat → Int32} {k_next : Nat → Int32} {k_could : Nat → Int32} {k_couldNight : Nat → Int32} {k_night : Int32} {k_seats : Nat → Int32} {p1 : Int32} {p2 : Int32} {Q : Int32 → (Nat → Int32) → (Int32) → (Int32) → Prop} (hw : wp_X12_yard p1 p2 k_s k_stamp k_night Q) : Met l yX12_yard (Cond.code yX12_yard cX12_yard 5 (some .int) :: wsG) ({ frames := 2, cells := 0, slots := 0, locals := 42 } : Room) (preW D (tyM cI cZ cJ) (wM cI cZ cJ h ad k_thrown k_s k_image k_hasImage k_steps k_read k_spot k_isWrong k_open k_act k_letBy k_letStamp k_stamp k_fallen k_held k_stands k_falling k_away k_round k_rests k_may k_next k_could k_couldNight k_night k_seats) sz [.ref h, .int p1, .int p2]) (qi3 D (tyM cI cZ cJ) (va_A (wM cI cZ cJ h ad k_thrown k_s k_image k_hasImage k_steps k_read k_spot k_isWrong k_open k_act k_letBy k_letStamp k_stamp k_fallen k_held k_stands k_falling k_away k_round k_rests k_may k_next k_could k_couldNight k_night k_seats) sz) Q (fun k_s' k_stamp' k_night' => (wM cI cZ cJ h ad k_thrown k_s' k_image k_hasImage k_steps k_read k_spot k_isWrong k_open k_act k_letBy k_letStamp k_stamp' k_fallen k_held k_stands k_falling k_away k_round k_rests k_may k_next k_could k_couldNight k_night' k_seats))) 0 0 (va_A (wM cI cZ cJ h ad k_thrown k_s k_image k_hasImage k_steps k_read k_spot k_isWrong k_open k_act k_letBy k_letStamp k_stamp k_fallen k_held k_stands k_falling k_away k_round k_rests k_may k_next k_could k_couldNight k_night k_seats) sz) := by
  refine st_met (cc := cX12_yard) (maxL := 5) (ret := (some .int)) (lv := [(0, .ref h), (1, .int p1), (2, .int p2)]) (Qc := fun A => qi3 D (tyM cI cZ cJ) A Q (fun k_s' k_stamp' k_night' => (wM cI cZ cJ h ad k_thrown k_s' k_image k_hasImage k_steps k_read k_spot k_isWrong k_open k_act k_letBy k_letStamp k_stamp' k_fallen k_held k_stands k_falling k_away k_round k_rests k_may k_next k_could k_couldNight k_night' k_seats))) (by decide) rfl (Nat.le_of_ble_eq_true rfl) rfl ?_
  intro p e s m below meth c ls A R args QQ H locs C hr hlk hnm hK hX hsz hl hO hR hQQ
  have hx := C.1
  have hb := C.2.1
  have hown := C.2.2.2.1
  have hts := C.2.2.2.2
  have hin : ∀ w ∈ u_ws RX12 TX12 26, w ∈ (Cond.code yX12_yard cX12_yard 5 (some .int) :: wsG) := fun w h9 => List.mem_cons_of_mem _ (inG12 w h9)
  have lk_s := hts (Cond.fieldLink RX12 7 "FreeCityModel" "s" "[I") (List.mem_cons_of_mem _ qw5_207)
  have lk_stamp := hts (Cond.fieldLink RX12 27 "FreeCityModel" "stamp" "I") (List.mem_cons_of_mem _ qw5_218)
  have lk_night := hts (Cond.fieldLink RX12 65 "FreeCityModel" "night" "I") (List.mem_cons_of_mem _ qw5_230)
  unfold wp_X12_yard at hw
  refine lv_iload_n hx hb dX12_yard_0 rfl (lv_at hl 1 rfl) ?_
  refine cSi0 (As := [.int p1]) (rest := []) C hK hX hO (c_X12_isSpot (l := l)) (va_cwS 1 hts gd_X12_78 rfl rfl rfl hd_X12_isSpot (rok hR (Nat.le_of_ble_eq_true rfl) (Nat.le_of_ble_eq_true rfl))) rfl hl.1 rfl (Nat.le_of_ble_eq_true rfl) dX12_yard_1 ⟨Nat.zero_le _, Nat.zero_le _⟩ (fun r_1 H locs e_1 hO => ?_)
  subst e_1
  refine lv_if_ne (tgt := 9) hx hb dX12_yard_4 (by decide) (fun q_4 => ?_) (fun q_4 => ?_)
  · have hw := hw.1 q_4
    refine lv_iload_n hx hb dX12_yard_9 rfl (lv_at hl 2 rfl) ?_
    refine lv_iconst (v := (nI 0)) hx hb dX12_yard_10 (by decide) ?_
    refine lv_iconst (v := (nI 5)) hx hb dX12_yard_11 (by decide) ?_
    refine cSi0 (As := [.int p2, .int (nI 0), .int (nI 5)]) (rest := []) C hK hX hO (c_X12_in (l := l)) (va_cwS 3 hts gd_X12_74 rfl rfl rfl hd_X12_in (rok hR (Nat.le_of_ble_eq_true rfl) (Nat.le_of_ble_eq_true rfl))) rfl hl.1 rfl (Nat.le_of_ble_eq_true rfl) dX12_yard_12 ⟨Nat.zero_le _, Nat.zero_le _⟩ (fun r_12 H locs e_12 hO => ?_)
    subst e_12
    refine lv_if_ne (tgt := 21) hx hb dX12_yard_15 (by decide) (fun q_15 => ?_) (fun q_15 => ?_)
    · have hw := hw.1 q_15
      refine lv_iconst (v := (nI 1)) hx hb dX12_yard_21 (by decide) ?_
      refine lv_istore_n (lv' := [(3, .int (nI 1)), (0, .ref h), (1, .int p1), (2, .int p2)]) hx hb dX12_yard_22 rfl hl (by decide) rfl (fun ls hl => ?_)
      refine lv_iconst (v := (nI 0)) hx hb dX12_yard_23 (by decide) ?_
      refine lv_istore (lv' := [(4, .int (nI 0)), (3, .int (nI 1)), (0, .ref h), (1, .int p1), (2, .int p2)]) hx hb dX12_yard_24 hl (by decide) rfl (fun ls hl => ?_)
      obtain ⟨n_26, hw⟩ := hw
      have b_26 : ∀ (L_26 : Int32 → Int32 → Prop) (ih_26 : ∀ (v3_26 : Int32) (v4_26 : Int32) (H : Heap) (locs : List Loc) (ls : Array Slot), okW D A s.heap H locs (wM cI cZ cJ h ad k_thrown k_s k_image k_hasImage k_steps k_read k_spot k_isWrong k_open k_act k_letBy k_letStamp k_stamp k_fallen k_held k_stands k_falling k_away k_round k_rests k_may k_next k_could k_couldNight k_night k_seats) → lv_has ls 5 [(0, .ref h), (1, .int p1), (2, .int p2), (3, .int v3_26), (4, .int v4_26)] → L_26 v3_26 v4_26 → W p l e R s m args below meth c H locs 0 0 QQ (F0 m 26 ls [])) (v3_26 : Int32) (v4_26 : Int32) (H : Heap) (locs : List Loc) (ls : Array Slot), okW D A s.heap H locs (wM cI cZ cJ h ad k_thrown k_s k_image k_hasImage k_steps k_read k_spot k_isWrong k_open k_act k_letBy k_letStamp k_stamp k_fallen k_held k_stands k_falling k_away k_round k_rests k_may k_next k_could k_couldNight k_night k_seats) → lv_has ls 5 [(0, .ref h), (1, .int p1), (2, .int p2), (3, .int v3_26), (4, .int v4_26)] → wb_X12_yard_26 p1 p2 k_s k_stamp k_night Q L_26 v3_26 v4_26 → W p l e R s m args below meth c H locs 0 0 QQ (F0 m 26 ls []) := by
        intro L_26 ih_26 v3_26 v4_26 H locs ls hO hl hw
        unfold wb_X12_yard_26 at hw
        refine lv_iload hx hb dX12_yard_26 (lv_at hl 4 rfl) ?_
        refine lv_aload_n hx hb dX12_yard_28 rfl (lv_at hl 0 rfl) ?_
        refine gM_s C hin hK lk_s hO dX12_yard_29 ?_
        refine lv_iconst (v := (nI 3)) hx hb dX12_yard_32 (by decide) ?_
        refine ldM_s C hK hO (inK 3 6700 (by decide) (by decide)) (clK 3 (by decide)) dX12_yard_33 ?_
        refine lv_icmp_ge (tgt := 67) hx hb dX12_yard_34 (by decide) (fun q_34 => ?_) (fun q_34 => ?_)
        · have hw := hw.1 q_34
          refine lv_iconst (v := (nI 0)) hx hb dX12_yard_67 (by decide) ?_
          refine lv_istore (lv' := [(4, .int (nI 0)), (0, .ref h), (1, .int p1), (2, .int p2), (3, .int v3_26)]) hx hb dX12_yard_68 hl (by decide) rfl (fun ls hl => ?_)
          obtain ⟨n_70, hw⟩ := hw
          have b_70 : ∀ (L_70 : Int32 → Int32 → Prop) (ih_70 : ∀ (v3_70 : Int32) (v4_70 : Int32) (H : Heap) (locs : List Loc) (ls : Array Slot), okW D A s.heap H locs (wM cI cZ cJ h ad k_thrown k_s k_image k_hasImage k_steps k_read k_spot k_isWrong k_open k_act k_letBy k_letStamp k_stamp k_fallen k_held k_stands k_falling k_away k_round k_rests k_may k_next k_could k_couldNight k_night k_seats) → lv_has ls 5 [(0, .ref h), (1, .int p1), (2, .int p2), (3, .int v3_70), (4, .int v4_70)] → L_70 v3_70 v4_70 → W p l e R s m args below meth c H locs 0 0 QQ (F0 m 70 ls [])) (v3_70 : Int32) (v4_70 : Int32) (H : Heap) (locs : List Loc) (ls : Array Slot), okW D A s.heap H locs (wM cI cZ cJ h ad k_thrown k_s k_image k_hasImage k_steps k_read k_spot k_isWrong k_open k_act k_letBy k_letStamp k_stamp k_fallen k_held k_stands k_falling k_away k_round k_rests k_may k_next k_could k_couldNight k_night k_seats) → lv_has ls 5 [(0, .ref h), (1, .int p1), (2, .int p2), (3, .int v3_70), (4, .int v4_70)] → wb_X12_yard_70 p1 p2 k_s k_stamp k_night Q L_70 v3_70 v4_70 → W p l e R s m args below meth c H locs 0 0 QQ (F0 m 70 ls []) := by
            intro L_70 ih_70 v3_70 v4_70 H locs ls hO hl hw
            unfold wb_X12_yard_70 at hw
            refine lv_iload hx hb dX12_yard_70 (lv_at hl 4 rfl) ?_
            refine lv_aload_n hx hb dX12_yard_72 rfl (lv_at hl 0 rfl) ?_
            refine gM_s C hin hK lk_s hO dX12_yard_73 ?_
            refine lv_bipush (v := (nI 6)) hx hb dX12_yard_76 (by decide) ?_
            refine ldM_s C hK hO (inK 6 6700 (by decide) (by decide)) (clK 6 (by decide)) dX12_yard_78 ?_
            refine lv_icmp_ge (tgt := 113) hx hb dX12_yard_79 (by decide) (fun q_79 => ?_) (fun q_79 => ?_)
            · have hw := hw.1 q_79
              refine lv_iload_n hx hb dX12_yard_113 rfl (lv_at hl 3 rfl) ?_
              refine lv_if_ne (tgt := 120) hx hb dX12_yard_114 (by decide) (fun q_114 => ?_) (fun q_114 => ?_)
              · have hw := hw.1 q_114
                refine lv_aload_n hx hb dX12_yard_120 rfl (lv_at hl 0 rfl) ?_
                refine gM_s C hin hK lk_s hO dX12_yard_121 ?_
                refine lv_bipush (v := (nI 20)) hx hb dX12_yard_124 (by decide) ?_
                refine lv_iload_n hx hb dX12_yard_126 rfl (lv_at hl 1 rfl) ?_
                refine lv_iadd hx hb dX12_yard_127 ?_
                obtain ⟨o_128, hw⟩ := hw
                refine ldM_s C hK hO o_128 rfl dX12_yard_128 ?_
                refine lv_topi (fun x_128 ex_128 => ?_)
                have hw := hw x_128 ex_128
                refine lv_istore (lv' := [(4, .int x_128), (0, .ref h), (1, .int p1), (2, .int p2), (3, .int v3_70)]) hx hb dX12_yard_129 hl (by decide) rfl (fun ls hl => ?_)
                refine lv_aload_n hx hb dX12_yard_131 rfl (lv_at hl 1 rfl) ?_
                refine gM_s C hin hK lk_s hO dX12_yard_132 ?_
                refine lv_bipush (v := (nI 20)) hx hb dX12_yard_135 (by decide) ?_
                refine lv_iload_n hx hb dX12_yard_137 rfl (lv_at hl 2 rfl) ?_
                refine lv_iadd hx hb dX12_yard_138 ?_
                refine lv_iload_n hx hb dX12_yard_139 rfl (lv_at hl 3 rfl) ?_
                obtain ⟨o_140, hw⟩ := hw
                refine stM_s C hK hO o_140 rfl dX12_yard_140 (fun H locs hO => ?_)
                refine lv_aload_n hx hb dX12_yard_141 rfl (lv_at hl 1 rfl) ?_
                refine lv_dup hx hb dX12_yard_142 rfl ?_
                refine gM_stamp C hin hK lk_stamp hO dX12_yard_143 ?_
                refine lv_iconst (v := (nI 1)) hx hb dX12_yard_146 (by decide) ?_
                refine lv_iadd hx hb dX12_yard_147 ?_
                refine pM_stamp C hin hK lk_stamp hO dX12_yard_148 (fun H locs hO => ?_)
                refine lv_aload_n hx hb dX12_yard_151 rfl (lv_at hl 1 rfl) ?_
                refine lv_dup hx hb dX12_yard_152 rfl ?_
                refine gM_night C hin hK lk_night hO dX12_yard_153 ?_
                refine lv_iconst (v := (nI 1)) hx hb dX12_yard_156 (by decide) ?_
                refine lv_iadd hx hb dX12_yard_157 ?_
                refine pM_night C hin hK lk_night hO dX12_yard_158 (fun H locs hO => ?_)
                refine lv_iload hx hb dX12_yard_161 (lv_at hl 0 rfl) ?_
                exact ri3 hQQ hx hb hr hlk hK hO hw dX12_yard_163
              · have hw := hw.2 q_114
                refine lv_bipush (v := (-3)) hx hb dX12_yard_117 (by decide) ?_
                exact ri3 hQQ hx hb hr hlk hK hO hw dX12_yard_119
            · have hw := hw.2 q_79
              refine lv_iload_n hx hb dX12_yard_82 rfl (lv_at hl 3 rfl) ?_
              obtain ⟨hs, hw⟩ := hw
              have m_106 : ∀ (y0_106 : Int32) (H : Heap) (locs : List Loc) (ls : Array Slot), y0_106 = (if v3_70 = 0 then (nI 0) else (if (k_s (((nI 230) + v4_70)).toNatClampNeg) = p1 then (nI 0) else (nI 1))) → okW D A s.heap H locs (wM cI cZ cJ h ad k_thrown k_s k_image k_hasImage k_steps k_read k_spot k_isWrong k_open k_act k_letBy k_letStamp k_stamp k_fallen k_held k_stands k_falling k_away k_round k_rests k_may k_next k_could k_couldNight k_night k_seats) → lv_has ls 5 [(0, .ref h), (1, .int p1), (2, .int p2), (4, .int v4_70)] → W p l e R s m args below meth c H locs 0 0 QQ (F0 m 106 ls [.int y0_106]) := by
                intro y0_106 H locs ls ey0_106 hO hl
                have hw := hw y0_106 ey0_106
                refine lv_istore_n (lv' := [(3, .int y0_106), (0, .ref h), (1, .int p1), (2, .int p2), (4, .int v4_70)]) hx hb dX12_yard_106 rfl hl (by decide) rfl (fun ls hl => ?_)
                refine lv_iinc (v := (v4_70 + (nI 1))) (lv' := [(4, .int (v4_70 + (nI 1))), (3, .int y0_106), (0, .ref h), (1, .int p1), (2, .int p2)]) hx hb dX12_yard_107 hl (k := 4) rfl (iinc_1 _) (by decide) rfl (fun ls hl => ?_)
                refine lv_goto (tgt := 70) hx hb dX12_yard_110 (by decide) ?_
                exact ih_70 y0_106 (v4_70 + (nI 1)) _ _ _ hO (lv_sub hl [2, 3, 4, 1, 0] rfl) hw
              refine lv_if_eq (tgt := 105) hx hb dX12_yard_83 (by decide) (fun q_83 => ?_) (fun q_83 => ?_)
              · refine lv_iconst (v := (nI 0)) hx hb dX12_yard_105 (by decide) ?_
                have hl := lv_sub hl [0, 1, 2, 4] rfl (l' := [(0, .ref h), (1, .int p1), (2, .int p2), (4, .int v4_70)])
                exact m_106 _ _ _ _ (by rw [if_pos q_83]) hO hl
              · have hs := hs q_83
                have o_96 := hs
                refine lv_aload_n hx hb dX12_yard_86 rfl (lv_at hl 0 rfl) ?_
                refine gM_s C hin hK lk_s hO dX12_yard_87 ?_
                refine lv_sipush (v := (nI 230)) hx hb dX12_yard_90 (by decide) ?_
                refine lv_iload hx hb dX12_yard_93 (lv_at hl 4 rfl) ?_
                refine lv_iadd hx hb dX12_yard_95 ?_
                refine ldM_s C hK hO o_96 rfl dX12_yard_96 ?_
                refine lv_iload_n hx hb dX12_yard_97 rfl (lv_at hl 1 rfl) ?_
                refine lv_icmp_eq (tgt := 105) hx hb dX12_yard_98 (by decide) (fun q_98 => ?_) (fun q_98 => ?_)
                · refine lv_iconst (v := (nI 0)) hx hb dX12_yard_105 (by decide) ?_
                  have hl := lv_sub hl [0, 1, 2, 4] rfl (l' := [(0, .ref h), (1, .int p1), (2, .int p2), (4, .int v4_70)])
                  exact m_106 _ _ _ _ (by rw [if_neg q_83, if_pos q_98]) hO hl
                · refine lv_iconst (v := (nI 1)) hx hb dX12_yard_101 (by decide) ?_
                  refine lv_goto (tgt := 106) hx hb dX12_yard_102 (by decide) ?_
                  have hl := lv_sub hl [0, 1, 2, 4] rfl (l' := [(0, .ref h), (1, .int p1), (2, .int p2), (4, .int v4_70)])
                  exact m_106 _ _ _ _ (by rw [if_neg q_83, if_neg q_98]) hO hl
          have l_70 : ∀ (n : Nat) (v3_70 : Int32) (v4_70 : Int32) (H : Heap) (locs : List Loc) (ls : Array Slot), okW D A s.heap H locs (wM cI cZ cJ h ad k_thrown k_s k_image k_hasImage k_steps k_read k_spot k_isWrong k_open k_act k_letBy k_letStamp k_stamp k_fallen k_held k_stands k_falling k_away k_round k_rests k_may k_next k_could k_couldNight k_night k_seats) → lv_has ls 5 [(0, .ref h), (1, .int p1), (2, .int p2), (3, .int v3_70), (4, .int v4_70)] → wl_X12_yard_70 p1 p2 k_s k_stamp k_night Q n v3_70 v4_70 → W p l e R s m args below meth c H locs 0 0 QQ (F0 m 70 ls []) := by
            intro n
            induction n with
            | zero => intro v3_70 v4_70 H locs ls hO hl hw; exact False.elim hw
            | succ n ih => exact b_70 _ ih
          exact l_70 n_70 v3_26 (nI 0) _ _ _ hO (lv_sub hl [1, 2, 3, 4, 0] rfl) hw
        · have hw := hw.2 q_34
          refine lv_iload_n hx hb dX12_yard_37 rfl (lv_at hl 3 rfl) ?_
          obtain ⟨hs, hw⟩ := hw
          have m_60 : ∀ (y0_60 : Int32) (H : Heap) (locs : List Loc) (ls : Array Slot), y0_60 = (if v3_26 = 0 then (nI 0) else (if (k_s (((nI 114) + v4_26)).toNatClampNeg) = p1 then (nI 0) else (nI 1))) → okW D A s.heap H locs (wM cI cZ cJ h ad k_thrown k_s k_image k_hasImage k_steps k_read k_spot k_isWrong k_open k_act k_letBy k_letStamp k_stamp k_fallen k_held k_stands k_falling k_away k_round k_rests k_may k_next k_could k_couldNight k_night k_seats) → lv_has ls 5 [(0, .ref h), (1, .int p1), (2, .int p2), (4, .int v4_26)] → W p l e R s m args below meth c H locs 0 0 QQ (F0 m 60 ls [.int y0_60]) := by
            intro y0_60 H locs ls ey0_60 hO hl
            have hw := hw y0_60 ey0_60
            refine lv_istore_n (lv' := [(3, .int y0_60), (0, .ref h), (1, .int p1), (2, .int p2), (4, .int v4_26)]) hx hb dX12_yard_60 rfl hl (by decide) rfl (fun ls hl => ?_)
            refine lv_iinc (v := (v4_26 + (nI 1))) (lv' := [(4, .int (v4_26 + (nI 1))), (3, .int y0_60), (0, .ref h), (1, .int p1), (2, .int p2)]) hx hb dX12_yard_61 hl (k := 4) rfl (iinc_1 _) (by decide) rfl (fun ls hl => ?_)
            refine lv_goto (tgt := 26) hx hb dX12_yard_64 (by decide) ?_
            exact ih_26 y0_60 (v4_26 + (nI 1)) _ _ _ hO (lv_sub hl [2, 3, 4, 1, 0] rfl) hw
          refine lv_if_eq (tgt := 59) hx hb dX12_yard_38 (by decide) (fun q_38 => ?_) (fun q_38 => ?_)
          · refine lv_iconst (v := (nI 0)) hx hb dX12_yard_59 (by decide) ?_
            have hl := lv_sub hl [0, 1, 2, 4] rfl (l' := [(0, .ref h), (1, .int p1), (2, .int p2), (4, .int v4_26)])
            exact m_60 _ _ _ _ (by rw [if_pos q_38]) hO hl
          · have hs := hs q_38
            have o_50 := hs
            refine lv_aload_n hx hb dX12_yard_41 rfl (lv_at hl 0 rfl) ?_
            refine gM_s C hin hK lk_s hO dX12_yard_42 ?_
            refine lv_bipush (v := (nI 114)) hx hb dX12_yard_45 (by decide) ?_
            refine lv_iload hx hb dX12_yard_47 (lv_at hl 4 rfl) ?_
            refine lv_iadd hx hb dX12_yard_49 ?_
            refine ldM_s C hK hO o_50 rfl dX12_yard_50 ?_
            refine lv_iload_n hx hb dX12_yard_51 rfl (lv_at hl 1 rfl) ?_
            refine lv_icmp_eq (tgt := 59) hx hb dX12_yard_52 (by decide) (fun q_52 => ?_) (fun q_52 => ?_)
            · refine lv_iconst (v := (nI 0)) hx hb dX12_yard_59 (by decide) ?_
              have hl := lv_sub hl [0, 1, 2, 4] rfl (l' := [(0, .ref h), (1, .int p1), (2, .int p2), (4, .int v4_26)])
              exact m_60 _ _ _ _ (by rw [if_neg q_38, if_pos q_52]) hO hl
            · refine lv_iconst (v := (nI 1)) hx hb dX12_yard_55 (by decide) ?_
              refine lv_goto (tgt := 60) hx hb dX12_yard_56 (by decide) ?_
              have hl := lv_sub hl [0, 1, 2, 4] rfl (l' := [(0, .ref h), (1, .int p1), (2, .int p2), (4, .int v4_26)])
              exact m_60 _ _ _ _ (by rw [if_neg q_38, if_neg q_52]) hO hl
      have l_26 : ∀ (n : Nat) (v3_26 : Int32) (v4_26 : Int32) (H : Heap) (locs : List Loc) (ls : Array Slot), okW D A s.heap H locs (wM cI cZ cJ h ad k_thrown k_s k_image k_hasImage k_steps k_read k_spot k_isWrong k_open k_act k_letBy k_letStamp k_stamp k_fallen k_held k_stands k_falling k_away k_round k_rests k_may k_next k_could k_couldNight k_night k_seats) → lv_has ls 5 [(0, .ref h), (1, .int p1), (2, .int p2), (3, .int v3_26), (4, .int v4_26)] → wl_X12_yard_26 p1 p2 k_s k_stamp k_night Q n v3_26 v4_26 → W p l e R s m args below meth c H locs 0 0 QQ (F0 m 26 ls []) := by
        intro n
        induction n with
        | zero => intro v3_26 v4_26 H locs ls hO hl hw; exact False.elim hw
        | succ n ih => exact b_26 _ ih
      exact l_26 n_26 (nI 1) (nI 0) _ _ _ hO (lv_sub hl [2, 3, 4, 1, 0] rfl) hw
    · have hw := hw.2 q_15
      refine lv_bipush (v := (-2)) hx hb dX12_yard_18 (by decide) ?_
      exact ri3 hQQ hx hb hr hlk hK hO hw dX12_yard_20
  · have hw := hw.2 q_4
    refine lv_iconst (v := (-1)) hx hb dX12_yard_7 (by decide) ?_
    exact ri3 hQQ hx hb hr hlk hK hO hw dX12_yard_8
def f_X12_areBeside  (p1 : Int32) (p2 : Int32) : Int32 := (if ((((p1 - p1 / (nI 6) * (nI 6)) - (p2 - p2 / (nI 6) * (nI 6))) * ((p1 - p1 / (nI 6) * (nI 6)) - (p2 - p2 / (nI 6) * (nI 6)))) + (((p1 / (nI 6)) - (p2 / (nI 6))) * ((p1 / (nI 6)) - (p2 / (nI 6))))) = (nI 1) then (nI 1) else (nI 0))
theorem z_X12_areBeside  (p1 : Int32) (p2 : Int32) : zb (f_X12_areBeside p1 p2) := by
  unfold f_X12_areBeside
  exact (zb_ite zb1 zb0)
set_option maxHeartbeats 4000000 in
set_option maxRecDepth 100000 in
theorem c_X12_areBeside {l : Launch} {D : va_G} {T : List (ClassId × FieldType)} {ws : va_W} {sz : Nat} {p1 : Int32} {p2 : Int32} : Met l yX12_areBeside (Cond.code yX12_areBeside cX12_areBeside 4 (some .boolean) :: wsG) ({ frames := 0, cells := 0, slots := 0, locals := 0 } : Room) (preW D T ws sz [.int p1, .int p2]) (qi0 D T (va_A ws sz) (fun r => r = f_X12_areBeside p1 p2) ws) 0 0 (va_A ws sz) := by
  refine st_met (cc := cX12_areBeside) (maxL := 4) (ret := (some .boolean)) (lv := [(0, .int p1), (1, .int p2)]) (Qc := fun A => qi0 D T A (fun r => r = f_X12_areBeside p1 p2) ws) (by decide) rfl (Nat.le_of_ble_eq_true rfl) rfl ?_
  intro p e s m below meth c ls A R args QQ H locs C hr hlk hnm hK hX hsz hl hO hR hQQ
  have hx := C.1
  have hb := C.2.1
  have hown := C.2.2.2.1
  have hts := C.2.2.2.2
  refine lv_iload_n hx hb dX12_areBeside_0 rfl (lv_at hl 0 rfl) ?_
  refine lv_bipush (v := (nI 6)) hx hb dX12_areBeside_1 (by decide) ?_
  refine lv_irem hx hb dX12_areBeside_3 (by decide) ?_
  refine lv_iload_n hx hb dX12_areBeside_4 rfl (lv_at hl 1 rfl) ?_
  refine lv_bipush (v := (nI 6)) hx hb dX12_areBeside_5 (by decide) ?_
  refine lv_irem hx hb dX12_areBeside_7 (by decide) ?_
  refine lv_isub hx hb dX12_areBeside_8 ?_
  refine lv_istore_n (lv' := [(2, .int ((p1 - p1 / (nI 6) * (nI 6)) - (p2 - p2 / (nI 6) * (nI 6)))), (0, .int p1), (1, .int p2)]) hx hb dX12_areBeside_9 rfl hl (by decide) rfl (fun ls hl => ?_)
  refine lv_iload_n hx hb dX12_areBeside_10 rfl (lv_at hl 1 rfl) ?_
  refine lv_bipush (v := (nI 6)) hx hb dX12_areBeside_11 (by decide) ?_
  refine lv_idiv hx hb dX12_areBeside_13 (by decide) ?_
  refine lv_iload_n hx hb dX12_areBeside_14 rfl (lv_at hl 2 rfl) ?_
  refine lv_bipush (v := (nI 6)) hx hb dX12_areBeside_15 (by decide) ?_
  refine lv_idiv hx hb dX12_areBeside_17 (by decide) ?_
  refine lv_isub hx hb dX12_areBeside_18 ?_
  refine lv_istore_n (lv' := [(3, .int ((p1 / (nI 6)) - (p2 / (nI 6)))), (2, .int ((p1 - p1 / (nI 6) * (nI 6)) - (p2 - p2 / (nI 6) * (nI 6)))), (0, .int p1), (1, .int p2)]) hx hb dX12_areBeside_19 rfl hl (by decide) rfl (fun ls hl => ?_)
  refine lv_iload_n hx hb dX12_areBeside_20 rfl (lv_at hl 1 rfl) ?_
  refine lv_iload_n hx hb dX12_areBeside_21 rfl (lv_at hl 1 rfl) ?_
  refine lv_imul hx hb dX12_areBeside_22 ?_
  refine lv_iload_n hx hb dX12_areBeside_23 rfl (lv_at hl 0 rfl) ?_
  refine lv_iload_n hx hb dX12_areBeside_24 rfl (lv_at hl 0 rfl) ?_
  refine lv_imul hx hb dX12_areBeside_25 ?_
  refine lv_iadd hx hb dX12_areBeside_26 ?_
  refine lv_iconst (v := (nI 1)) hx hb dX12_areBeside_27 (by decide) ?_
  refine lv_icmp_ne (tgt := 35) hx hb dX12_areBeside_28 (by decide) (fun q_28 => ?_) (fun q_28 => ?_)
  · refine lv_iconst (v := (nI 0)) hx hb dX12_areBeside_35 (by decide) ?_
    exact rz0 hQQ hx hb hr hlk hK hO zb0 (by unfold f_X12_areBeside; rw [if_neg q_28]) dX12_areBeside_36
  · refine lv_iconst (v := (nI 1)) hx hb dX12_areBeside_31 (by decide) ?_
    refine lv_goto (tgt := 36) hx hb dX12_areBeside_32 (by decide) ?_
    exact rz0 hQQ hx hb hr hlk hK hO zb1 (by unfold f_X12_areBeside; rw [if_pos q_28]) dX12_areBeside_36
theorem gd_X12_82 {a : Cond} : GoodIn (a :: wsG) (va_wsS RX12 82 yX12_areBeside (Cond.code yX12_areBeside cX12_areBeside 4 (some .boolean) :: wsG)) := gdS qw6_63 qw6_64 qw1_12 qw6_65
theorem hd_X12_areBeside : yX12_areBeside.cls ≠ "java/lang/invoke/MethodHandle" ∧ yX12_areBeside.cls ≠ "java/lang/invoke/VarHandle" ∧ (parseMethodDescriptor yX12_areBeside.desc).map (fun d => d.parameters.length) = some 2 := by decide +kernel
def wb_X12_farOf_69 (k_s : Nat → Int32) (v4_59 : Int32) (L_59 : Int32 → Int32 → (Nat → Int32) → Prop) (L_69 : Int32 → Int32 → (Nat → Int32) → Prop) (v3_69 : Int32) (v5_69 : Int32) (steps_69 : Nat → Int32) : Prop := (((nI 30) ≤ v5_69 → (L_59 v3_69 (v4_59 + (nI 1)) steps_69)) ∧ (¬ (nI 30) ≤ v5_69 → (((¬ (f_X12_areBeside v4_59 v5_69) = 0 → (vp_in ((nI 20) + v5_69) 6700 ∧ (¬ (k_s (((nI 20) + v5_69)).toNatClampNeg) = (nI 5) → (vp_in v4_59 30 ∧ vp_in v5_69 30))))) ∧ (((¬ (f_X12_areBeside v4_59 v5_69) = 0 ∧ (¬ (k_s (((nI 20) + v5_69)).toNatClampNeg) = (nI 5) ∧ ¬ (steps_69 (v5_69).toNatClampNeg) ≤ ((steps_69 (v4_59).toNatClampNeg) + (nI 1)))) → (vp_in v4_59 30 ∧ (vp_in v5_69 30 ∧ (L_69 (nI 1) (v5_69 + (nI 1)) (upd steps_69 ((v5_69).toNatClampNeg) ((steps_69 (v4_59).toNatClampNeg) + (nI 1))))))) ∧ (¬ ((¬ (f_X12_areBeside v4_59 v5_69) = 0 ∧ (¬ (k_s (((nI 20) + v5_69)).toNatClampNeg) = (nI 5) ∧ ¬ (steps_69 (v5_69).toNatClampNeg) ≤ ((steps_69 (v4_59).toNatClampNeg) + (nI 1))))) → (L_69 v3_69 (v5_69 + (nI 1)) steps_69))))))
def wl_X12_farOf_69 (k_s : Nat → Int32) (v4_59 : Int32) (L_59 : Int32 → Int32 → (Nat → Int32) → Prop) : Nat → Int32 → Int32 → (Nat → Int32) → Prop
  | 0, _, _, _ => False
  | n + 1, v3_69, v5_69, steps_69 => wb_X12_farOf_69 k_s v4_59 L_59 (wl_X12_farOf_69 k_s v4_59 L_59 n) v3_69 v5_69 steps_69
def wb_X12_farOf_59 (k_s : Nat → Int32) (L_50 : Int32 → (Nat → Int32) → Prop) (L_59 : Int32 → Int32 → (Nat → Int32) → Prop) (v3_59 : Int32) (v4_59 : Int32) (steps_59 : Nat → Int32) : Prop := (((nI 30) ≤ v4_59 → (L_50 v3_59 steps_59)) ∧ (¬ (nI 30) ≤ v4_59 → (∃ n, wl_X12_farOf_69 k_s v4_59 L_59 n v3_59 (nI 0) steps_59)))
def wl_X12_farOf_59 (k_s : Nat → Int32) (L_50 : Int32 → (Nat → Int32) → Prop) : Nat → Int32 → Int32 → (Nat → Int32) → Prop
  | 0, _, _, _ => False
  | n + 1, v3_59, v4_59, steps_59 => wb_X12_farOf_59 k_s L_50 (wl_X12_farOf_59 k_s L_50 n) v3_59 v4_59 steps_59
def wb_X12_farOf_50 (p2 : Int32) (k_s : Nat → Int32) (Q : Int32 → (Nat → Int32) → Prop) (L_50 : Int32 → (Nat → Int32) → Prop) (v3_50 : Int32) (steps_50 : Nat → Int32) : Prop := ((v3_50 = 0 → (vp_in p2 30 ∧ (Q (steps_50 (p2).toNatClampNeg) steps_50))) ∧ (¬ v3_50 = 0 → (∃ n, wl_X12_farOf_59 k_s L_50 n (nI 0) (nI 0) steps_50)))
def wl_X12_farOf_50 (p2 : Int32) (k_s : Nat → Int32) (Q : Int32 → (Nat → Int32) → Prop) : Nat → Int32 → (Nat → Int32) → Prop
  | 0, _, _ => False
  | n + 1, v3_50, steps_50 => wb_X12_farOf_50 p2 k_s Q (wl_X12_farOf_50 p2 k_s Q n) v3_50 steps_50
def wb_X12_farOf_2 (p1 : Int32) (p2 : Int32) (k_s : Nat → Int32) (Q : Int32 → (Nat → Int32) → Prop) (L_2 : Int32 → (Nat → Int32) → Prop) (v3_2 : Int32) (steps_2 : Nat → Int32) : Prop := (((nI 30) ≤ v3_2 → (vp_in ((nI 20) + p1) 6700 ∧ (∀ y0_49 : Int32, y0_49 = (if (k_s (((nI 20) + p1)).toNatClampNeg) = (nI 5) then (nI 0) else (nI 1)) → (∃ n, wl_X12_farOf_50 p2 k_s Q n y0_49 steps_2)))) ∧ (¬ (nI 30) ≤ v3_2 → (∀ y2_24 : Int32, y2_24 = (if v3_2 = p1 then (nI 0) else (nI 99)) → (vp_in v3_2 30 ∧ (L_2 (v3_2 + (nI 1)) (upd steps_2 ((v3_2).toNatClampNeg) y2_24))))))
def wl_X12_farOf_2 (p1 : Int32) (p2 : Int32) (k_s : Nat → Int32) (Q : Int32 → (Nat → Int32) → Prop) : Nat → Int32 → (Nat → Int32) → Prop
  | 0, _, _ => False
  | n + 1, v3_2, steps_2 => wb_X12_farOf_2 p1 p2 k_s Q (wl_X12_farOf_2 p1 p2 k_s Q n) v3_2 steps_2
def wp_X12_farOf (p1 : Int32) (p2 : Int32) (k_s : Nat → Int32) (k_steps : Nat → Int32) (Q : Int32 → (Nat → Int32) → Prop) : Prop := (∃ n, wl_X12_farOf_2 p1 p2 k_s Q n (nI 0) k_steps)
set_option maxHeartbeats 4000000 in
set_option maxRecDepth 100000 in
theorem c_X12_farOf {l : Launch} {D : va_G} {cI cZ cJ : ClassId} {h : Nat} {ad : Nat → Nat} {sz : Nat} {k_thrown : Int32} {k_s : Nat → Int32} {k_image : Nat → Int32} {k_hasImage : Int32} {k_steps : Nat → Int32} {k_read : Int32} {k_spot : Int32} {k_isWrong : Int32} {k_open : Int32} {k_act : Int32} {k_letBy : Nat → Int32} {k_letStamp : Nat → Int32} {k_stamp : Int32} {k_fallen : Nat → Int32} {k_held : Nat → Int32} {k_stands : Nat → Int32} {k_falling : Nat → Int32} {k_away : Nat → Int32} {k_round : Nat → Int32} {k_rests : Nat → Int64} {k_may : Nat → Int32} {k_next : Nat → Int32} {k_could : Nat → Int32} {k_couldNight : Nat → Int32} {k_night : Int32} {k_seats : Nat → Int32} {p1 : Int32} {p2 : Int32} {Q : Int32 → (Nat → Int32) → Prop} (hw : wp_X12_farOf p1 p2 k_s k_steps Q) : Met l yX12_farOf (Cond.code yX12_farOf cX12_farOf 6 (some .int) :: wsG) ({ frames := 1, cells := 0, slots := 0, locals := 23 } : Room) (preW D (tyM cI cZ cJ) (wM cI cZ cJ h ad k_thrown k_s k_image k_hasImage k_steps k_read k_spot k_isWrong k_open k_act k_letBy k_letStamp k_stamp k_fallen k_held k_stands k_falling k_away k_round k_rests k_may k_next k_could k_couldNight k_night k_seats) sz [.ref h, .int p1, .int p2]) (qi1 D (tyM cI cZ cJ) (va_A (wM cI cZ cJ h ad k_thrown k_s k_image k_hasImage k_steps k_read k_spot k_isWrong k_open k_act k_letBy k_letStamp k_stamp k_fallen k_held k_stands k_falling k_away k_round k_rests k_may k_next k_could k_couldNight k_night k_seats) sz) Q (fun k_steps' => (wM cI cZ cJ h ad k_thrown k_s k_image k_hasImage k_steps' k_read k_spot k_isWrong k_open k_act k_letBy k_letStamp k_stamp k_fallen k_held k_stands k_falling k_away k_round k_rests k_may k_next k_could k_couldNight k_night k_seats))) 0 0 (va_A (wM cI cZ cJ h ad k_thrown k_s k_image k_hasImage k_steps k_read k_spot k_isWrong k_open k_act k_letBy k_letStamp k_stamp k_fallen k_held k_stands k_falling k_away k_round k_rests k_may k_next k_could k_couldNight k_night k_seats) sz) := by
  refine st_met (cc := cX12_farOf) (maxL := 6) (ret := (some .int)) (lv := [(0, .ref h), (1, .int p1), (2, .int p2)]) (Qc := fun A => qi1 D (tyM cI cZ cJ) A Q (fun k_steps' => (wM cI cZ cJ h ad k_thrown k_s k_image k_hasImage k_steps' k_read k_spot k_isWrong k_open k_act k_letBy k_letStamp k_stamp k_fallen k_held k_stands k_falling k_away k_round k_rests k_may k_next k_could k_couldNight k_night k_seats))) (by decide) rfl (Nat.le_of_ble_eq_true rfl) rfl ?_
  intro p e s m below meth c ls A R args QQ H locs C hr hlk hnm hK hX hsz hl hO hR hQQ
  have hx := C.1
  have hb := C.2.1
  have hown := C.2.2.2.1
  have hts := C.2.2.2.2
  have hin : ∀ w ∈ u_ws RX12 TX12 26, w ∈ (Cond.code yX12_farOf cX12_farOf 6 (some .int) :: wsG) := fun w h9 => List.mem_cons_of_mem _ (inG12 w h9)
  have lk_steps := hts (Cond.fieldLink RX12 16 "FreeCityModel" "steps" "[I") (List.mem_cons_of_mem _ qw5_210)
  have lk_s := hts (Cond.fieldLink RX12 7 "FreeCityModel" "s" "[I") (List.mem_cons_of_mem _ qw5_207)
  unfold wp_X12_farOf at hw
  refine lv_iconst (v := (nI 0)) hx hb dX12_farOf_0 (by decide) ?_
  refine lv_istore_n (lv' := [(3, .int (nI 0)), (0, .ref h), (1, .int p1), (2, .int p2)]) hx hb dX12_farOf_1 rfl hl (by decide) rfl (fun ls hl => ?_)
  obtain ⟨n_2, hw⟩ := hw
  have b_2 : ∀ (L_2 : Int32 → (Nat → Int32) → Prop) (ih_2 : ∀ (v3_2 : Int32) (steps_2 : Nat → Int32) (H : Heap) (locs : List Loc) (ls : Array Slot), okW D A s.heap H locs (wM cI cZ cJ h ad k_thrown k_s k_image k_hasImage steps_2 k_read k_spot k_isWrong k_open k_act k_letBy k_letStamp k_stamp k_fallen k_held k_stands k_falling k_away k_round k_rests k_may k_next k_could k_couldNight k_night k_seats) → lv_has ls 6 [(0, .ref h), (1, .int p1), (2, .int p2), (3, .int v3_2)] → L_2 v3_2 steps_2 → W p l e R s m args below meth c H locs 0 0 QQ (F0 m 2 ls [])) (v3_2 : Int32) (steps_2 : Nat → Int32) (H : Heap) (locs : List Loc) (ls : Array Slot), okW D A s.heap H locs (wM cI cZ cJ h ad k_thrown k_s k_image k_hasImage steps_2 k_read k_spot k_isWrong k_open k_act k_letBy k_letStamp k_stamp k_fallen k_held k_stands k_falling k_away k_round k_rests k_may k_next k_could k_couldNight k_night k_seats) → lv_has ls 6 [(0, .ref h), (1, .int p1), (2, .int p2), (3, .int v3_2)] → wb_X12_farOf_2 p1 p2 k_s Q L_2 v3_2 steps_2 → W p l e R s m args below meth c H locs 0 0 QQ (F0 m 2 ls []) := by
    intro L_2 ih_2 v3_2 steps_2 H locs ls hO hl hw
    unfold wb_X12_farOf_2 at hw
    refine lv_iload_n hx hb dX12_farOf_2 rfl (lv_at hl 3 rfl) ?_
    refine lv_bipush (v := (nI 30)) hx hb dX12_farOf_3 (by decide) ?_
    refine lv_icmp_ge (tgt := 31) hx hb dX12_farOf_5 (by decide) (fun q_5 => ?_) (fun q_5 => ?_)
    · have hw := hw.1 q_5
      refine lv_aload_n hx hb dX12_farOf_31 rfl (lv_at hl 0 rfl) ?_
      refine gM_s C hin hK lk_s hO dX12_farOf_32 ?_
      refine lv_bipush (v := (nI 20)) hx hb dX12_farOf_35 (by decide) ?_
      refine lv_iload_n hx hb dX12_farOf_37 rfl (lv_at hl 1 rfl) ?_
      refine lv_iadd hx hb dX12_farOf_38 ?_
      obtain ⟨o_39, hw⟩ := hw
      refine ldM_s C hK hO o_39 rfl dX12_farOf_39 ?_
      refine lv_iconst (v := (nI 5)) hx hb dX12_farOf_40 (by decide) ?_
      have m_49 : ∀ (y0_49 : Int32) (H : Heap) (locs : List Loc) (ls : Array Slot), y0_49 = (if (k_s (((nI 20) + p1)).toNatClampNeg) = (nI 5) then (nI 0) else (nI 1)) → okW D A s.heap H locs (wM cI cZ cJ h ad k_thrown k_s k_image k_hasImage steps_2 k_read k_spot k_isWrong k_open k_act k_letBy k_letStamp k_stamp k_fallen k_held k_stands k_falling k_away k_round k_rests k_may k_next k_could k_couldNight k_night k_seats) → lv_has ls 6 [(0, .ref h), (2, .int p2)] → W p l e R s m args below meth c H locs 0 0 QQ (F0 m 49 ls [.int y0_49]) := by
        intro y0_49 H locs ls ey0_49 hO hl
        have hw := hw y0_49 ey0_49
        refine lv_istore_n (lv' := [(3, .int y0_49), (0, .ref h), (2, .int p2)]) hx hb dX12_farOf_49 rfl hl (by decide) rfl (fun ls hl => ?_)
        obtain ⟨n_50, hw⟩ := hw
        have b_50 : ∀ (L_50 : Int32 → (Nat → Int32) → Prop) (ih_50 : ∀ (v3_50 : Int32) (steps_50 : Nat → Int32) (H : Heap) (locs : List Loc) (ls : Array Slot), okW D A s.heap H locs (wM cI cZ cJ h ad k_thrown k_s k_image k_hasImage steps_50 k_read k_spot k_isWrong k_open k_act k_letBy k_letStamp k_stamp k_fallen k_held k_stands k_falling k_away k_round k_rests k_may k_next k_could k_couldNight k_night k_seats) → lv_has ls 6 [(0, .ref h), (2, .int p2), (3, .int v3_50)] → L_50 v3_50 steps_50 → W p l e R s m args below meth c H locs 0 0 QQ (F0 m 50 ls [])) (v3_50 : Int32) (steps_50 : Nat → Int32) (H : Heap) (locs : List Loc) (ls : Array Slot), okW D A s.heap H locs (wM cI cZ cJ h ad k_thrown k_s k_image k_hasImage steps_50 k_read k_spot k_isWrong k_open k_act k_letBy k_letStamp k_stamp k_fallen k_held k_stands k_falling k_away k_round k_rests k_may k_next k_could k_couldNight k_night k_seats) → lv_has ls 6 [(0, .ref h), (2, .int p2), (3, .int v3_50)] → wb_X12_farOf_50 p2 k_s Q L_50 v3_50 steps_50 → W p l e R s m args below meth c H locs 0 0 QQ (F0 m 50 ls []) := by
          intro L_50 ih_50 v3_50 steps_50 H locs ls hO hl hw
          unfold wb_X12_farOf_50 at hw
          refine lv_iload_n hx hb dX12_farOf_50 rfl (lv_at hl 2 rfl) ?_
          refine lv_if_eq (tgt := 152) hx hb dX12_farOf_51 (by decide) (fun q_51 => ?_) (fun q_51 => ?_)
          · have hw := hw.1 q_51
            refine lv_aload_n hx hb dX12_farOf_152 rfl (lv_at hl 0 rfl) ?_
            refine gM_steps C hin hK lk_steps hO dX12_farOf_153 ?_
            refine lv_iload_n hx hb dX12_farOf_156 rfl (lv_at hl 1 rfl) ?_
            obtain ⟨o_157, hw⟩ := hw
            refine ldM_steps C hK hO o_157 rfl dX12_farOf_157 ?_
            exact ri1 hQQ hx hb hr hlk hK hO hw dX12_farOf_158
          · have hw := hw.2 q_51
            refine lv_iconst (v := (nI 0)) hx hb dX12_farOf_54 (by decide) ?_
            refine lv_istore_n (lv' := [(3, .int (nI 0)), (0, .ref h), (2, .int p2)]) hx hb dX12_farOf_55 rfl hl (by decide) rfl (fun ls hl => ?_)
            refine lv_iconst (v := (nI 0)) hx hb dX12_farOf_56 (by decide) ?_
            refine lv_istore (lv' := [(4, .int (nI 0)), (3, .int (nI 0)), (0, .ref h), (2, .int p2)]) hx hb dX12_farOf_57 hl (by decide) rfl (fun ls hl => ?_)
            obtain ⟨n_59, hw⟩ := hw
            have b_59 : ∀ (L_59 : Int32 → Int32 → (Nat → Int32) → Prop) (ih_59 : ∀ (v3_59 : Int32) (v4_59 : Int32) (steps_59 : Nat → Int32) (H : Heap) (locs : List Loc) (ls : Array Slot), okW D A s.heap H locs (wM cI cZ cJ h ad k_thrown k_s k_image k_hasImage steps_59 k_read k_spot k_isWrong k_open k_act k_letBy k_letStamp k_stamp k_fallen k_held k_stands k_falling k_away k_round k_rests k_may k_next k_could k_couldNight k_night k_seats) → lv_has ls 6 [(0, .ref h), (2, .int p2), (3, .int v3_59), (4, .int v4_59)] → L_59 v3_59 v4_59 steps_59 → W p l e R s m args below meth c H locs 0 0 QQ (F0 m 59 ls [])) (v3_59 : Int32) (v4_59 : Int32) (steps_59 : Nat → Int32) (H : Heap) (locs : List Loc) (ls : Array Slot), okW D A s.heap H locs (wM cI cZ cJ h ad k_thrown k_s k_image k_hasImage steps_59 k_read k_spot k_isWrong k_open k_act k_letBy k_letStamp k_stamp k_fallen k_held k_stands k_falling k_away k_round k_rests k_may k_next k_could k_couldNight k_night k_seats) → lv_has ls 6 [(0, .ref h), (2, .int p2), (3, .int v3_59), (4, .int v4_59)] → wb_X12_farOf_59 k_s L_50 L_59 v3_59 v4_59 steps_59 → W p l e R s m args below meth c H locs 0 0 QQ (F0 m 59 ls []) := by
              intro L_59 ih_59 v3_59 v4_59 steps_59 H locs ls hO hl hw
              unfold wb_X12_farOf_59 at hw
              refine lv_iload hx hb dX12_farOf_59 (lv_at hl 3 rfl) ?_
              refine lv_bipush (v := (nI 30)) hx hb dX12_farOf_61 (by decide) ?_
              refine lv_icmp_ge (tgt := 149) hx hb dX12_farOf_63 (by decide) (fun q_63 => ?_) (fun q_63 => ?_)
              · have hw := hw.1 q_63
                refine lv_goto (tgt := 50) hx hb dX12_farOf_149 (by decide) ?_
                exact ih_50 v3_59 steps_59 _ _ _ hO (lv_sub hl [0, 1, 2] rfl) hw
              · have hw := hw.2 q_63
                refine lv_iconst (v := (nI 0)) hx hb dX12_farOf_66 (by decide) ?_
                refine lv_istore (lv' := [(5, .int (nI 0)), (0, .ref h), (2, .int p2), (3, .int v3_59), (4, .int v4_59)]) hx hb dX12_farOf_67 hl (by decide) rfl (fun ls hl => ?_)
                obtain ⟨n_69, hw⟩ := hw
                have b_69 : ∀ (L_69 : Int32 → Int32 → (Nat → Int32) → Prop) (ih_69 : ∀ (v3_69 : Int32) (v5_69 : Int32) (steps_69 : Nat → Int32) (H : Heap) (locs : List Loc) (ls : Array Slot), okW D A s.heap H locs (wM cI cZ cJ h ad k_thrown k_s k_image k_hasImage steps_69 k_read k_spot k_isWrong k_open k_act k_letBy k_letStamp k_stamp k_fallen k_held k_stands k_falling k_away k_round k_rests k_may k_next k_could k_couldNight k_night k_seats) → lv_has ls 6 [(0, .ref h), (2, .int p2), (3, .int v3_69), (4, .int v4_59), (5, .int v5_69)] → L_69 v3_69 v5_69 steps_69 → W p l e R s m args below meth c H locs 0 0 QQ (F0 m 69 ls [])) (v3_69 : Int32) (v5_69 : Int32) (steps_69 : Nat → Int32) (H : Heap) (locs : List Loc) (ls : Array Slot), okW D A s.heap H locs (wM cI cZ cJ h ad k_thrown k_s k_image k_hasImage steps_69 k_read k_spot k_isWrong k_open k_act k_letBy k_letStamp k_stamp k_fallen k_held k_stands k_falling k_away k_round k_rests k_may k_next k_could k_couldNight k_night k_seats) → lv_has ls 6 [(0, .ref h), (2, .int p2), (3, .int v3_69), (4, .int v4_59), (5, .int v5_69)] → wb_X12_farOf_69 k_s v4_59 L_59 L_69 v3_69 v5_69 steps_69 → W p l e R s m args below meth c H locs 0 0 QQ (F0 m 69 ls []) := by
                  intro L_69 ih_69 v3_69 v5_69 steps_69 H locs ls hO hl hw
                  unfold wb_X12_farOf_69 at hw
                  refine lv_iload hx hb dX12_farOf_69 (lv_at hl 4 rfl) ?_
                  refine lv_bipush (v := (nI 30)) hx hb dX12_farOf_71 (by decide) ?_
                  refine lv_icmp_ge (tgt := 143) hx hb dX12_farOf_73 (by decide) (fun q_73 => ?_) (fun q_73 => ?_)
                  · have hw := hw.1 q_73
                    refine lv_iinc (v := (v4_59 + (nI 1))) (lv' := [(4, .int (v4_59 + (nI 1))), (0, .ref h), (2, .int p2), (3, .int v3_69), (5, .int v5_69)]) hx hb dX12_farOf_143 hl (k := 3) rfl (iinc_1 _) (by decide) rfl (fun ls hl => ?_)
                    refine lv_goto (tgt := 59) hx hb dX12_farOf_146 (by decide) ?_
                    exact ih_59 v3_69 (v4_59 + (nI 1)) steps_69 _ _ _ hO (lv_sub hl [1, 2, 3, 0] rfl) hw
                  · have hw := hw.2 q_73
                    refine lv_iload hx hb dX12_farOf_76 (lv_at hl 3 rfl) ?_
                    refine lv_iload hx hb dX12_farOf_78 (lv_at hl 4 rfl) ?_
                    refine cSi0 (As := [.int v4_59, .int v5_69]) (rest := []) C hK hX hO (c_X12_areBeside (l := l)) (va_cwS 2 hts gd_X12_82 rfl rfl rfl hd_X12_areBeside (rok hR (Nat.le_of_ble_eq_true rfl) (Nat.le_of_ble_eq_true rfl))) rfl hl.1 rfl (Nat.le_of_ble_eq_true rfl) dX12_farOf_80 ⟨Nat.zero_le _, Nat.zero_le _⟩ (fun r_80 H locs e_80 hO => ?_)
                    subst e_80
                    obtain ⟨hs, hw⟩ := hw
                    have a_119 : (¬ (f_X12_areBeside v4_59 v5_69) = 0 ∧ (¬ (k_s (((nI 20) + v5_69)).toNatClampNeg) = (nI 5) ∧ ¬ (steps_69 (v5_69).toNatClampNeg) ≤ ((steps_69 (v4_59).toNatClampNeg) + (nI 1)))) → ∀ (H : Heap) (locs : List Loc) (ls : Array Slot), okW D A s.heap H locs (wM cI cZ cJ h ad k_thrown k_s k_image k_hasImage steps_69 k_read k_spot k_isWrong k_open k_act k_letBy k_letStamp k_stamp k_fallen k_held k_stands k_falling k_away k_round k_rests k_may k_next k_could k_couldNight k_night k_seats) → lv_has ls 6 [(0, .ref h), (2, .int p2), (4, .int v4_59), (5, .int v5_69)] → W p l e R s m args below meth c H locs 0 0 QQ (F0 m 119 ls []) := by
                      intro cf H locs ls hO hl
                      have hw := hw.1 cf
                      refine lv_aload_n hx hb dX12_farOf_119 rfl (lv_at hl 0 rfl) ?_
                      refine gM_steps C hin hK lk_steps hO dX12_farOf_120 ?_
                      refine lv_iload hx hb dX12_farOf_123 (lv_at hl 3 rfl) ?_
                      refine lv_aload_n hx hb dX12_farOf_125 rfl (lv_at hl 0 rfl) ?_
                      refine gM_steps C hin hK lk_steps hO dX12_farOf_126 ?_
                      refine lv_iload hx hb dX12_farOf_129 (lv_at hl 2 rfl) ?_
                      obtain ⟨o_131, hw⟩ := hw
                      refine ldM_steps C hK hO o_131 rfl dX12_farOf_131 ?_
                      refine lv_iconst (v := (nI 1)) hx hb dX12_farOf_132 (by decide) ?_
                      refine lv_iadd hx hb dX12_farOf_133 ?_
                      obtain ⟨o_134, hw⟩ := hw
                      refine stM_steps C hK hO o_134 rfl dX12_farOf_134 (fun H locs hO => ?_)
                      refine lv_iconst (v := (nI 1)) hx hb dX12_farOf_135 (by decide) ?_
                      refine lv_istore_n (lv' := [(3, .int (nI 1)), (0, .ref h), (2, .int p2), (4, .int v4_59), (5, .int v5_69)]) hx hb dX12_farOf_136 rfl hl (by decide) rfl (fun ls hl => ?_)
                      refine lv_iinc (v := (v5_69 + (nI 1))) (lv' := [(5, .int (v5_69 + (nI 1))), (3, .int (nI 1)), (0, .ref h), (2, .int p2), (4, .int v4_59)]) hx hb dX12_farOf_137 hl (k := 4) rfl (iinc_1 _) (by decide) rfl (fun ls hl => ?_)
                      refine lv_goto (tgt := 69) hx hb dX12_farOf_140 (by decide) ?_
                      exact ih_69 (nI 1) (v5_69 + (nI 1)) (upd steps_69 ((v5_69).toNatClampNeg) ((steps_69 (v4_59).toNatClampNeg) + (nI 1))) _ _ _ hO (lv_sub hl [2, 3, 1, 4, 0] rfl) hw
                    have a_137 : ¬ ((¬ (f_X12_areBeside v4_59 v5_69) = 0 ∧ (¬ (k_s (((nI 20) + v5_69)).toNatClampNeg) = (nI 5) ∧ ¬ (steps_69 (v5_69).toNatClampNeg) ≤ ((steps_69 (v4_59).toNatClampNeg) + (nI 1))))) → ∀ (H : Heap) (locs : List Loc) (ls : Array Slot), okW D A s.heap H locs (wM cI cZ cJ h ad k_thrown k_s k_image k_hasImage steps_69 k_read k_spot k_isWrong k_open k_act k_letBy k_letStamp k_stamp k_fallen k_held k_stands k_falling k_away k_round k_rests k_may k_next k_could k_couldNight k_night k_seats) → lv_has ls 6 [(0, .ref h), (2, .int p2), (3, .int v3_69), (4, .int v4_59), (5, .int v5_69)] → W p l e R s m args below meth c H locs 0 0 QQ (F0 m 137 ls []) := by
                      intro cf H locs ls hO hl
                      have hw := hw.2 cf
                      refine lv_iinc (v := (v5_69 + (nI 1))) (lv' := [(5, .int (v5_69 + (nI 1))), (0, .ref h), (2, .int p2), (3, .int v3_69), (4, .int v4_59)]) hx hb dX12_farOf_137 hl (k := 4) rfl (iinc_1 _) (by decide) rfl (fun ls hl => ?_)
                      refine lv_goto (tgt := 69) hx hb dX12_farOf_140 (by decide) ?_
                      exact ih_69 v3_69 (v5_69 + (nI 1)) steps_69 _ _ _ hO (lv_sub hl [1, 2, 3, 4, 0] rfl) hw
                    refine lv_if_eq (tgt := 137) hx hb dX12_farOf_83 (by decide) (fun q_83 => ?_) (fun q_83 => ?_)
                    · have hl := lv_sub hl [0, 1, 2, 3, 4] rfl (l' := [(0, .ref h), (2, .int p2), (3, .int v3_69), (4, .int v4_59), (5, .int v5_69)])
                      exact a_137 (fun h => h.1 q_83) _ _ _ hO hl
                    · have hs := hs q_83
                      obtain ⟨o_95, hs⟩ := hs
                      refine lv_aload_n hx hb dX12_farOf_86 rfl (lv_at hl 0 rfl) ?_
                      refine gM_s C hin hK lk_s hO dX12_farOf_87 ?_
                      refine lv_bipush (v := (nI 20)) hx hb dX12_farOf_90 (by decide) ?_
                      refine lv_iload hx hb dX12_farOf_92 (lv_at hl 4 rfl) ?_
                      refine lv_iadd hx hb dX12_farOf_94 ?_
                      refine ldM_s C hK hO o_95 rfl dX12_farOf_95 ?_
                      refine lv_iconst (v := (nI 5)) hx hb dX12_farOf_96 (by decide) ?_
                      refine lv_icmp_eq (tgt := 137) hx hb dX12_farOf_97 (by decide) (fun q_97 => ?_) (fun q_97 => ?_)
                      · have hl := lv_sub hl [0, 1, 2, 3, 4] rfl (l' := [(0, .ref h), (2, .int p2), (3, .int v3_69), (4, .int v4_59), (5, .int v5_69)])
                        exact a_137 (fun h => ((fun h => h.1 q_97)) h.2) _ _ _ hO hl
                      · have hs := hs q_97
                        obtain ⟨o_106, o_115⟩ := hs
                        refine lv_aload_n hx hb dX12_farOf_100 rfl (lv_at hl 0 rfl) ?_
                        refine gM_steps C hin hK lk_steps hO dX12_farOf_101 ?_
                        refine lv_iload hx hb dX12_farOf_104 (lv_at hl 3 rfl) ?_
                        refine ldM_steps C hK hO o_106 rfl dX12_farOf_106 ?_
                        refine lv_iconst (v := (nI 1)) hx hb dX12_farOf_107 (by decide) ?_
                        refine lv_iadd hx hb dX12_farOf_108 ?_
                        refine lv_aload_n hx hb dX12_farOf_109 rfl (lv_at hl 0 rfl) ?_
                        refine gM_steps C hin hK lk_steps hO dX12_farOf_110 ?_
                        refine lv_iload hx hb dX12_farOf_113 (lv_at hl 4 rfl) ?_
                        refine ldM_steps C hK hO o_115 rfl dX12_farOf_115 ?_
                        refine lv_icmp_ge (tgt := 137) hx hb dX12_farOf_116 (by decide) (fun q_116 => ?_) (fun q_116 => ?_)
                        · have hl := lv_sub hl [0, 1, 2, 3, 4] rfl (l' := [(0, .ref h), (2, .int p2), (3, .int v3_69), (4, .int v4_59), (5, .int v5_69)])
                          exact a_137 (fun h => ((fun h => ((fun h => h q_116)) h.2)) h.2) _ _ _ hO hl
                        · have hl := lv_sub hl [0, 1, 3, 4] rfl (l' := [(0, .ref h), (2, .int p2), (4, .int v4_59), (5, .int v5_69)])
                          exact a_119 ⟨q_83, ⟨q_97, q_116⟩⟩ _ _ _ hO hl
                have l_69 : ∀ (n : Nat) (v3_69 : Int32) (v5_69 : Int32) (steps_69 : Nat → Int32) (H : Heap) (locs : List Loc) (ls : Array Slot), okW D A s.heap H locs (wM cI cZ cJ h ad k_thrown k_s k_image k_hasImage steps_69 k_read k_spot k_isWrong k_open k_act k_letBy k_letStamp k_stamp k_fallen k_held k_stands k_falling k_away k_round k_rests k_may k_next k_could k_couldNight k_night k_seats) → lv_has ls 6 [(0, .ref h), (2, .int p2), (3, .int v3_69), (4, .int v4_59), (5, .int v5_69)] → wl_X12_farOf_69 k_s v4_59 L_59 n v3_69 v5_69 steps_69 → W p l e R s m args below meth c H locs 0 0 QQ (F0 m 69 ls []) := by
                  intro n
                  induction n with
                  | zero => intro v3_69 v5_69 steps_69 H locs ls hO hl hw; exact False.elim hw
                  | succ n ih => exact b_69 _ ih
                exact l_69 n_69 v3_59 (nI 0) steps_59 _ _ _ hO (lv_sub hl [1, 2, 3, 4, 0] rfl) hw
            have l_59 : ∀ (n : Nat) (v3_59 : Int32) (v4_59 : Int32) (steps_59 : Nat → Int32) (H : Heap) (locs : List Loc) (ls : Array Slot), okW D A s.heap H locs (wM cI cZ cJ h ad k_thrown k_s k_image k_hasImage steps_59 k_read k_spot k_isWrong k_open k_act k_letBy k_letStamp k_stamp k_fallen k_held k_stands k_falling k_away k_round k_rests k_may k_next k_could k_couldNight k_night k_seats) → lv_has ls 6 [(0, .ref h), (2, .int p2), (3, .int v3_59), (4, .int v4_59)] → wl_X12_farOf_59 k_s L_50 n v3_59 v4_59 steps_59 → W p l e R s m args below meth c H locs 0 0 QQ (F0 m 59 ls []) := by
              intro n
              induction n with
              | zero => intro v3_59 v4_59 steps_59 H locs ls hO hl hw; exact False.elim hw
              | succ n ih => exact b_59 _ ih
            exact l_59 n_59 (nI 0) (nI 0) steps_50 _ _ _ hO (lv_sub hl [2, 3, 1, 0] rfl) hw
        have l_50 : ∀ (n : Nat) (v3_50 : Int32) (steps_50 : Nat → Int32) (H : Heap) (locs : List Loc) (ls : Array Slot), okW D A s.heap H locs (wM cI cZ cJ h ad k_thrown k_s k_image k_hasImage steps_50 k_read k_spot k_isWrong k_open k_act k_letBy k_letStamp k_stamp k_fallen k_held k_stands k_falling k_away k_round k_rests k_may k_next k_could k_couldNight k_night k_seats) → lv_has ls 6 [(0, .ref h), (2, .int p2), (3, .int v3_50)] → wl_X12_farOf_50 p2 k_s Q n v3_50 steps_50 → W p l e R s m args below meth c H locs 0 0 QQ (F0 m 50 ls []) := by
          intro n
          induction n with
          | zero => intro v3_50 steps_50 H locs ls hO hl hw; exact False.elim hw
          | succ n ih => exact b_50 _ ih
        exact l_50 n_50 y0_49 steps_2 _ _ _ hO (lv_sub hl [1, 2, 0] rfl) hw
      refine lv_icmp_eq (tgt := 48) hx hb dX12_farOf_41 (by decide) (fun q_41 => ?_) (fun q_41 => ?_)
      · refine lv_iconst (v := (nI 0)) hx hb dX12_farOf_48 (by decide) ?_
        have hl := lv_sub hl [0, 2] rfl (l' := [(0, .ref h), (2, .int p2)])
        exact m_49 _ _ _ _ (by rw [if_pos q_41]) hO hl
      · refine lv_iconst (v := (nI 1)) hx hb dX12_farOf_44 (by decide) ?_
        refine lv_goto (tgt := 49) hx hb dX12_farOf_45 (by decide) ?_
        have hl := lv_sub hl [0, 2] rfl (l' := [(0, .ref h), (2, .int p2)])
        exact m_49 _ _ _ _ (by rw [if_neg q_41]) hO hl
    · have hw := hw.2 q_5
      refine lv_aload_n hx hb dX12_farOf_8 rfl (lv_at hl 0 rfl) ?_
      refine gM_steps C hin hK lk_steps hO dX12_farOf_9 ?_
      refine lv_iload_n hx hb dX12_farOf_12 rfl (lv_at hl 3 rfl) ?_
      refine lv_iload_n hx hb dX12_farOf_13 rfl (lv_at hl 3 rfl) ?_
      refine lv_iload_n hx hb dX12_farOf_14 rfl (lv_at hl 1 rfl) ?_
      have m_24 : ∀ (y2_24 : Int32) (H : Heap) (locs : List Loc) (ls : Array Slot), y2_24 = (if v3_2 = p1 then (nI 0) else (nI 99)) → okW D A s.heap H locs (wM cI cZ cJ h ad k_thrown k_s k_image k_hasImage steps_2 k_read k_spot k_isWrong k_open k_act k_letBy k_letStamp k_stamp k_fallen k_held k_stands k_falling k_away k_round k_rests k_may k_next k_could k_couldNight k_night k_seats) → lv_has ls 6 [(0, .ref h), (1, .int p1), (2, .int p2), (3, .int v3_2)] → W p l e R s m args below meth c H locs 0 0 QQ (F0 m 24 ls [.int y2_24, .int v3_2, .ref (ad 4)]) := by
        intro y2_24 H locs ls ey2_24 hO hl
        have hw := hw y2_24 ey2_24
        obtain ⟨o_24, hw⟩ := hw
        refine stM_steps C hK hO o_24 rfl dX12_farOf_24 (fun H locs hO => ?_)
        refine lv_iinc (v := (v3_2 + (nI 1))) (lv' := [(3, .int (v3_2 + (nI 1))), (0, .ref h), (1, .int p1), (2, .int p2)]) hx hb dX12_farOf_25 hl (k := 3) rfl (iinc_1 _) (by decide) rfl (fun ls hl => ?_)
        refine lv_goto (tgt := 2) hx hb dX12_farOf_28 (by decide) ?_
        exact ih_2 (v3_2 + (nI 1)) (upd steps_2 ((v3_2).toNatClampNeg) y2_24) _ _ _ hO (lv_sub hl [1, 2, 3, 0] rfl) hw
      refine lv_icmp_ne (tgt := 22) hx hb dX12_farOf_15 (by decide) (fun q_15 => ?_) (fun q_15 => ?_)
      · refine lv_bipush (v := (nI 99)) hx hb dX12_farOf_22 (by decide) ?_
        have hl := lv_sub hl [0, 1, 2, 3] rfl (l' := [(0, .ref h), (1, .int p1), (2, .int p2), (3, .int v3_2)])
        exact m_24 _ _ _ _ (by rw [if_neg q_15]) hO hl
      · refine lv_iconst (v := (nI 0)) hx hb dX12_farOf_18 (by decide) ?_
        refine lv_goto (tgt := 24) hx hb dX12_farOf_19 (by decide) ?_
        have hl := lv_sub hl [0, 1, 2, 3] rfl (l' := [(0, .ref h), (1, .int p1), (2, .int p2), (3, .int v3_2)])
        exact m_24 _ _ _ _ (by rw [if_pos q_15]) hO hl
  have l_2 : ∀ (n : Nat) (v3_2 : Int32) (steps_2 : Nat → Int32) (H : Heap) (locs : List Loc) (ls : Array Slot), okW D A s.heap H locs (wM cI cZ cJ h ad k_thrown k_s k_image k_hasImage steps_2 k_read k_spot k_isWrong k_open k_act k_letBy k_letStamp k_stamp k_fallen k_held k_stands k_falling k_away k_round k_rests k_may k_next k_could k_couldNight k_night k_seats) → lv_has ls 6 [(0, .ref h), (1, .int p1), (2, .int p2), (3, .int v3_2)] → wl_X12_farOf_2 p1 p2 k_s Q n v3_2 steps_2 → W p l e R s m args below meth c H locs 0 0 QQ (F0 m 2 ls []) := by
    intro n
    induction n with
    | zero => intro v3_2 steps_2 H locs ls hO hl hw; exact False.elim hw
    | succ n ih => exact b_2 _ ih
  exact l_2 n_2 (nI 0) k_steps _ _ _ hO (lv_sub hl [1, 2, 3, 0] rfl) hw
theorem gd_X12_86 {a : Cond} : GoodIn (a :: wsG) (wsV RX12 86 RX12 yX12_farOf (Cond.code yX12_farOf cX12_farOf 6 (some .int) :: wsG)) := gdV qw6_59 qw6_61 qs_34 qw1_12 qw6_62
theorem hd_X12_farOf : yX12_farOf.cls = RX12 ∧ yX12_farOf.cls ≠ "java/lang/invoke/MethodHandle" ∧ yX12_farOf.cls ≠ "java/lang/invoke/VarHandle" ∧ (parseMethodDescriptor yX12_farOf.desc).map (fun d => d.parameters.length) = some 2 := by decide +kernel
def wp_X12_line (p1 : Int32) (p2 : Int32) (k_s : Nat → Int32) (k_steps : Nat → Int32) (Q : Int32 → (Nat → Int32) → Prop) : Prop := (((¬ (f_X12_isSpot p1) = 0 ∧ ¬ (f_X12_isSpot p2) = 0) → (wp_X12_farOf p1 p2 k_s k_steps (fun (r_17 : Int32) (steps_17 : Nat → Int32) => (Q r_17 steps_17)))) ∧ (¬ ((¬ (f_X12_isSpot p1) = 0 ∧ ¬ (f_X12_isSpot p2) = 0)) → (Q (-1) k_steps)))
set_option maxHeartbeats 4000000 in
set_option maxRecDepth 100000 in
theorem c_X12_line {l : Launch} {D : va_G} {cI cZ cJ : ClassId} {h : Nat} {ad : Nat → Nat} {sz : Nat} {k_thrown : Int32} {k_s : Nat → Int32} {k_image : Nat → Int32} {k_hasImage : Int32} {k_steps : Nat → Int32} {k_read : Int32} {k_spot : Int32} {k_isWrong : Int32} {k_open : Int32} {k_act : Int32} {k_letBy : Nat → Int32} {k_letStamp : Nat → Int32} {k_stamp : Int32} {k_fallen : Nat → Int32} {k_held : Nat → Int32} {k_stands : Nat → Int32} {k_falling : Nat → Int32} {k_away : Nat → Int32} {k_round : Nat → Int32} {k_rests : Nat → Int64} {k_may : Nat → Int32} {k_next : Nat → Int32} {k_could : Nat → Int32} {k_couldNight : Nat → Int32} {k_night : Int32} {k_seats : Nat → Int32} {p1 : Int32} {p2 : Int32} {Q : Int32 → (Nat → Int32) → Prop} (hw : wp_X12_line p1 p2 k_s k_steps Q) : Met l yX12_line (Cond.code yX12_line cX12_line 3 (some .int) :: wsG) ({ frames := 2, cells := 0, slots := 0, locals := 48 } : Room) (preW D (tyM cI cZ cJ) (wM cI cZ cJ h ad k_thrown k_s k_image k_hasImage k_steps k_read k_spot k_isWrong k_open k_act k_letBy k_letStamp k_stamp k_fallen k_held k_stands k_falling k_away k_round k_rests k_may k_next k_could k_couldNight k_night k_seats) sz [.ref h, .int p1, .int p2]) (qi1 D (tyM cI cZ cJ) (va_A (wM cI cZ cJ h ad k_thrown k_s k_image k_hasImage k_steps k_read k_spot k_isWrong k_open k_act k_letBy k_letStamp k_stamp k_fallen k_held k_stands k_falling k_away k_round k_rests k_may k_next k_could k_couldNight k_night k_seats) sz) Q (fun k_steps' => (wM cI cZ cJ h ad k_thrown k_s k_image k_hasImage k_steps' k_read k_spot k_isWrong k_open k_act k_letBy k_letStamp k_stamp k_fallen k_held k_stands k_falling k_away k_round k_rests k_may k_next k_could k_couldNight k_night k_seats))) 0 0 (va_A (wM cI cZ cJ h ad k_thrown k_s k_image k_hasImage k_steps k_read k_spot k_isWrong k_open k_act k_letBy k_letStamp k_stamp k_fallen k_held k_stands k_falling k_away k_round k_rests k_may k_next k_could k_couldNight k_night k_seats) sz) := by
  refine st_met (cc := cX12_line) (maxL := 3) (ret := (some .int)) (lv := [(0, .ref h), (1, .int p1), (2, .int p2)]) (Qc := fun A => qi1 D (tyM cI cZ cJ) A Q (fun k_steps' => (wM cI cZ cJ h ad k_thrown k_s k_image k_hasImage k_steps' k_read k_spot k_isWrong k_open k_act k_letBy k_letStamp k_stamp k_fallen k_held k_stands k_falling k_away k_round k_rests k_may k_next k_could k_couldNight k_night k_seats))) (by decide) rfl (Nat.le_of_ble_eq_true rfl) rfl ?_
  intro p e s m below meth c ls A R args QQ H locs C hr hlk hnm hK hX hsz hl hO hR hQQ
  have hx := C.1
  have hb := C.2.1
  have hown := C.2.2.2.1
  have hts := C.2.2.2.2
  have hin : ∀ w ∈ u_ws RX12 TX12 26, w ∈ (Cond.code yX12_line cX12_line 3 (some .int) :: wsG) := fun w h9 => List.mem_cons_of_mem _ (inG12 w h9)
  unfold wp_X12_line at hw
  refine lv_iload_n hx hb dX12_line_0 rfl (lv_at hl 1 rfl) ?_
  refine cSi0 (As := [.int p1]) (rest := []) C hK hX hO (c_X12_isSpot (l := l)) (va_cwS 1 hts gd_X12_78 rfl rfl rfl hd_X12_isSpot (rok hR (Nat.le_of_ble_eq_true rfl) (Nat.le_of_ble_eq_true rfl))) rfl hl.1 rfl (Nat.le_of_ble_eq_true rfl) dX12_line_1 ⟨Nat.zero_le _, Nat.zero_le _⟩ (fun r_1 H locs e_1 hO => ?_)
  subst e_1
  have a_14 : (¬ (f_X12_isSpot p1) = 0 ∧ ¬ (f_X12_isSpot p2) = 0) → ∀ (H : Heap) (locs : List Loc) (ls : Array Slot), okW D A s.heap H locs (wM cI cZ cJ h ad k_thrown k_s k_image k_hasImage k_steps k_read k_spot k_isWrong k_open k_act k_letBy k_letStamp k_stamp k_fallen k_held k_stands k_falling k_away k_round k_rests k_may k_next k_could k_couldNight k_night k_seats) → lv_has ls 3 [(0, .ref h), (1, .int p1), (2, .int p2)] → W p l e R s m args below meth c H locs 0 0 QQ (F0 m 14 ls []) := by
    intro cf H locs ls hO hl
    have hw := hw.1 cf
    refine lv_aload_n hx hb dX12_line_14 rfl (lv_at hl 0 rfl) ?_
    refine lv_iload_n hx hb dX12_line_15 rfl (lv_at hl 1 rfl) ?_
    refine lv_iload_n hx hb dX12_line_16 rfl (lv_at hl 2 rfl) ?_
    refine cVi1 (As := [.int p1, .int p2]) (rest := []) C hK hX hO (c_X12_farOf (l := l) hw) (cwV 2 hts gd_X12_86 rfl rfl rfl hd_X12_farOf (rok hR (Nat.le_of_ble_eq_true rfl) (Nat.le_of_ble_eq_true rfl))) (ci := 12) (q0 := 0) rfl rfl rfl rfl hl.1 rfl (Nat.le_of_ble_eq_true rfl) dX12_line_17 ⟨Nat.zero_le _, Nat.zero_le _⟩ (fun r_17 steps_17 H locs hw hO => ?_)
    refine lv_goto (tgt := 24) hx hb dX12_line_20 (by decide) ?_
    exact ri1 hQQ hx hb hr hlk hK hO hw dX12_line_24
  have a_23 : ¬ ((¬ (f_X12_isSpot p1) = 0 ∧ ¬ (f_X12_isSpot p2) = 0)) → ∀ (H : Heap) (locs : List Loc) (ls : Array Slot), okW D A s.heap H locs (wM cI cZ cJ h ad k_thrown k_s k_image k_hasImage k_steps k_read k_spot k_isWrong k_open k_act k_letBy k_letStamp k_stamp k_fallen k_held k_stands k_falling k_away k_round k_rests k_may k_next k_could k_couldNight k_night k_seats) → lv_has ls 3 [] → W p l e R s m args below meth c H locs 0 0 QQ (F0 m 23 ls []) := by
    intro cf H locs ls hO hl
    have hw := hw.2 cf
    refine lv_iconst (v := (-1)) hx hb dX12_line_23 (by decide) ?_
    exact ri1 hQQ hx hb hr hlk hK hO hw dX12_line_24
  refine lv_if_eq (tgt := 23) hx hb dX12_line_4 (by decide) (fun q_4 => ?_) (fun q_4 => ?_)
  · have hl := lv_sub hl [] rfl (l' := [])
    exact a_23 (fun h => h.1 q_4) _ _ _ hO hl
  · refine lv_iload_n hx hb dX12_line_7 rfl (lv_at hl 2 rfl) ?_
    refine cSi0 (As := [.int p2]) (rest := []) C hK hX hO (c_X12_isSpot (l := l)) (va_cwS 1 hts gd_X12_78 rfl rfl rfl hd_X12_isSpot (rok hR (Nat.le_of_ble_eq_true rfl) (Nat.le_of_ble_eq_true rfl))) rfl hl.1 rfl (Nat.le_of_ble_eq_true rfl) dX12_line_8 ⟨Nat.zero_le _, Nat.zero_le _⟩ (fun r_8 H locs e_8 hO => ?_)
    subst e_8
    refine lv_if_eq (tgt := 23) hx hb dX12_line_11 (by decide) (fun q_11 => ?_) (fun q_11 => ?_)
    · have hl := lv_sub hl [] rfl (l' := [])
      exact a_23 (fun h => ((fun h => h q_11)) h.2) _ _ _ hO hl
    · have hl := lv_sub hl [0, 1, 2] rfl (l' := [(0, .ref h), (1, .int p1), (2, .int p2)])
      exact a_14 ⟨q_4, q_11⟩ _ _ _ hO hl
def wb_X12_hears_22 (k_s : Nat → Int32) (Q : (Nat → Int32) → Prop) (L_22 : Int32 → Int32 → Prop) (v1_22 : Int32) (v2_22 : Int32) : Prop := (((k_s 2) ≤ v2_22 → ((v1_22 = (-1) → (Q k_s)) ∧ (¬ v1_22 = (-1) → (vp_in ((nI 1760) + v1_22) 6700 ∧ (vp_in ((nI 1810) + v1_22) 6700 ∧ (vp_in ((nI 1710) + v1_22) 6700 ∧ (∀ y2_171 : Int32, y2_171 = (if ((upd (upd k_s ((((nI 1760) + v1_22)).toNatClampNeg) (nI 1)) ((((nI 1810) + v1_22)).toNatClampNeg) ((upd k_s ((((nI 1760) + v1_22)).toNatClampNeg) (nI 1)) 0)) (((nI 1710) + v1_22)).toNatClampNeg) ≤ (nI 50) then (nI 0) else (nI 1)) → (vp_in ((nI 1860) + v1_22) 6700 ∧ (vp_in ((nI 1610) + v1_22) 6700 ∧ (vp_in ((nI 1710) + v1_22) 6700 ∧ (((((upd (upd (upd k_s ((((nI 1760) + v1_22)).toNatClampNeg) (nI 1)) ((((nI 1810) + v1_22)).toNatClampNeg) ((upd k_s ((((nI 1760) + v1_22)).toNatClampNeg) (nI 1)) 0)) ((((nI 1860) + v1_22)).toNatClampNeg) y2_171) (((nI 1710) + v1_22)).toNatClampNeg) ≤ (nI 50) → (vp_in ((nI 1610) + v1_22) 6700 ∧ vp_in ((nI 1860) + ((upd (upd (upd k_s ((((nI 1760) + v1_22)).toNatClampNeg) (nI 1)) ((((nI 1810) + v1_22)).toNatClampNeg) ((upd k_s ((((nI 1760) + v1_22)).toNatClampNeg) (nI 1)) 0)) ((((nI 1860) + v1_22)).toNatClampNeg) y2_171) (((nI 1610) + v1_22)).toNatClampNeg)) 6700))) ∧ (∀ y2_228 : Int32, y2_228 = (if ((upd (upd (upd k_s ((((nI 1760) + v1_22)).toNatClampNeg) (nI 1)) ((((nI 1810) + v1_22)).toNatClampNeg) ((upd k_s ((((nI 1760) + v1_22)).toNatClampNeg) (nI 1)) 0)) ((((nI 1860) + v1_22)).toNatClampNeg) y2_171) (((nI 1710) + v1_22)).toNatClampNeg) ≤ (nI 50) then ((upd (upd (upd k_s ((((nI 1760) + v1_22)).toNatClampNeg) (nI 1)) ((((nI 1810) + v1_22)).toNatClampNeg) ((upd k_s ((((nI 1760) + v1_22)).toNatClampNeg) (nI 1)) 0)) ((((nI 1860) + v1_22)).toNatClampNeg) y2_171) (((nI 1860) + ((upd (upd (upd k_s ((((nI 1760) + v1_22)).toNatClampNeg) (nI 1)) ((((nI 1810) + v1_22)).toNatClampNeg) ((upd k_s ((((nI 1760) + v1_22)).toNatClampNeg) (nI 1)) 0)) ((((nI 1860) + v1_22)).toNatClampNeg) y2_171) (((nI 1610) + v1_22)).toNatClampNeg))).toNatClampNeg) else (nI 1)) → (vp_in ((nI 1860) + ((upd (upd (upd k_s ((((nI 1760) + v1_22)).toNatClampNeg) (nI 1)) ((((nI 1810) + v1_22)).toNatClampNeg) ((upd k_s ((((nI 1760) + v1_22)).toNatClampNeg) (nI 1)) 0)) ((((nI 1860) + v1_22)).toNatClampNeg) y2_171) (((nI 1610) + v1_22)).toNatClampNeg)) 6700 ∧ (Q (upd (upd (upd (upd k_s ((((nI 1760) + v1_22)).toNatClampNeg) (nI 1)) ((((nI 1810) + v1_22)).toNatClampNeg) ((upd k_s ((((nI 1760) + v1_22)).toNatClampNeg) (nI 1)) 0)) ((((nI 1860) + v1_22)).toNatClampNeg) y2_171) ((((nI 1860) + ((upd (upd (upd k_s ((((nI 1760) + v1_22)).toNatClampNeg) (nI 1)) ((((nI 1810) + v1_22)).toNatClampNeg) ((upd k_s ((((nI 1760) + v1_22)).toNatClampNeg) (nI 1)) 0)) ((((nI 1860) + v1_22)).toNatClampNeg) y2_171) (((nI 1610) + v1_22)).toNatClampNeg))).toNatClampNeg) y2_228))))))))))))))) ∧ (¬ (k_s 2) ≤ v2_22 → (vp_in ((nI 1310) + v2_22) 6700 ∧ ((((k_s (((nI 1310) + v2_22)).toNatClampNeg) = (nI 7) → (vp_in ((nI 1760) + v2_22) 6700))) ∧ (∀ y0_65 : Int32, y0_65 = (if (k_s (((nI 1310) + v2_22)).toNatClampNeg) = (nI 7) then (if (k_s (((nI 1760) + v2_22)).toNatClampNeg) = 0 then (nI 1) else (nI 0)) else (nI 0)) → (((¬ y0_65 = 0 → ((¬ v1_22 = (-1) → (vp_in ((nI 1660) + v2_22) 6700 ∧ vp_in ((nI 1660) + v1_22) 6700))))) ∧ (∀ y0_103 : Int32, y0_103 = (if y0_65 = 0 then v1_22 else (if v1_22 = (-1) then v2_22 else (if (k_s (((nI 1660) + v1_22)).toNatClampNeg) ≤ (k_s (((nI 1660) + v2_22)).toNatClampNeg) then v1_22 else v2_22))) → (L_22 y0_103 (v2_22 + (nI 1))))))))))
def wl_X12_hears_22 (k_s : Nat → Int32) (Q : (Nat → Int32) → Prop) : Nat → Int32 → Int32 → Prop
  | 0, _, _ => False
  | n + 1, v1_22, v2_22 => wb_X12_hears_22 k_s Q (wl_X12_hears_22 k_s Q n) v1_22 v2_22
def wp_X12_hears  (k_s : Nat → Int32) (Q : (Nat → Int32) → Prop) : Prop := (¬ (k_s 13) = 0 ∧ ((((k_s 0) - (k_s 0) / (k_s 13) * (k_s 13)) = 0 → (∃ n, wl_X12_hears_22 k_s Q n (-1) (nI 0))) ∧ (¬ ((k_s 0) - (k_s 0) / (k_s 13) * (k_s 13)) = 0 → (Q k_s))))
set_option maxHeartbeats 4000000 in
set_option maxRecDepth 100000 in
theorem c_X12_hears {l : Launch} {D : va_G} {cI cZ cJ : ClassId} {h : Nat} {ad : Nat → Nat} {sz : Nat} {k_thrown : Int32} {k_s : Nat → Int32} {k_image : Nat → Int32} {k_hasImage : Int32} {k_steps : Nat → Int32} {k_read : Int32} {k_spot : Int32} {k_isWrong : Int32} {k_open : Int32} {k_act : Int32} {k_letBy : Nat → Int32} {k_letStamp : Nat → Int32} {k_stamp : Int32} {k_fallen : Nat → Int32} {k_held : Nat → Int32} {k_stands : Nat → Int32} {k_falling : Nat → Int32} {k_away : Nat → Int32} {k_round : Nat → Int32} {k_rests : Nat → Int64} {k_may : Nat → Int32} {k_next : Nat → Int32} {k_could : Nat → Int32} {k_couldNight : Nat → Int32} {k_night : Int32} {k_seats : Nat → Int32}  {Q : (Nat → Int32) → Prop} (hw : wp_X12_hears k_s Q) : Met l yX12_hears (Cond.code yX12_hears cX12_hears 4 none :: wsG) ({ frames := 0, cells := 0, slots := 0, locals := 0 } : Room) (preW D (tyM cI cZ cJ) (wM cI cZ cJ h ad k_thrown k_s k_image k_hasImage k_steps k_read k_spot k_isWrong k_open k_act k_letBy k_letStamp k_stamp k_fallen k_held k_stands k_falling k_away k_round k_rests k_may k_next k_could k_couldNight k_night k_seats) sz [.ref h]) (qv1 D (tyM cI cZ cJ) (va_A (wM cI cZ cJ h ad k_thrown k_s k_image k_hasImage k_steps k_read k_spot k_isWrong k_open k_act k_letBy k_letStamp k_stamp k_fallen k_held k_stands k_falling k_away k_round k_rests k_may k_next k_could k_couldNight k_night k_seats) sz) Q (fun k_s' => (wM cI cZ cJ h ad k_thrown k_s' k_image k_hasImage k_steps k_read k_spot k_isWrong k_open k_act k_letBy k_letStamp k_stamp k_fallen k_held k_stands k_falling k_away k_round k_rests k_may k_next k_could k_couldNight k_night k_seats))) 0 0 (va_A (wM cI cZ cJ h ad k_thrown k_s k_image k_hasImage k_steps k_read k_spot k_isWrong k_open k_act k_letBy k_letStamp k_stamp k_fallen k_held k_stands k_falling k_away k_round k_rests k_may k_next k_could k_couldNight k_night k_seats) sz) := by
  refine st_met (cc := cX12_hears) (maxL := 4) (ret := none) (lv := [(0, .ref h)]) (Qc := fun A => qv1 D (tyM cI cZ cJ) A Q (fun k_s' => (wM cI cZ cJ h ad k_thrown k_s' k_image k_hasImage k_steps k_read k_spot k_isWrong k_open k_act k_letBy k_letStamp k_stamp k_fallen k_held k_stands k_falling k_away k_round k_rests k_may k_next k_could k_couldNight k_night k_seats))) (by decide) rfl (Nat.le_of_ble_eq_true rfl) rfl ?_
  intro p e s m below meth c ls A R args QQ H locs C hr hlk hnm hK hX hsz hl hO hR hQQ
  have hx := C.1
  have hb := C.2.1
  have hown := C.2.2.2.1
  have hts := C.2.2.2.2
  have hin : ∀ w ∈ u_ws RX12 TX12 26, w ∈ (Cond.code yX12_hears cX12_hears 4 none :: wsG) := fun w h9 => List.mem_cons_of_mem _ (inG12 w h9)
  have lk_s := hts (Cond.fieldLink RX12 7 "FreeCityModel" "s" "[I") (List.mem_cons_of_mem _ qw5_207)
  unfold wp_X12_hears at hw
  refine lv_aload_n hx hb dX12_hears_0 rfl (lv_at hl 0 rfl) ?_
  refine gM_s C hin hK lk_s hO dX12_hears_1 ?_
  refine lv_iconst (v := (nI 0)) hx hb dX12_hears_4 (by decide) ?_
  refine ldM_s C hK hO (inK 0 6700 (by decide) (by decide)) (clK 0 (by decide)) dX12_hears_5 ?_
  refine lv_aload_n hx hb dX12_hears_6 rfl (lv_at hl 0 rfl) ?_
  refine gM_s C hin hK lk_s hO dX12_hears_7 ?_
  refine lv_bipush (v := (nI 13)) hx hb dX12_hears_10 (by decide) ?_
  refine ldM_s C hK hO (inK 13 6700 (by decide) (by decide)) (clK 13 (by decide)) dX12_hears_12 ?_
  obtain ⟨o_13, hw⟩ := hw
  refine lv_irem hx hb dX12_hears_13 o_13 ?_
  refine lv_if_eq (tgt := 18) hx hb dX12_hears_14 (by decide) (fun q_14 => ?_) (fun q_14 => ?_)
  · have hw := hw.1 q_14
    refine lv_iconst (v := (-1)) hx hb dX12_hears_18 (by decide) ?_
    refine lv_istore_n (lv' := [(1, .int (-1)), (0, .ref h)]) hx hb dX12_hears_19 rfl hl (by decide) rfl (fun ls hl => ?_)
    refine lv_iconst (v := (nI 0)) hx hb dX12_hears_20 (by decide) ?_
    refine lv_istore_n (lv' := [(2, .int (nI 0)), (1, .int (-1)), (0, .ref h)]) hx hb dX12_hears_21 rfl hl (by decide) rfl (fun ls hl => ?_)
    obtain ⟨n_22, hw⟩ := hw
    have b_22 : ∀ (L_22 : Int32 → Int32 → Prop) (ih_22 : ∀ (v1_22 : Int32) (v2_22 : Int32) (H : Heap) (locs : List Loc) (ls : Array Slot), okW D A s.heap H locs (wM cI cZ cJ h ad k_thrown k_s k_image k_hasImage k_steps k_read k_spot k_isWrong k_open k_act k_letBy k_letStamp k_stamp k_fallen k_held k_stands k_falling k_away k_round k_rests k_may k_next k_could k_couldNight k_night k_seats) → lv_has ls 4 [(0, .ref h), (1, .int v1_22), (2, .int v2_22)] → L_22 v1_22 v2_22 → W p l e R s m args below meth c H locs 0 0 QQ (F0 m 22 ls [])) (v1_22 : Int32) (v2_22 : Int32) (H : Heap) (locs : List Loc) (ls : Array Slot), okW D A s.heap H locs (wM cI cZ cJ h ad k_thrown k_s k_image k_hasImage k_steps k_read k_spot k_isWrong k_open k_act k_letBy k_letStamp k_stamp k_fallen k_held k_stands k_falling k_away k_round k_rests k_may k_next k_could k_couldNight k_night k_seats) → lv_has ls 4 [(0, .ref h), (1, .int v1_22), (2, .int v2_22)] → wb_X12_hears_22 k_s Q L_22 v1_22 v2_22 → W p l e R s m args below meth c H locs 0 0 QQ (F0 m 22 ls []) := by
      intro L_22 ih_22 v1_22 v2_22 H locs ls hO hl hw
      unfold wb_X12_hears_22 at hw
      refine lv_iload_n hx hb dX12_hears_22 rfl (lv_at hl 2 rfl) ?_
      refine lv_aload_n hx hb dX12_hears_23 rfl (lv_at hl 0 rfl) ?_
      refine gM_s C hin hK lk_s hO dX12_hears_24 ?_
      refine lv_iconst (v := (nI 2)) hx hb dX12_hears_27 (by decide) ?_
      refine ldM_s C hK hO (inK 2 6700 (by decide) (by decide)) (clK 2 (by decide)) dX12_hears_28 ?_
      refine lv_icmp_ge (tgt := 110) hx hb dX12_hears_29 (by decide) (fun q_29 => ?_) (fun q_29 => ?_)
      · have hw := hw.1 q_29
        refine lv_iload_n hx hb dX12_hears_110 rfl (lv_at hl 1 rfl) ?_
        refine lv_iconst (v := (-1)) hx hb dX12_hears_111 (by decide) ?_
        refine lv_icmp_eq (tgt := 229) hx hb dX12_hears_112 (by decide) (fun q_112 => ?_) (fun q_112 => ?_)
        · have hw := hw.1 q_112
          exact rv1 hQQ hx hb hr hlk hK hO hw dX12_hears_229
        · have hw := hw.2 q_112
          refine lv_aload_n hx hb dX12_hears_115 rfl (lv_at hl 0 rfl) ?_
          refine gM_s C hin hK lk_s hO dX12_hears_116 ?_
          refine lv_sipush (v := (nI 1760)) hx hb dX12_hears_119 (by decide) ?_
          refine lv_iload_n hx hb dX12_hears_122 rfl (lv_at hl 1 rfl) ?_
          refine lv_iadd hx hb dX12_hears_123 ?_
          refine lv_iconst (v := (nI 1)) hx hb dX12_hears_124 (by decide) ?_
          obtain ⟨o_125, hw⟩ := hw
          refine stM_s C hK hO o_125 rfl dX12_hears_125 (fun H locs hO => ?_)
          refine lv_aload_n hx hb dX12_hears_126 rfl (lv_at hl 0 rfl) ?_
          refine gM_s C hin hK lk_s hO dX12_hears_127 ?_
          refine lv_sipush (v := (nI 1810)) hx hb dX12_hears_130 (by decide) ?_
          refine lv_iload_n hx hb dX12_hears_133 rfl (lv_at hl 1 rfl) ?_
          refine lv_iadd hx hb dX12_hears_134 ?_
          refine lv_aload_n hx hb dX12_hears_135 rfl (lv_at hl 0 rfl) ?_
          refine gM_s C hin hK lk_s hO dX12_hears_136 ?_
          refine lv_iconst (v := (nI 0)) hx hb dX12_hears_139 (by decide) ?_
          refine ldM_s C hK hO (inK 0 6700 (by decide) (by decide)) (clK 0 (by decide)) dX12_hears_140 ?_
          obtain ⟨o_141, hw⟩ := hw
          refine stM_s C hK hO o_141 rfl dX12_hears_141 (fun H locs hO => ?_)
          refine lv_aload_n hx hb dX12_hears_142 rfl (lv_at hl 0 rfl) ?_
          refine gM_s C hin hK lk_s hO dX12_hears_143 ?_
          refine lv_sipush (v := (nI 1860)) hx hb dX12_hears_146 (by decide) ?_
          refine lv_iload_n hx hb dX12_hears_149 rfl (lv_at hl 1 rfl) ?_
          refine lv_iadd hx hb dX12_hears_150 ?_
          refine lv_aload_n hx hb dX12_hears_151 rfl (lv_at hl 0 rfl) ?_
          refine gM_s C hin hK lk_s hO dX12_hears_152 ?_
          refine lv_sipush (v := (nI 1710)) hx hb dX12_hears_155 (by decide) ?_
          refine lv_iload_n hx hb dX12_hears_158 rfl (lv_at hl 1 rfl) ?_
          refine lv_iadd hx hb dX12_hears_159 ?_
          obtain ⟨o_160, hw⟩ := hw
          refine ldM_s C hK hO o_160 rfl dX12_hears_160 ?_
          refine lv_bipush (v := (nI 50)) hx hb dX12_hears_161 (by decide) ?_
          have m_171 : ∀ (y2_171 : Int32) (H : Heap) (locs : List Loc) (ls : Array Slot), y2_171 = (if ((upd (upd k_s ((((nI 1760) + v1_22)).toNatClampNeg) (nI 1)) ((((nI 1810) + v1_22)).toNatClampNeg) ((upd k_s ((((nI 1760) + v1_22)).toNatClampNeg) (nI 1)) 0)) (((nI 1710) + v1_22)).toNatClampNeg) ≤ (nI 50) then (nI 0) else (nI 1)) → okW D A s.heap H locs (wM cI cZ cJ h ad k_thrown (upd (upd k_s ((((nI 1760) + v1_22)).toNatClampNeg) (nI 1)) ((((nI 1810) + v1_22)).toNatClampNeg) ((upd k_s ((((nI 1760) + v1_22)).toNatClampNeg) (nI 1)) 0)) k_image k_hasImage k_steps k_read k_spot k_isWrong k_open k_act k_letBy k_letStamp k_stamp k_fallen k_held k_stands k_falling k_away k_round k_rests k_may k_next k_could k_couldNight k_night k_seats) → lv_has ls 4 [(0, .ref h), (1, .int v1_22)] → W p l e R s m args below meth c H locs 0 0 QQ (F0 m 171 ls [.int y2_171, .int ((nI 1860) + v1_22), .ref (ad 1)]) := by
            intro y2_171 H locs ls ey2_171 hO hl
            have hw := hw y2_171 ey2_171
            obtain ⟨o_171, hw⟩ := hw
            refine stM_s C hK hO o_171 rfl dX12_hears_171 (fun H locs hO => ?_)
            refine lv_aload_n hx hb dX12_hears_172 rfl (lv_at hl 0 rfl) ?_
            refine gM_s C hin hK lk_s hO dX12_hears_173 ?_
            refine lv_sipush (v := (nI 1860)) hx hb dX12_hears_176 (by decide) ?_
            refine lv_aload_n hx hb dX12_hears_179 rfl (lv_at hl 0 rfl) ?_
            refine gM_s C hin hK lk_s hO dX12_hears_180 ?_
            refine lv_sipush (v := (nI 1610)) hx hb dX12_hears_183 (by decide) ?_
            refine lv_iload_n hx hb dX12_hears_186 rfl (lv_at hl 1 rfl) ?_
            refine lv_iadd hx hb dX12_hears_187 ?_
            obtain ⟨o_188, hw⟩ := hw
            refine ldM_s C hK hO o_188 rfl dX12_hears_188 ?_
            refine lv_iadd hx hb dX12_hears_189 ?_
            refine lv_aload_n hx hb dX12_hears_190 rfl (lv_at hl 0 rfl) ?_
            refine gM_s C hin hK lk_s hO dX12_hears_191 ?_
            refine lv_sipush (v := (nI 1710)) hx hb dX12_hears_194 (by decide) ?_
            refine lv_iload_n hx hb dX12_hears_197 rfl (lv_at hl 1 rfl) ?_
            refine lv_iadd hx hb dX12_hears_198 ?_
            obtain ⟨o_199, hw⟩ := hw
            refine ldM_s C hK hO o_199 rfl dX12_hears_199 ?_
            refine lv_bipush (v := (nI 50)) hx hb dX12_hears_200 (by decide) ?_
            obtain ⟨hs, hw⟩ := hw
            have m_228 : ∀ (y2_228 : Int32) (H : Heap) (locs : List Loc) (ls : Array Slot), y2_228 = (if ((upd (upd (upd k_s ((((nI 1760) + v1_22)).toNatClampNeg) (nI 1)) ((((nI 1810) + v1_22)).toNatClampNeg) ((upd k_s ((((nI 1760) + v1_22)).toNatClampNeg) (nI 1)) 0)) ((((nI 1860) + v1_22)).toNatClampNeg) y2_171) (((nI 1710) + v1_22)).toNatClampNeg) ≤ (nI 50) then ((upd (upd (upd k_s ((((nI 1760) + v1_22)).toNatClampNeg) (nI 1)) ((((nI 1810) + v1_22)).toNatClampNeg) ((upd k_s ((((nI 1760) + v1_22)).toNatClampNeg) (nI 1)) 0)) ((((nI 1860) + v1_22)).toNatClampNeg) y2_171) (((nI 1860) + ((upd (upd (upd k_s ((((nI 1760) + v1_22)).toNatClampNeg) (nI 1)) ((((nI 1810) + v1_22)).toNatClampNeg) ((upd k_s ((((nI 1760) + v1_22)).toNatClampNeg) (nI 1)) 0)) ((((nI 1860) + v1_22)).toNatClampNeg) y2_171) (((nI 1610) + v1_22)).toNatClampNeg))).toNatClampNeg) else (nI 1)) → okW D A s.heap H locs (wM cI cZ cJ h ad k_thrown (upd (upd (upd k_s ((((nI 1760) + v1_22)).toNatClampNeg) (nI 1)) ((((nI 1810) + v1_22)).toNatClampNeg) ((upd k_s ((((nI 1760) + v1_22)).toNatClampNeg) (nI 1)) 0)) ((((nI 1860) + v1_22)).toNatClampNeg) y2_171) k_image k_hasImage k_steps k_read k_spot k_isWrong k_open k_act k_letBy k_letStamp k_stamp k_fallen k_held k_stands k_falling k_away k_round k_rests k_may k_next k_could k_couldNight k_night k_seats) → lv_has ls 4 [] → W p l e R s m args below meth c H locs 0 0 QQ (F0 m 228 ls [.int y2_228, .int ((nI 1860) + ((upd (upd (upd k_s ((((nI 1760) + v1_22)).toNatClampNeg) (nI 1)) ((((nI 1810) + v1_22)).toNatClampNeg) ((upd k_s ((((nI 1760) + v1_22)).toNatClampNeg) (nI 1)) 0)) ((((nI 1860) + v1_22)).toNatClampNeg) y2_171) (((nI 1610) + v1_22)).toNatClampNeg)), .ref (ad 1)]) := by
              intro y2_228 H locs ls ey2_228 hO hl
              have hw := hw y2_228 ey2_228
              obtain ⟨o_228, hw⟩ := hw
              refine stM_s C hK hO o_228 rfl dX12_hears_228 (fun H locs hO => ?_)
              exact rv1 hQQ hx hb hr hlk hK hO hw dX12_hears_229
            refine lv_icmp_le (tgt := 209) hx hb dX12_hears_202 (by decide) (fun q_202 => ?_) (fun q_202 => ?_)
            · have hs := hs q_202
              obtain ⟨o_225, o_227⟩ := hs
              refine lv_aload_n hx hb dX12_hears_209 rfl (lv_at hl 0 rfl) ?_
              refine gM_s C hin hK lk_s hO dX12_hears_210 ?_
              refine lv_sipush (v := (nI 1860)) hx hb dX12_hears_213 (by decide) ?_
              refine lv_aload_n hx hb dX12_hears_216 rfl (lv_at hl 0 rfl) ?_
              refine gM_s C hin hK lk_s hO dX12_hears_217 ?_
              refine lv_sipush (v := (nI 1610)) hx hb dX12_hears_220 (by decide) ?_
              refine lv_iload_n hx hb dX12_hears_223 rfl (lv_at hl 1 rfl) ?_
              refine lv_iadd hx hb dX12_hears_224 ?_
              refine ldM_s C hK hO o_225 rfl dX12_hears_225 ?_
              refine lv_iadd hx hb dX12_hears_226 ?_
              refine ldM_s C hK hO o_227 rfl dX12_hears_227 ?_
              have hl := lv_sub hl [] rfl (l' := [])
              exact m_228 _ _ _ _ (by rw [if_pos q_202]) hO hl
            · refine lv_iconst (v := (nI 1)) hx hb dX12_hears_205 (by decide) ?_
              refine lv_goto (tgt := 228) hx hb dX12_hears_206 (by decide) ?_
              have hl := lv_sub hl [] rfl (l' := [])
              exact m_228 _ _ _ _ (by rw [if_neg q_202]) hO hl
          refine lv_icmp_le (tgt := 170) hx hb dX12_hears_163 (by decide) (fun q_163 => ?_) (fun q_163 => ?_)
          · refine lv_iconst (v := (nI 0)) hx hb dX12_hears_170 (by decide) ?_
            have hl := lv_sub hl [0, 1] rfl (l' := [(0, .ref h), (1, .int v1_22)])
            exact m_171 _ _ _ _ (by rw [if_pos q_163]) hO hl
          · refine lv_iconst (v := (nI 1)) hx hb dX12_hears_166 (by decide) ?_
            refine lv_goto (tgt := 171) hx hb dX12_hears_167 (by decide) ?_
            have hl := lv_sub hl [0, 1] rfl (l' := [(0, .ref h), (1, .int v1_22)])
            exact m_171 _ _ _ _ (by rw [if_neg q_163]) hO hl
      · have hw := hw.2 q_29
        refine lv_aload_n hx hb dX12_hears_32 rfl (lv_at hl 0 rfl) ?_
        refine gM_s C hin hK lk_s hO dX12_hears_33 ?_
        refine lv_sipush (v := (nI 1310)) hx hb dX12_hears_36 (by decide) ?_
        refine lv_iload_n hx hb dX12_hears_39 rfl (lv_at hl 2 rfl) ?_
        refine lv_iadd hx hb dX12_hears_40 ?_
        obtain ⟨o_41, hw⟩ := hw
        refine ldM_s C hK hO o_41 rfl dX12_hears_41 ?_
        refine lv_bipush (v := (nI 7)) hx hb dX12_hears_42 (by decide) ?_
        obtain ⟨hs, hw⟩ := hw
        have m_65 : ∀ (y0_65 : Int32) (H : Heap) (locs : List Loc) (ls : Array Slot), y0_65 = (if (k_s (((nI 1310) + v2_22)).toNatClampNeg) = (nI 7) then (if (k_s (((nI 1760) + v2_22)).toNatClampNeg) = 0 then (nI 1) else (nI 0)) else (nI 0)) → okW D A s.heap H locs (wM cI cZ cJ h ad k_thrown k_s k_image k_hasImage k_steps k_read k_spot k_isWrong k_open k_act k_letBy k_letStamp k_stamp k_fallen k_held k_stands k_falling k_away k_round k_rests k_may k_next k_could k_couldNight k_night k_seats) → lv_has ls 4 [(0, .ref h), (1, .int v1_22), (2, .int v2_22)] → W p l e R s m args below meth c H locs 0 0 QQ (F0 m 65 ls [.int y0_65]) := by
          intro y0_65 H locs ls ey0_65 hO hl
          have hw := hw y0_65 ey0_65
          refine lv_istore_n (lv' := [(3, .int y0_65), (0, .ref h), (1, .int v1_22), (2, .int v2_22)]) hx hb dX12_hears_65 rfl hl (by decide) rfl (fun ls hl => ?_)
          refine lv_iload_n hx hb dX12_hears_66 rfl (lv_at hl 0 rfl) ?_
          obtain ⟨hs, hw⟩ := hw
          have m_103 : ∀ (y0_103 : Int32) (H : Heap) (locs : List Loc) (ls : Array Slot), y0_103 = (if y0_65 = 0 then v1_22 else (if v1_22 = (-1) then v2_22 else (if (k_s (((nI 1660) + v1_22)).toNatClampNeg) ≤ (k_s (((nI 1660) + v2_22)).toNatClampNeg) then v1_22 else v2_22))) → okW D A s.heap H locs (wM cI cZ cJ h ad k_thrown k_s k_image k_hasImage k_steps k_read k_spot k_isWrong k_open k_act k_letBy k_letStamp k_stamp k_fallen k_held k_stands k_falling k_away k_round k_rests k_may k_next k_could k_couldNight k_night k_seats) → lv_has ls 4 [(0, .ref h), (2, .int v2_22)] → W p l e R s m args below meth c H locs 0 0 QQ (F0 m 103 ls [.int y0_103]) := by
            intro y0_103 H locs ls ey0_103 hO hl
            have hw := hw y0_103 ey0_103
            refine lv_istore_n (lv' := [(1, .int y0_103), (0, .ref h), (2, .int v2_22)]) hx hb dX12_hears_103 rfl hl (by decide) rfl (fun ls hl => ?_)
            refine lv_iinc (v := (v2_22 + (nI 1))) (lv' := [(2, .int (v2_22 + (nI 1))), (1, .int y0_103), (0, .ref h)]) hx hb dX12_hears_104 hl (k := 2) rfl (iinc_1 _) (by decide) rfl (fun ls hl => ?_)
            refine lv_goto (tgt := 22) hx hb dX12_hears_107 (by decide) ?_
            exact ih_22 y0_103 (v2_22 + (nI 1)) _ _ _ hO (lv_sub hl [2, 1, 0] rfl) hw
          refine lv_if_eq (tgt := 102) hx hb dX12_hears_67 (by decide) (fun q_67 => ?_) (fun q_67 => ?_)
          · refine lv_iload_n hx hb dX12_hears_102 rfl (lv_at hl 2 rfl) ?_
            have hl := lv_sub hl [1, 3] rfl (l' := [(0, .ref h), (2, .int v2_22)])
            exact m_103 _ _ _ _ (by rw [if_pos q_67]) hO hl
          · have hs := hs q_67
            refine lv_iload_n hx hb dX12_hears_70 rfl (lv_at hl 2 rfl) ?_
            refine lv_iconst (v := (-1)) hx hb dX12_hears_71 (by decide) ?_
            refine lv_icmp_eq (tgt := 98) hx hb dX12_hears_72 (by decide) (fun q_72 => ?_) (fun q_72 => ?_)
            · refine lv_iload_n hx hb dX12_hears_98 rfl (lv_at hl 3 rfl) ?_
              refine lv_goto (tgt := 103) hx hb dX12_hears_99 (by decide) ?_
              have hl := lv_sub hl [1, 3] rfl (l' := [(0, .ref h), (2, .int v2_22)])
              exact m_103 _ _ _ _ (by rw [if_neg q_67, if_pos q_72]) hO hl
            · have hs := hs q_72
              obtain ⟨o_84, o_94⟩ := hs
              refine lv_aload_n hx hb dX12_hears_75 rfl (lv_at hl 1 rfl) ?_
              refine gM_s C hin hK lk_s hO dX12_hears_76 ?_
              refine lv_sipush (v := (nI 1660)) hx hb dX12_hears_79 (by decide) ?_
              refine lv_iload_n hx hb dX12_hears_82 rfl (lv_at hl 3 rfl) ?_
              refine lv_iadd hx hb dX12_hears_83 ?_
              refine ldM_s C hK hO o_84 rfl dX12_hears_84 ?_
              refine lv_aload_n hx hb dX12_hears_85 rfl (lv_at hl 1 rfl) ?_
              refine gM_s C hin hK lk_s hO dX12_hears_86 ?_
              refine lv_sipush (v := (nI 1660)) hx hb dX12_hears_89 (by decide) ?_
              refine lv_iload_n hx hb dX12_hears_92 rfl (lv_at hl 2 rfl) ?_
              refine lv_iadd hx hb dX12_hears_93 ?_
              refine ldM_s C hK hO o_94 rfl dX12_hears_94 ?_
              refine lv_icmp_ge (tgt := 102) hx hb dX12_hears_95 (by decide) (fun q_95 => ?_) (fun q_95 => ?_)
              · refine lv_iload_n hx hb dX12_hears_102 rfl (lv_at hl 2 rfl) ?_
                have hl := lv_sub hl [1, 3] rfl (l' := [(0, .ref h), (2, .int v2_22)])
                exact m_103 _ _ _ _ (by rw [if_neg q_67, if_neg q_72, if_pos q_95]) hO hl
              · refine lv_iload_n hx hb dX12_hears_98 rfl (lv_at hl 3 rfl) ?_
                refine lv_goto (tgt := 103) hx hb dX12_hears_99 (by decide) ?_
                have hl := lv_sub hl [1, 3] rfl (l' := [(0, .ref h), (2, .int v2_22)])
                exact m_103 _ _ _ _ (by rw [if_neg q_67, if_neg q_72, if_neg q_95]) hO hl
        refine lv_icmp_ne (tgt := 64) hx hb dX12_hears_44 (by decide) (fun q_44 => ?_) (fun q_44 => ?_)
        · refine lv_iconst (v := (nI 0)) hx hb dX12_hears_64 (by decide) ?_
          have hl := lv_sub hl [0, 1, 2] rfl (l' := [(0, .ref h), (1, .int v1_22), (2, .int v2_22)])
          exact m_65 _ _ _ _ (by rw [if_neg q_44]) hO hl
        · have hs := hs q_44
          have o_56 := hs
          refine lv_aload_n hx hb dX12_hears_47 rfl (lv_at hl 0 rfl) ?_
          refine gM_s C hin hK lk_s hO dX12_hears_48 ?_
          refine lv_sipush (v := (nI 1760)) hx hb dX12_hears_51 (by decide) ?_
          refine lv_iload_n hx hb dX12_hears_54 rfl (lv_at hl 2 rfl) ?_
          refine lv_iadd hx hb dX12_hears_55 ?_
          refine ldM_s C hK hO o_56 rfl dX12_hears_56 ?_
          refine lv_if_ne (tgt := 64) hx hb dX12_hears_57 (by decide) (fun q_57 => ?_) (fun q_57 => ?_)
          · refine lv_iconst (v := (nI 0)) hx hb dX12_hears_64 (by decide) ?_
            have hl := lv_sub hl [0, 1, 2] rfl (l' := [(0, .ref h), (1, .int v1_22), (2, .int v2_22)])
            exact m_65 _ _ _ _ (by rw [if_pos q_44, if_neg q_57]) hO hl
          · refine lv_iconst (v := (nI 1)) hx hb dX12_hears_60 (by decide) ?_
            refine lv_goto (tgt := 65) hx hb dX12_hears_61 (by decide) ?_
            have hl := lv_sub hl [0, 1, 2] rfl (l' := [(0, .ref h), (1, .int v1_22), (2, .int v2_22)])
            exact m_65 _ _ _ _ (by rw [if_pos q_44, if_pos q_57]) hO hl
    have l_22 : ∀ (n : Nat) (v1_22 : Int32) (v2_22 : Int32) (H : Heap) (locs : List Loc) (ls : Array Slot), okW D A s.heap H locs (wM cI cZ cJ h ad k_thrown k_s k_image k_hasImage k_steps k_read k_spot k_isWrong k_open k_act k_letBy k_letStamp k_stamp k_fallen k_held k_stands k_falling k_away k_round k_rests k_may k_next k_could k_couldNight k_night k_seats) → lv_has ls 4 [(0, .ref h), (1, .int v1_22), (2, .int v2_22)] → wl_X12_hears_22 k_s Q n v1_22 v2_22 → W p l e R s m args below meth c H locs 0 0 QQ (F0 m 22 ls []) := by
      intro n
      induction n with
      | zero => intro v1_22 v2_22 H locs ls hO hl hw; exact False.elim hw
      | succ n ih => exact b_22 _ ih
    exact l_22 n_22 (-1) (nI 0) _ _ _ hO (lv_sub hl [2, 1, 0] rfl) hw
  · have hw := hw.2 q_14
    exact rv1 hQQ hx hb hr hlk hK hO hw dX12_hears_17
theorem gd_X12_90 {a : Cond} : GoodIn (a :: wsG) (wsV RX12 90 RX12 yX12_hears (Cond.code yX12_hears cX12_hears 4 none :: wsG)) := gdV qw6_70 qw6_72 qs_35 qw1_12 qw6_73
theorem hd_X12_hears : yX12_hears.cls = RX12 ∧ yX12_hears.cls ≠ "java/lang/invoke/MethodHandle" ∧ yX12_hears.cls ≠ "java/lang/invoke/VarHandle" ∧ (parseMethodDescriptor yX12_hears.desc).map (fun d => d.parameters.length) = some 0 := by decide +kernel
def wb_X12_day_29 (p1 : Int32) (Q : Int32 → (Nat → Int32) → Prop) (L_29 : Int32 → (Nat → Int32) → Prop) (v2_29 : Int32) (s_29 : Nat → Int32) : Prop := ((p1 ≤ v2_29 → (Q (s_29 0) s_29)) ∧ (¬ p1 ≤ v2_29 → (wp_X12_hears s_29 (fun (s_35 : Nat → Int32) => (L_29 (v2_29 + (nI 1)) (upd s_35 0 ((s_35 0) + (nI 1))))))))
def wl_X12_day_29 (p1 : Int32) (Q : Int32 → (Nat → Int32) → Prop) : Nat → Int32 → (Nat → Int32) → Prop
  | 0, _, _ => False
  | n + 1, v2_29, s_29 => wb_X12_day_29 p1 Q (wl_X12_day_29 p1 Q n) v2_29 s_29
def wp_X12_day (p1 : Int32) (k_s : Nat → Int32) (Q : Int32 → (Nat → Int32) → Prop) : Prop := ((((f_X12_in p1 (nI 1) (nI 50)) = 0 ∨ ¬ ((k_s 0) + p1) ≤ (nI 999)) → (Q (-2) k_s)) ∧ (¬ (((f_X12_in p1 (nI 1) (nI 50)) = 0 ∨ ¬ ((k_s 0) + p1) ≤ (nI 999))) → (∃ n, wl_X12_day_29 p1 Q n (nI 0) k_s)))
set_option maxHeartbeats 4000000 in
set_option maxRecDepth 100000 in
theorem c_X12_day {l : Launch} {D : va_G} {cI cZ cJ : ClassId} {h : Nat} {ad : Nat → Nat} {sz : Nat} {k_thrown : Int32} {k_s : Nat → Int32} {k_image : Nat → Int32} {k_hasImage : Int32} {k_steps : Nat → Int32} {k_read : Int32} {k_spot : Int32} {k_isWrong : Int32} {k_open : Int32} {k_act : Int32} {k_letBy : Nat → Int32} {k_letStamp : Nat → Int32} {k_stamp : Int32} {k_fallen : Nat → Int32} {k_held : Nat → Int32} {k_stands : Nat → Int32} {k_falling : Nat → Int32} {k_away : Nat → Int32} {k_round : Nat → Int32} {k_rests : Nat → Int64} {k_may : Nat → Int32} {k_next : Nat → Int32} {k_could : Nat → Int32} {k_couldNight : Nat → Int32} {k_night : Int32} {k_seats : Nat → Int32} {p1 : Int32} {Q : Int32 → (Nat → Int32) → Prop} (hw : wp_X12_day p1 k_s Q) : Met l yX12_day (Cond.code yX12_day cX12_day 3 (some .int) :: wsG) ({ frames := 1, cells := 0, slots := 0, locals := 23 } : Room) (preW D (tyM cI cZ cJ) (wM cI cZ cJ h ad k_thrown k_s k_image k_hasImage k_steps k_read k_spot k_isWrong k_open k_act k_letBy k_letStamp k_stamp k_fallen k_held k_stands k_falling k_away k_round k_rests k_may k_next k_could k_couldNight k_night k_seats) sz [.ref h, .int p1]) (qi1 D (tyM cI cZ cJ) (va_A (wM cI cZ cJ h ad k_thrown k_s k_image k_hasImage k_steps k_read k_spot k_isWrong k_open k_act k_letBy k_letStamp k_stamp k_fallen k_held k_stands k_falling k_away k_round k_rests k_may k_next k_could k_couldNight k_night k_seats) sz) Q (fun k_s' => (wM cI cZ cJ h ad k_thrown k_s' k_image k_hasImage k_steps k_read k_spot k_isWrong k_open k_act k_letBy k_letStamp k_stamp k_fallen k_held k_stands k_falling k_away k_round k_rests k_may k_next k_could k_couldNight k_night k_seats))) 0 0 (va_A (wM cI cZ cJ h ad k_thrown k_s k_image k_hasImage k_steps k_read k_spot k_isWrong k_open k_act k_letBy k_letStamp k_stamp k_fallen k_held k_stands k_falling k_away k_round k_rests k_may k_next k_could k_couldNight k_night k_seats) sz) := by
  refine st_met (cc := cX12_day) (maxL := 3) (ret := (some .int)) (lv := [(0, .ref h), (1, .int p1)]) (Qc := fun A => qi1 D (tyM cI cZ cJ) A Q (fun k_s' => (wM cI cZ cJ h ad k_thrown k_s' k_image k_hasImage k_steps k_read k_spot k_isWrong k_open k_act k_letBy k_letStamp k_stamp k_fallen k_held k_stands k_falling k_away k_round k_rests k_may k_next k_could k_couldNight k_night k_seats))) (by decide) rfl (Nat.le_of_ble_eq_true rfl) rfl ?_
  intro p e s m below meth c ls A R args QQ H locs C hr hlk hnm hK hX hsz hl hO hR hQQ
  have hx := C.1
  have hb := C.2.1
  have hown := C.2.2.2.1
  have hts := C.2.2.2.2
  have hin : ∀ w ∈ u_ws RX12 TX12 26, w ∈ (Cond.code yX12_day cX12_day 3 (some .int) :: wsG) := fun w h9 => List.mem_cons_of_mem _ (inG12 w h9)
  have lk_s := hts (Cond.fieldLink RX12 7 "FreeCityModel" "s" "[I") (List.mem_cons_of_mem _ qw5_207)
  unfold wp_X12_day at hw
  refine lv_iload_n hx hb dX12_day_0 rfl (lv_at hl 1 rfl) ?_
  refine lv_iconst (v := (nI 1)) hx hb dX12_day_1 (by decide) ?_
  refine lv_bipush (v := (nI 50)) hx hb dX12_day_2 (by decide) ?_
  refine cSi0 (As := [.int p1, .int (nI 1), .int (nI 50)]) (rest := []) C hK hX hO (c_X12_in (l := l)) (va_cwS 3 hts gd_X12_74 rfl rfl rfl hd_X12_in (rok hR (Nat.le_of_ble_eq_true rfl) (Nat.le_of_ble_eq_true rfl))) rfl hl.1 rfl (Nat.le_of_ble_eq_true rfl) dX12_day_4 ⟨Nat.zero_le _, Nat.zero_le _⟩ (fun r_4 H locs e_4 hO => ?_)
  subst e_4
  have a_24 : ((f_X12_in p1 (nI 1) (nI 50)) = 0 ∨ ¬ ((k_s 0) + p1) ≤ (nI 999)) → ∀ (H : Heap) (locs : List Loc) (ls : Array Slot), okW D A s.heap H locs (wM cI cZ cJ h ad k_thrown k_s k_image k_hasImage k_steps k_read k_spot k_isWrong k_open k_act k_letBy k_letStamp k_stamp k_fallen k_held k_stands k_falling k_away k_round k_rests k_may k_next k_could k_couldNight k_night k_seats) → lv_has ls 3 [] → W p l e R s m args below meth c H locs 0 0 QQ (F0 m 24 ls []) := by
    intro cf H locs ls hO hl
    have hw := hw.1 cf
    refine lv_bipush (v := (-2)) hx hb dX12_day_24 (by decide) ?_
    exact ri1 hQQ hx hb hr hlk hK hO hw dX12_day_26
  have a_27 : ¬ (((f_X12_in p1 (nI 1) (nI 50)) = 0 ∨ ¬ ((k_s 0) + p1) ≤ (nI 999))) → ∀ (H : Heap) (locs : List Loc) (ls : Array Slot), okW D A s.heap H locs (wM cI cZ cJ h ad k_thrown k_s k_image k_hasImage k_steps k_read k_spot k_isWrong k_open k_act k_letBy k_letStamp k_stamp k_fallen k_held k_stands k_falling k_away k_round k_rests k_may k_next k_could k_couldNight k_night k_seats) → lv_has ls 3 [(0, .ref h), (1, .int p1)] → W p l e R s m args below meth c H locs 0 0 QQ (F0 m 27 ls []) := by
    intro cf H locs ls hO hl
    have hw := hw.2 cf
    refine lv_iconst (v := (nI 0)) hx hb dX12_day_27 (by decide) ?_
    refine lv_istore_n (lv' := [(2, .int (nI 0)), (0, .ref h), (1, .int p1)]) hx hb dX12_day_28 rfl hl (by decide) rfl (fun ls hl => ?_)
    obtain ⟨n_29, hw⟩ := hw
    have b_29 : ∀ (L_29 : Int32 → (Nat → Int32) → Prop) (ih_29 : ∀ (v2_29 : Int32) (s_29 : Nat → Int32) (H : Heap) (locs : List Loc) (ls : Array Slot), okW D A s.heap H locs (wM cI cZ cJ h ad k_thrown s_29 k_image k_hasImage k_steps k_read k_spot k_isWrong k_open k_act k_letBy k_letStamp k_stamp k_fallen k_held k_stands k_falling k_away k_round k_rests k_may k_next k_could k_couldNight k_night k_seats) → lv_has ls 3 [(0, .ref h), (1, .int p1), (2, .int v2_29)] → L_29 v2_29 s_29 → W p l e R s m args below meth c H locs 0 0 QQ (F0 m 29 ls [])) (v2_29 : Int32) (s_29 : Nat → Int32) (H : Heap) (locs : List Loc) (ls : Array Slot), okW D A s.heap H locs (wM cI cZ cJ h ad k_thrown s_29 k_image k_hasImage k_steps k_read k_spot k_isWrong k_open k_act k_letBy k_letStamp k_stamp k_fallen k_held k_stands k_falling k_away k_round k_rests k_may k_next k_could k_couldNight k_night k_seats) → lv_has ls 3 [(0, .ref h), (1, .int p1), (2, .int v2_29)] → wb_X12_day_29 p1 Q L_29 v2_29 s_29 → W p l e R s m args below meth c H locs 0 0 QQ (F0 m 29 ls []) := by
      intro L_29 ih_29 v2_29 s_29 H locs ls hO hl hw
      unfold wb_X12_day_29 at hw
      refine lv_iload_n hx hb dX12_day_29 rfl (lv_at hl 2 rfl) ?_
      refine lv_iload_n hx hb dX12_day_30 rfl (lv_at hl 1 rfl) ?_
      refine lv_icmp_ge (tgt := 54) hx hb dX12_day_31 (by decide) (fun q_31 => ?_) (fun q_31 => ?_)
      · have hw := hw.1 q_31
        refine lv_aload_n hx hb dX12_day_54 rfl (lv_at hl 0 rfl) ?_
        refine gM_s C hin hK lk_s hO dX12_day_55 ?_
        refine lv_iconst (v := (nI 0)) hx hb dX12_day_58 (by decide) ?_
        refine ldM_s C hK hO (inK 0 6700 (by decide) (by decide)) (clK 0 (by decide)) dX12_day_59 ?_
        exact ri1 hQQ hx hb hr hlk hK hO hw dX12_day_60
      · have hw := hw.2 q_31
        refine lv_aload_n hx hb dX12_day_34 rfl (lv_at hl 0 rfl) ?_
        refine cVv1 (As := []) (rest := []) C hK hX hO (c_X12_hears (l := l) hw) (cwV 0 hts gd_X12_90 rfl rfl rfl hd_X12_hears (rok hR (Nat.le_of_ble_eq_true rfl) (Nat.le_of_ble_eq_true rfl))) (ci := 12) (q0 := 0) rfl rfl rfl rfl hl.1 rfl (Nat.le_of_ble_eq_true rfl) dX12_day_35 ⟨Nat.zero_le _, Nat.zero_le _⟩ (fun s_35 H locs hw hO => ?_)
        refine lv_aload_n hx hb dX12_day_38 rfl (lv_at hl 0 rfl) ?_
        refine gM_s C hin hK lk_s hO dX12_day_39 ?_
        refine lv_iconst (v := (nI 0)) hx hb dX12_day_42 (by decide) ?_
        refine lv_dup2_11 hx hb dX12_day_43 rfl rfl ?_
        refine ldM_s C hK hO (inK 0 6700 (by decide) (by decide)) (clK 0 (by decide)) dX12_day_44 ?_
        refine lv_iconst (v := (nI 1)) hx hb dX12_day_45 (by decide) ?_
        refine lv_iadd hx hb dX12_day_46 ?_
        refine stM_s C hK hO (inK 0 6700 (by decide) (by decide)) (clK 0 (by decide)) dX12_day_47 (fun H locs hO => ?_)
        refine lv_iinc (v := (v2_29 + (nI 1))) (lv' := [(2, .int (v2_29 + (nI 1))), (0, .ref h), (1, .int p1)]) hx hb dX12_day_48 hl (k := 2) rfl (iinc_1 _) (by decide) rfl (fun ls hl => ?_)
        refine lv_goto (tgt := 29) hx hb dX12_day_51 (by decide) ?_
        exact ih_29 (v2_29 + (nI 1)) (upd s_35 0 ((s_35 0) + (nI 1))) _ _ _ hO (lv_sub hl [1, 2, 0] rfl) hw
    have l_29 : ∀ (n : Nat) (v2_29 : Int32) (s_29 : Nat → Int32) (H : Heap) (locs : List Loc) (ls : Array Slot), okW D A s.heap H locs (wM cI cZ cJ h ad k_thrown s_29 k_image k_hasImage k_steps k_read k_spot k_isWrong k_open k_act k_letBy k_letStamp k_stamp k_fallen k_held k_stands k_falling k_away k_round k_rests k_may k_next k_could k_couldNight k_night k_seats) → lv_has ls 3 [(0, .ref h), (1, .int p1), (2, .int v2_29)] → wl_X12_day_29 p1 Q n v2_29 s_29 → W p l e R s m args below meth c H locs 0 0 QQ (F0 m 29 ls []) := by
      intro n
      induction n with
      | zero => intro v2_29 s_29 H locs ls hO hl hw; exact False.elim hw
      | succ n ih => exact b_29 _ ih
    exact l_29 n_29 (nI 0) k_s _ _ _ hO (lv_sub hl [1, 2, 0] rfl) hw
  refine lv_if_eq (tgt := 24) hx hb dX12_day_7 (by decide) (fun q_7 => ?_) (fun q_7 => ?_)
  · have hl := lv_sub hl [] rfl (l' := [])
    exact a_24 (Or.inl q_7) _ _ _ hO hl
  · refine lv_aload_n hx hb dX12_day_10 rfl (lv_at hl 0 rfl) ?_
    refine gM_s C hin hK lk_s hO dX12_day_11 ?_
    refine lv_iconst (v := (nI 0)) hx hb dX12_day_14 (by decide) ?_
    refine ldM_s C hK hO (inK 0 6700 (by decide) (by decide)) (clK 0 (by decide)) dX12_day_15 ?_
    refine lv_iload_n hx hb dX12_day_16 rfl (lv_at hl 1 rfl) ?_
    refine lv_iadd hx hb dX12_day_17 ?_
    refine lv_sipush (v := (nI 999)) hx hb dX12_day_18 (by decide) ?_
    refine lv_icmp_le (tgt := 27) hx hb dX12_day_21 (by decide) (fun q_21 => ?_) (fun q_21 => ?_)
    · have hl := lv_sub hl [0, 1] rfl (l' := [(0, .ref h), (1, .int p1)])
      exact a_27 (fun h => h.elim q_7 (fun h => h q_21)) _ _ _ hO hl
    · have hl := lv_sub hl [] rfl (l' := [])
      exact a_24 (Or.inr q_21) _ _ _ hO hl
def wb_X12_feed_35 (p1 : Int64) (Q : Int32 → (Nat → Int32) → Prop) (L_35 : Int32 → (Nat → Int32) → Prop) (v4_35 : Int32) (s_35 : Nat → Int32) : Prop := ((v4_35 < 0 → (Q (s_35 10) s_35)) ∧ (¬ v4_35 < 0 → (vp_in ((nI 1190) + (s_35 10)) 6700 ∧ (L_35 (v4_35 + (-1)) (upd (upd s_35 ((((nI 1190) + (s_35 10))).toNatClampNeg) ((((p1 >>> ((((nI 8) * v4_35)).toInt64 &&& 63)) &&& (255))).toInt32)) 10 (((upd s_35 ((((nI 1190) + (s_35 10))).toNatClampNeg) ((((p1 >>> ((((nI 8) * v4_35)).toInt64 &&& 63)) &&& (255))).toInt32)) 10) + (nI 1)))))))
def wl_X12_feed_35 (p1 : Int64) (Q : Int32 → (Nat → Int32) → Prop) : Nat → Int32 → (Nat → Int32) → Prop
  | 0, _, _ => False
  | n + 1, v4_35, s_35 => wb_X12_feed_35 p1 Q (wl_X12_feed_35 p1 Q n) v4_35 s_35
def wp_X12_feed (p1 : Int64) (p2 : Int32) (k_s : Nat → Int32) (Q : Int32 → (Nat → Int32) → Prop) : Prop := ((¬ (f_X12_in p2 (nI 1) (nI 8)) = 0 → ((((k_s 10) + p2) ≤ (nI 120) → (∃ n, wl_X12_feed_35 p1 Q n (p2 - (nI 1)) k_s)) ∧ (¬ ((k_s 10) + p2) ≤ (nI 120) → (Q (-4) k_s)))) ∧ ((f_X12_in p2 (nI 1) (nI 8)) = 0 → (Q (-2) k_s)))
set_option maxHeartbeats 4000000 in
set_option maxRecDepth 100000 in
theorem c_X12_feed {l : Launch} {D : va_G} {cI cZ cJ : ClassId} {h : Nat} {ad : Nat → Nat} {sz : Nat} {k_thrown : Int32} {k_s : Nat → Int32} {k_image : Nat → Int32} {k_hasImage : Int32} {k_steps : Nat → Int32} {k_read : Int32} {k_spot : Int32} {k_isWrong : Int32} {k_open : Int32} {k_act : Int32} {k_letBy : Nat → Int32} {k_letStamp : Nat → Int32} {k_stamp : Int32} {k_fallen : Nat → Int32} {k_held : Nat → Int32} {k_stands : Nat → Int32} {k_falling : Nat → Int32} {k_away : Nat → Int32} {k_round : Nat → Int32} {k_rests : Nat → Int64} {k_may : Nat → Int32} {k_next : Nat → Int32} {k_could : Nat → Int32} {k_couldNight : Nat → Int32} {k_night : Int32} {k_seats : Nat → Int32} {p1 : Int64} {p2 : Int32} {Q : Int32 → (Nat → Int32) → Prop} (hw : wp_X12_feed p1 p2 k_s Q) : Met l yX12_feed (Cond.code yX12_feed cX12_feed 5 (some .int) :: wsG) ({ frames := 1, cells := 0, slots := 0, locals := 22 } : Room) (preW D (tyM cI cZ cJ) (wM cI cZ cJ h ad k_thrown k_s k_image k_hasImage k_steps k_read k_spot k_isWrong k_open k_act k_letBy k_letStamp k_stamp k_fallen k_held k_stands k_falling k_away k_round k_rests k_may k_next k_could k_couldNight k_night k_seats) sz [.ref h, .long p1, .int p2]) (qi1 D (tyM cI cZ cJ) (va_A (wM cI cZ cJ h ad k_thrown k_s k_image k_hasImage k_steps k_read k_spot k_isWrong k_open k_act k_letBy k_letStamp k_stamp k_fallen k_held k_stands k_falling k_away k_round k_rests k_may k_next k_could k_couldNight k_night k_seats) sz) Q (fun k_s' => (wM cI cZ cJ h ad k_thrown k_s' k_image k_hasImage k_steps k_read k_spot k_isWrong k_open k_act k_letBy k_letStamp k_stamp k_fallen k_held k_stands k_falling k_away k_round k_rests k_may k_next k_could k_couldNight k_night k_seats))) 0 0 (va_A (wM cI cZ cJ h ad k_thrown k_s k_image k_hasImage k_steps k_read k_spot k_isWrong k_open k_act k_letBy k_letStamp k_stamp k_fallen k_held k_stands k_falling k_away k_round k_rests k_may k_next k_could k_couldNight k_night k_seats) sz) := by
  refine st_met (cc := cX12_feed) (maxL := 5) (ret := (some .int)) (lv := [(0, .ref h), (1, .long p1), (3, .int p2)]) (Qc := fun A => qi1 D (tyM cI cZ cJ) A Q (fun k_s' => (wM cI cZ cJ h ad k_thrown k_s' k_image k_hasImage k_steps k_read k_spot k_isWrong k_open k_act k_letBy k_letStamp k_stamp k_fallen k_held k_stands k_falling k_away k_round k_rests k_may k_next k_could k_couldNight k_night k_seats))) (by decide) rfl (Nat.le_of_ble_eq_true rfl) rfl ?_
  intro p e s m below meth c ls A R args QQ H locs C hr hlk hnm hK hX hsz hl hO hR hQQ
  have hx := C.1
  have hb := C.2.1
  have hown := C.2.2.2.1
  have hts := C.2.2.2.2
  have hin : ∀ w ∈ u_ws RX12 TX12 26, w ∈ (Cond.code yX12_feed cX12_feed 5 (some .int) :: wsG) := fun w h9 => List.mem_cons_of_mem _ (inG12 w h9)
  have lk_s := hts (Cond.fieldLink RX12 7 "FreeCityModel" "s" "[I") (List.mem_cons_of_mem _ qw5_207)
  unfold wp_X12_feed at hw
  refine lv_iload_n hx hb dX12_feed_0 rfl (lv_at hl 2 rfl) ?_
  refine lv_iconst (v := (nI 1)) hx hb dX12_feed_1 (by decide) ?_
  refine lv_bipush (v := (nI 8)) hx hb dX12_feed_2 (by decide) ?_
  refine cSi0 (As := [.int p2, .int (nI 1), .int (nI 8)]) (rest := []) C hK hX hO (c_X12_in (l := l)) (va_cwS 3 hts gd_X12_74 rfl rfl rfl hd_X12_in (rok hR (Nat.le_of_ble_eq_true rfl) (Nat.le_of_ble_eq_true rfl))) rfl hl.1 rfl (Nat.le_of_ble_eq_true rfl) dX12_feed_4 ⟨Nat.zero_le _, Nat.zero_le _⟩ (fun r_4 H locs e_4 hO => ?_)
  subst e_4
  refine lv_if_ne (tgt := 13) hx hb dX12_feed_7 (by decide) (fun q_7 => ?_) (fun q_7 => ?_)
  · have hw := hw.1 q_7
    refine lv_aload_n hx hb dX12_feed_13 rfl (lv_at hl 0 rfl) ?_
    refine gM_s C hin hK lk_s hO dX12_feed_14 ?_
    refine lv_bipush (v := (nI 10)) hx hb dX12_feed_17 (by decide) ?_
    refine ldM_s C hK hO (inK 10 6700 (by decide) (by decide)) (clK 10 (by decide)) dX12_feed_19 ?_
    refine lv_iload_n hx hb dX12_feed_20 rfl (lv_at hl 2 rfl) ?_
    refine lv_iadd hx hb dX12_feed_21 ?_
    refine lv_bipush (v := (nI 120)) hx hb dX12_feed_22 (by decide) ?_
    refine lv_icmp_le (tgt := 30) hx hb dX12_feed_24 (by decide) (fun q_24 => ?_) (fun q_24 => ?_)
    · have hw := hw.1 q_24
      refine lv_iload_n hx hb dX12_feed_30 rfl (lv_at hl 2 rfl) ?_
      refine lv_iconst (v := (nI 1)) hx hb dX12_feed_31 (by decide) ?_
      refine lv_isub hx hb dX12_feed_32 ?_
      refine lv_istore (lv' := [(4, .int (p2 - (nI 1))), (0, .ref h), (1, .long p1), (3, .int p2)]) hx hb dX12_feed_33 hl (by decide) rfl (fun ls hl => ?_)
      obtain ⟨n_35, hw⟩ := hw
      have b_35 : ∀ (L_35 : Int32 → (Nat → Int32) → Prop) (ih_35 : ∀ (v4_35 : Int32) (s_35 : Nat → Int32) (H : Heap) (locs : List Loc) (ls : Array Slot), okW D A s.heap H locs (wM cI cZ cJ h ad k_thrown s_35 k_image k_hasImage k_steps k_read k_spot k_isWrong k_open k_act k_letBy k_letStamp k_stamp k_fallen k_held k_stands k_falling k_away k_round k_rests k_may k_next k_could k_couldNight k_night k_seats) → lv_has ls 5 [(0, .ref h), (1, .long p1), (4, .int v4_35)] → L_35 v4_35 s_35 → W p l e R s m args below meth c H locs 0 0 QQ (F0 m 35 ls [])) (v4_35 : Int32) (s_35 : Nat → Int32) (H : Heap) (locs : List Loc) (ls : Array Slot), okW D A s.heap H locs (wM cI cZ cJ h ad k_thrown s_35 k_image k_hasImage k_steps k_read k_spot k_isWrong k_open k_act k_letBy k_letStamp k_stamp k_fallen k_held k_stands k_falling k_away k_round k_rests k_may k_next k_could k_couldNight k_night k_seats) → lv_has ls 5 [(0, .ref h), (1, .long p1), (4, .int v4_35)] → wb_X12_feed_35 p1 Q L_35 v4_35 s_35 → W p l e R s m args below meth c H locs 0 0 QQ (F0 m 35 ls []) := by
        intro L_35 ih_35 v4_35 s_35 H locs ls hO hl hw
        unfold wb_X12_feed_35 at hw
        refine lv_iload hx hb dX12_feed_35 (lv_at hl 2 rfl) ?_
        refine lv_if_lt (tgt := 85) hx hb dX12_feed_37 (by decide) (fun q_37 => ?_) (fun q_37 => ?_)
        · have hw := hw.1 q_37
          refine lv_aload_n hx hb dX12_feed_85 rfl (lv_at hl 0 rfl) ?_
          refine gM_s C hin hK lk_s hO dX12_feed_86 ?_
          refine lv_bipush (v := (nI 10)) hx hb dX12_feed_89 (by decide) ?_
          refine ldM_s C hK hO (inK 10 6700 (by decide) (by decide)) (clK 10 (by decide)) dX12_feed_91 ?_
          exact ri1 hQQ hx hb hr hlk hK hO hw dX12_feed_92
        · have hw := hw.2 q_37
          refine lv_aload_n hx hb dX12_feed_40 rfl (lv_at hl 0 rfl) ?_
          refine gM_s C hin hK lk_s hO dX12_feed_41 ?_
          refine lv_sipush (v := (nI 1190)) hx hb dX12_feed_44 (by decide) ?_
          refine lv_aload_n hx hb dX12_feed_47 rfl (lv_at hl 0 rfl) ?_
          refine gM_s C hin hK lk_s hO dX12_feed_48 ?_
          refine lv_bipush (v := (nI 10)) hx hb dX12_feed_51 (by decide) ?_
          refine ldM_s C hK hO (inK 10 6700 (by decide) (by decide)) (clK 10 (by decide)) dX12_feed_53 ?_
          refine lv_iadd hx hb dX12_feed_54 ?_
          refine lv_lload_n hx hb dX12_feed_55 rfl (lv_at hl 1 rfl) ?_
          refine lv_bipush (v := (nI 8)) hx hb dX12_feed_56 (by decide) ?_
          refine lv_iload hx hb dX12_feed_58 (lv_at hl 2 rfl) ?_
          refine lv_imul hx hb dX12_feed_60 ?_
          refine lv_lshr hx hb dX12_feed_61 rfl ?_
          refine lv_ldc2 (v := (255)) hx hb hown (hts (Cond.constantLong RX12 93 (255)) (List.mem_cons_of_mem _ qw6_78)) dX12_feed_62 ?_
          refine lv_land hx hb dX12_feed_65 ?_
          refine lv_l2i hx hb dX12_feed_66 rfl ?_
          obtain ⟨o_67, hw⟩ := hw
          refine stM_s C hK hO o_67 rfl dX12_feed_67 (fun H locs hO => ?_)
          refine lv_aload_n hx hb dX12_feed_68 rfl (lv_at hl 0 rfl) ?_
          refine gM_s C hin hK lk_s hO dX12_feed_69 ?_
          refine lv_bipush (v := (nI 10)) hx hb dX12_feed_72 (by decide) ?_
          refine lv_dup2_11 hx hb dX12_feed_74 rfl rfl ?_
          refine ldM_s C hK hO (inK 10 6700 (by decide) (by decide)) (clK 10 (by decide)) dX12_feed_75 ?_
          refine lv_iconst (v := (nI 1)) hx hb dX12_feed_76 (by decide) ?_
          refine lv_iadd hx hb dX12_feed_77 ?_
          refine stM_s C hK hO (inK 10 6700 (by decide) (by decide)) (clK 10 (by decide)) dX12_feed_78 (fun H locs hO => ?_)
          refine lv_iinc (v := (v4_35 + (-1))) (lv' := [(4, .int (v4_35 + (-1))), (0, .ref h), (1, .long p1)]) hx hb dX12_feed_79 hl (k := 2) rfl (iinc_m1 _) (by decide) rfl (fun ls hl => ?_)
          refine lv_goto (tgt := 35) hx hb dX12_feed_82 (by decide) ?_
          exact ih_35 (v4_35 + (-1)) (upd (upd s_35 ((((nI 1190) + (s_35 10))).toNatClampNeg) ((((p1 >>> ((((nI 8) * v4_35)).toInt64 &&& 63)) &&& (255))).toInt32)) 10 (((upd s_35 ((((nI 1190) + (s_35 10))).toNatClampNeg) ((((p1 >>> ((((nI 8) * v4_35)).toInt64 &&& 63)) &&& (255))).toInt32)) 10) + (nI 1))) _ _ _ hO (lv_sub hl [1, 2, 0] rfl) hw
      have l_35 : ∀ (n : Nat) (v4_35 : Int32) (s_35 : Nat → Int32) (H : Heap) (locs : List Loc) (ls : Array Slot), okW D A s.heap H locs (wM cI cZ cJ h ad k_thrown s_35 k_image k_hasImage k_steps k_read k_spot k_isWrong k_open k_act k_letBy k_letStamp k_stamp k_fallen k_held k_stands k_falling k_away k_round k_rests k_may k_next k_could k_couldNight k_night k_seats) → lv_has ls 5 [(0, .ref h), (1, .long p1), (4, .int v4_35)] → wl_X12_feed_35 p1 Q n v4_35 s_35 → W p l e R s m args below meth c H locs 0 0 QQ (F0 m 35 ls []) := by
        intro n
        induction n with
        | zero => intro v4_35 s_35 H locs ls hO hl hw; exact False.elim hw
        | succ n ih => exact b_35 _ ih
      exact l_35 n_35 (p2 - (nI 1)) k_s _ _ _ hO (lv_sub hl [1, 2, 0] rfl) hw
    · have hw := hw.2 q_24
      refine lv_bipush (v := (-4)) hx hb dX12_feed_27 (by decide) ?_
      exact ri1 hQQ hx hb hr hlk hK hO hw dX12_feed_29
  · have hw := hw.2 q_7
    refine lv_bipush (v := (-2)) hx hb dX12_feed_10 (by decide) ?_
    exact ri1 hQQ hx hb hr hlk hK hO hw dX12_feed_12
