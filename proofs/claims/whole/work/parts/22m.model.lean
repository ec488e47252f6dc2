def wb_X12_tried_132 (p2 : Int32) (k_stamp : Int32) (Q : Int32 → (Nat → Int32) → (Int32) → (Int32) → (Int32) → (Int32) → (Int32) → (Nat → Int32) → (Nat → Int32) → (Nat → Int32) → (Nat → Int32) → (Nat → Int32) → Prop) (s_34 : Nat → Int32) (fallen_59 : Nat → Int32) (held_59 : Nat → Int32) (stands_59 : Nat → Int32) (L_132 : Int32 → Int32 → Int32 → Int32 → Int32 → Int32 → Int32 → (Nat → Int32) → (Nat → Int32) → Prop) (v3_132 : Int32) (v4_132 : Int32) (read_132 : Int32) (spot_132 : Int32) (isWrong_132 : Int32) (open_132 : Int32) (act_132 : Int32) (letBy_132 : Nat → Int32) (letStamp_132 : Nat → Int32) : Prop := (((¬ ((upd s_34 1 ((s_34 1) + (nI 1))) 9) ≤ v4_132 ∧ p2 = (nI 2)) → (vp_in ((nI 1172) + v4_132) 6700 ∧ (wp_X12_lets ((upd s_34 1 ((s_34 1) + (nI 1))) (((nI 1172) + v4_132)).toNatClampNeg) ((upd s_34 1 ((s_34 1) + (nI 1))) 0) (upd s_34 1 ((s_34 1) + (nI 1))) read_132 spot_132 isWrong_132 open_132 act_132 letBy_132 letStamp_132 k_stamp stands_59 (fun (r_168 : Int32) (read_168 : Int32) (spot_168 : Int32) (isWrong_168 : Int32) (open_168 : Int32) (act_168 : Int32) (letBy_168 : Nat → Int32) (letStamp_168 : Nat → Int32) => (∀ y1_179 : Int32, y1_179 = (if r_168 = 0 then (nI 0) else (nI 1)) → (L_132 (v3_132 + y1_179) (v4_132 + (nI 1)) read_168 spot_168 isWrong_168 open_168 act_168 letBy_168 letStamp_168)))))) ∧ (¬ ((¬ ((upd s_34 1 ((s_34 1) + (nI 1))) 9) ≤ v4_132 ∧ p2 = (nI 2))) → (Q v3_132 (upd (upd s_34 1 ((s_34 1) + (nI 1))) 1 (((upd s_34 1 ((s_34 1) + (nI 1))) 1) - (nI 1))) read_132 spot_132 isWrong_132 open_132 act_132 letBy_132 letStamp_132 fallen_59 held_59 stands_59)))
def wl_X12_tried_132 (p2 : Int32) (k_stamp : Int32) (Q : Int32 → (Nat → Int32) → (Int32) → (Int32) → (Int32) → (Int32) → (Int32) → (Nat → Int32) → (Nat → Int32) → (Nat → Int32) → (Nat → Int32) → (Nat → Int32) → Prop) (s_34 : Nat → Int32) (fallen_59 : Nat → Int32) (held_59 : Nat → Int32) (stands_59 : Nat → Int32) : Nat → Int32 → Int32 → Int32 → Int32 → Int32 → Int32 → Int32 → (Nat → Int32) → (Nat → Int32) → Prop
  | 0, _, _, _, _, _, _, _, _, _ => False
  | n + 1, v3_132, v4_132, read_132, spot_132, isWrong_132, open_132, act_132, letBy_132, letStamp_132 => wb_X12_tried_132 p2 k_stamp Q s_34 fallen_59 held_59 stands_59 (wl_X12_tried_132 p2 k_stamp Q s_34 fallen_59 held_59 stands_59 n) v3_132 v4_132 read_132 spot_132 isWrong_132 open_132 act_132 letBy_132 letStamp_132
def wb_X12_tried_87 (p2 : Int32) (k_stamp : Int32) (Q : Int32 → (Nat → Int32) → (Int32) → (Int32) → (Int32) → (Int32) → (Int32) → (Nat → Int32) → (Nat → Int32) → (Nat → Int32) → (Nat → Int32) → (Nat → Int32) → Prop) (s_34 : Nat → Int32) (fallen_59 : Nat → Int32) (held_59 : Nat → Int32) (stands_59 : Nat → Int32) (L_87 : Int32 → Int32 → Int32 → Int32 → Int32 → Int32 → Int32 → (Nat → Int32) → (Nat → Int32) → Prop) (v3_87 : Int32) (v4_87 : Int32) (read_87 : Int32) (spot_87 : Int32) (isWrong_87 : Int32) (open_87 : Int32) (act_87 : Int32) (letBy_87 : Nat → Int32) (letStamp_87 : Nat → Int32) : Prop := (((¬ (nI 10800) ≤ v4_87 ∧ p2 = (nI 1)) → (wp_X12_lets v4_87 ((upd s_34 1 ((s_34 1) + (nI 1))) 0) (upd s_34 1 ((s_34 1) + (nI 1))) read_87 spot_87 isWrong_87 open_87 act_87 letBy_87 letStamp_87 k_stamp stands_59 (fun (r_110 : Int32) (read_110 : Int32) (spot_110 : Int32) (isWrong_110 : Int32) (open_110 : Int32) (act_110 : Int32) (letBy_110 : Nat → Int32) (letStamp_110 : Nat → Int32) => (∀ y1_121 : Int32, y1_121 = (if r_110 = 0 then (nI 0) else (nI 1)) → (L_87 (v3_87 + y1_121) (v4_87 + (nI 1)) read_110 spot_110 isWrong_110 open_110 act_110 letBy_110 letStamp_110))))) ∧ (¬ ((¬ (nI 10800) ≤ v4_87 ∧ p2 = (nI 1))) → (∃ n, wl_X12_tried_132 p2 k_stamp Q s_34 fallen_59 held_59 stands_59 n v3_87 (nI 0) read_87 spot_87 isWrong_87 open_87 act_87 letBy_87 letStamp_87)))
def wl_X12_tried_87 (p2 : Int32) (k_stamp : Int32) (Q : Int32 → (Nat → Int32) → (Int32) → (Int32) → (Int32) → (Int32) → (Int32) → (Nat → Int32) → (Nat → Int32) → (Nat → Int32) → (Nat → Int32) → (Nat → Int32) → Prop) (s_34 : Nat → Int32) (fallen_59 : Nat → Int32) (held_59 : Nat → Int32) (stands_59 : Nat → Int32) : Nat → Int32 → Int32 → Int32 → Int32 → Int32 → Int32 → Int32 → (Nat → Int32) → (Nat → Int32) → Prop
  | 0, _, _, _, _, _, _, _, _, _ => False
  | n + 1, v3_87, v4_87, read_87, spot_87, isWrong_87, open_87, act_87, letBy_87, letStamp_87 => wb_X12_tried_87 p2 k_stamp Q s_34 fallen_59 held_59 stands_59 (wl_X12_tried_87 p2 k_stamp Q s_34 fallen_59 held_59 stands_59 n) v3_87 v4_87 read_87 spot_87 isWrong_87 open_87 act_87 letBy_87 letStamp_87
def wk_X12_tried_83 (p2 : Int32) (k_stamp : Int32) (Q : Int32 → (Nat → Int32) → (Int32) → (Int32) → (Int32) → (Int32) → (Int32) → (Nat → Int32) → (Nat → Int32) → (Nat → Int32) → (Nat → Int32) → (Nat → Int32) → Prop) (s_34 : Nat → Int32) (fallen_59 : Nat → Int32) (held_59 : Nat → Int32) (stands_59 : Nat → Int32) (read_83 : Int32) (spot_83 : Int32) (isWrong_83 : Int32) (open_83 : Int32) (act_83 : Int32) (letBy_83 : Nat → Int32) (letStamp_83 : Nat → Int32) (t0_83 : Int32) : Prop := (∃ n, wl_X12_tried_87 p2 k_stamp Q s_34 fallen_59 held_59 stands_59 n t0_83 (nI 0) read_83 spot_83 isWrong_83 open_83 act_83 letBy_83 letStamp_83)
def wp_X12_tried (p1 : Int32) (p2 : Int32) (k_s : Nat → Int32) (k_read : Int32) (k_spot : Int32) (k_isWrong : Int32) (k_open : Int32) (k_act : Int32) (k_letBy : Nat → Int32) (k_letStamp : Nat → Int32) (k_stamp : Int32) (k_fallen : Nat → Int32) (k_held : Nat → Int32) (k_stands : Nat → Int32) (Q : Int32 → (Nat → Int32) → (Int32) → (Int32) → (Int32) → (Int32) → (Int32) → (Nat → Int32) → (Nat → Int32) → (Nat → Int32) → (Nat → Int32) → (Nat → Int32) → Prop) : Prop := ((((f_X12_in p1 (nI 0) (nI 2)) = 0 ∨ (f_X12_in p2 (nI 0) (nI 2)) = 0) → (Q (-1) k_s k_read k_spot k_isWrong k_open k_act k_letBy k_letStamp k_fallen k_held k_stands)) ∧ (¬ (((f_X12_in p1 (nI 0) (nI 2)) = 0 ∨ (f_X12_in p2 (nI 0) (nI 2)) = 0)) → (wp_X12_readsText (k_s 1) p1 (k_s 0) k_s k_letStamp (fun (r_34 : Int32) (s_34 : Nat → Int32) (read_34 : Int32) (spot_34 : Int32) (isWrong_34 : Int32) (open_34 : Int32) (act_34 : Int32) (letStamp_34 : Nat → Int32) => ((¬ r_34 = 0 → (wp_X12_looks (upd s_34 1 ((s_34 1) + (nI 1))) k_fallen k_held k_stands (fun (fallen_59 : Nat → Int32) (held_59 : Nat → Int32) (stands_59 : Nat → Int32) => ((¬ p2 = 0 → (wk_X12_tried_83 p2 k_stamp Q s_34 fallen_59 held_59 stands_59 read_34 spot_34 isWrong_34 open_34 act_34 k_letBy letStamp_34 (nI 0))) ∧ (p2 = 0 → (wp_X12_unlikeOf (nI 0) (nI 1) ((upd s_34 1 ((s_34 1) + (nI 1))) 0) (nI 0) (upd s_34 1 ((s_34 1) + (nI 1))) read_34 spot_34 isWrong_34 open_34 act_34 k_letBy letStamp_34 k_stamp (fun (r_76 : Int32) (read_76 : Int32) (spot_76 : Int32) (isWrong_76 : Int32) (open_76 : Int32) (act_76 : Int32) (letBy_76 : Nat → Int32) (letStamp_76 : Nat → Int32) => (wk_X12_tried_83 p2 k_stamp Q s_34 fallen_59 held_59 stands_59 read_76 spot_76 isWrong_76 open_76 act_76 letBy_76 letStamp_76 r_76)))))))) ∧ (r_34 = 0 → (Q ((-10) - spot_34) s_34 read_34 spot_34 isWrong_34 open_34 act_34 k_letBy letStamp_34 k_fallen k_held k_stands)))))))
set_option maxHeartbeats 4000000 in
set_option maxRecDepth 100000 in
theorem c_X12_tried {l : Launch} {D : va_G} {cI cZ cJ : ClassId} {h : Nat} {ad : Nat → Nat} {sz : Nat} {k_thrown : Int32} {k_s : Nat → Int32} {k_image : Nat → Int32} {k_hasImage : Int32} {k_steps : Nat → Int32} {k_read : Int32} {k_spot : Int32} {k_isWrong : Int32} {k_open : Int32} {k_act : Int32} {k_letBy : Nat → Int32} {k_letStamp : Nat → Int32} {k_stamp : Int32} {k_fallen : Nat → Int32} {k_held : Nat → Int32} {k_stands : Nat → Int32} {k_falling : Nat → Int32} {k_away : Nat → Int32} {k_round : Nat → Int32} {k_rests : Nat → Int64} {k_may : Nat → Int32} {k_next : Nat → Int32} {k_could : Nat → Int32} {k_couldNight : Nat → Int32} {k_night : Int32} {k_seats : Nat → Int32} {p1 : Int32} {p2 : Int32} {Q : Int32 → (Nat → Int32) → (Int32) → (Int32) → (Int32) → (Int32) → (Int32) → (Nat → Int32) → (Nat → Int32) → (Nat → Int32) → (Nat → Int32) → (Nat → Int32) → Prop} (hw : wp_X12_tried p1 p2 k_s k_read k_spot k_isWrong k_open k_act k_letBy k_letStamp k_stamp k_fallen k_held k_stands Q) : Met l yX12_tried (Cond.code yX12_tried cX12_tried 5 (some .int) :: wsG) ({ frames := 35, cells := 0, slots := 0, locals := 800 } : Room) (preW D (tyM cI cZ cJ) (wM cI cZ cJ h ad k_thrown k_s k_image k_hasImage k_steps k_read k_spot k_isWrong k_open k_act k_letBy k_letStamp k_stamp k_fallen k_held k_stands k_falling k_away k_round k_rests k_may k_next k_could k_couldNight k_night k_seats) sz [.ref h, .int p1, .int p2]) (qi11 D (tyM cI cZ cJ) (va_A (wM cI cZ cJ h ad k_thrown k_s k_image k_hasImage k_steps k_read k_spot k_isWrong k_open k_act k_letBy k_letStamp k_stamp k_fallen k_held k_stands k_falling k_away k_round k_rests k_may k_next k_could k_couldNight k_night k_seats) sz) Q (fun k_s' k_read' k_spot' k_isWrong' k_open' k_act' k_letBy' k_letStamp' k_fallen' k_held' k_stands' => (wM cI cZ cJ h ad k_thrown k_s' k_image k_hasImage k_steps k_read' k_spot' k_isWrong' k_open' k_act' k_letBy' k_letStamp' k_stamp k_fallen' k_held' k_stands' k_falling k_away k_round k_rests k_may k_next k_could k_couldNight k_night k_seats))) 0 0 (va_A (wM cI cZ cJ h ad k_thrown k_s k_image k_hasImage k_steps k_read k_spot k_isWrong k_open k_act k_letBy k_letStamp k_stamp k_fallen k_held k_stands k_falling k_away k_round k_rests k_may k_next k_could k_couldNight k_night k_seats) sz) := by
  refine st_met (cc := cX12_tried) (maxL := 5) (ret := (some .int)) (lv := [(0, .ref h), (1, .int p1), (2, .int p2)]) (Qc := fun A => qi11 D (tyM cI cZ cJ) A Q (fun k_s' k_read' k_spot' k_isWrong' k_open' k_act' k_letBy' k_letStamp' k_fallen' k_held' k_stands' => (wM cI cZ cJ h ad k_thrown k_s' k_image k_hasImage k_steps k_read' k_spot' k_isWrong' k_open' k_act' k_letBy' k_letStamp' k_stamp k_fallen' k_held' k_stands' k_falling k_away k_round k_rests k_may k_next k_could k_couldNight k_night k_seats))) (by decide) rfl (Nat.le_of_ble_eq_true rfl) rfl ?_
  intro p e s m below meth c ls A R args QQ H locs C hr hlk hnm hK hX hsz hl hO hR hQQ
  have hx := C.1
  have hb := C.2.1
  have hown := C.2.2.2.1
  have hts := C.2.2.2.2
  have hin : ∀ w ∈ u_ws RX12 TX12 26, w ∈ (Cond.code yX12_tried cX12_tried 5 (some .int) :: wsG) := fun w h9 => List.mem_cons_of_mem _ (inG12 w h9)
  have lk_s := hts (Cond.fieldLink RX12 7 "FreeCityModel" "s" "[I") (List.mem_cons_of_mem _ qw5_207)
  have lk_spot := hts (Cond.fieldLink RX12 95 "FreeCityModel" "spot" "I") (List.mem_cons_of_mem _ qw5_212)
  unfold wp_X12_tried at hw
  refine lv_iload_n hx hb dX12_tried_0 rfl (lv_at hl 1 rfl) ?_
  refine lv_iconst (v := (nI 0)) hx hb dX12_tried_1 (by decide) ?_
  refine lv_iconst (v := (nI 2)) hx hb dX12_tried_2 (by decide) ?_
  refine cSi0 (As := [.int p1, .int (nI 0), .int (nI 2)]) (rest := []) C hK hX hO (c_X12_in (l := l)) (va_cwS 3 hts gd_X12_74 rfl rfl rfl hd_X12_in (rok hR (Nat.le_of_ble_eq_true rfl) (Nat.le_of_ble_eq_true rfl))) rfl hl.1 rfl (Nat.le_of_ble_eq_true rfl) dX12_tried_3 ⟨Nat.zero_le _, Nat.zero_le _⟩ (fun r_3 H locs e_3 hO => ?_)
  subst e_3
  have a_18 : ((f_X12_in p1 (nI 0) (nI 2)) = 0 ∨ (f_X12_in p2 (nI 0) (nI 2)) = 0) → ∀ (H : Heap) (locs : List Loc) (ls : Array Slot), okW D A s.heap H locs (wM cI cZ cJ h ad k_thrown k_s k_image k_hasImage k_steps k_read k_spot k_isWrong k_open k_act k_letBy k_letStamp k_stamp k_fallen k_held k_stands k_falling k_away k_round k_rests k_may k_next k_could k_couldNight k_night k_seats) → lv_has ls 5 [] → W p l e R s m args below meth c H locs 0 0 QQ (F0 m 18 ls []) := by
    intro cf H locs ls hO hl
    have hw := hw.1 cf
    refine lv_iconst (v := (-1)) hx hb dX12_tried_18 (by decide) ?_
    exact ri11 hQQ hx hb hr hlk hK hO hw dX12_tried_19
  have a_20 : ¬ (((f_X12_in p1 (nI 0) (nI 2)) = 0 ∨ (f_X12_in p2 (nI 0) (nI 2)) = 0)) → ∀ (H : Heap) (locs : List Loc) (ls : Array Slot), okW D A s.heap H locs (wM cI cZ cJ h ad k_thrown k_s k_image k_hasImage k_steps k_read k_spot k_isWrong k_open k_act k_letBy k_letStamp k_stamp k_fallen k_held k_stands k_falling k_away k_round k_rests k_may k_next k_could k_couldNight k_night k_seats) → lv_has ls 5 [(0, .ref h), (1, .int p1), (2, .int p2)] → W p l e R s m args below meth c H locs 0 0 QQ (F0 m 20 ls []) := by
    intro cf H locs ls hO hl
    have hw := hw.2 cf
    refine lv_aload_n hx hb dX12_tried_20 rfl (lv_at hl 0 rfl) ?_
    refine lv_aload_n hx hb dX12_tried_21 rfl (lv_at hl 0 rfl) ?_
    refine gM_s C hin hK lk_s hO dX12_tried_22 ?_
    refine lv_iconst (v := (nI 1)) hx hb dX12_tried_25 (by decide) ?_
    refine ldM_s C hK hO (inK 1 6700 (by decide) (by decide)) (clK 1 (by decide)) dX12_tried_26 ?_
    refine lv_iload_n hx hb dX12_tried_27 rfl (lv_at hl 1 rfl) ?_
    refine lv_aload_n hx hb dX12_tried_28 rfl (lv_at hl 0 rfl) ?_
    refine gM_s C hin hK lk_s hO dX12_tried_29 ?_
    refine lv_iconst (v := (nI 0)) hx hb dX12_tried_32 (by decide) ?_
    refine ldM_s C hK hO (inK 0 6700 (by decide) (by decide)) (clK 0 (by decide)) dX12_tried_33 ?_
    refine cVi7 (As := [.int (k_s 1), .int p1, .int (k_s 0)]) (rest := []) C hK hX hO (c_X12_readsText (l := l) hw) (cwV 3 hts gd_X12_151 rfl rfl rfl hd_X12_readsText (rok hR (Nat.le_of_ble_eq_true rfl) (Nat.le_of_ble_eq_true rfl))) (ci := 12) (q0 := 0) rfl rfl rfl rfl hl.1 rfl (Nat.le_of_ble_eq_true rfl) dX12_tried_34 ⟨Nat.zero_le _, Nat.zero_le _⟩ (fun r_34 s_34 read_34 spot_34 isWrong_34 open_34 act_34 letStamp_34 H locs hw hO => ?_)
    refine lv_if_ne (tgt := 48) hx hb dX12_tried_37 (by decide) (fun q_37 => ?_) (fun q_37 => ?_)
    · have hw := hw.1 q_37
      refine lv_aload_n hx hb dX12_tried_48 rfl (lv_at hl 0 rfl) ?_
      refine gM_s C hin hK lk_s hO dX12_tried_49 ?_
      refine lv_iconst (v := (nI 1)) hx hb dX12_tried_52 (by decide) ?_
      refine lv_dup2_11 hx hb dX12_tried_53 rfl rfl ?_
      refine ldM_s C hK hO (inK 1 6700 (by decide) (by decide)) (clK 1 (by decide)) dX12_tried_54 ?_
      refine lv_iconst (v := (nI 1)) hx hb dX12_tried_55 (by decide) ?_
      refine lv_iadd hx hb dX12_tried_56 ?_
      refine stM_s C hK hO (inK 1 6700 (by decide) (by decide)) (clK 1 (by decide)) dX12_tried_57 (fun H locs hO => ?_)
      refine lv_aload_n hx hb dX12_tried_58 rfl (lv_at hl 0 rfl) ?_
      refine cVv3 (As := []) (rest := []) C hK hX hO (c_X12_looks (l := l) hw) (cwV 0 hts gd_X12_169 rfl rfl rfl hd_X12_looks (rok hR (Nat.le_of_ble_eq_true rfl) (Nat.le_of_ble_eq_true rfl))) (ci := 12) (q0 := 0) rfl rfl rfl rfl hl.1 rfl (Nat.le_of_ble_eq_true rfl) dX12_tried_59 ⟨Nat.zero_le _, Nat.zero_le _⟩ (fun fallen_59 held_59 stands_59 H locs hw hO => ?_)
      refine lv_iload_n hx hb dX12_tried_62 rfl (lv_at hl 2 rfl) ?_
      have j_83 : ∀ (read_83 : Int32) (spot_83 : Int32) (isWrong_83 : Int32) (open_83 : Int32) (act_83 : Int32) (letBy_83 : Nat → Int32) (letStamp_83 : Nat → Int32) (t0_83 : Int32) (H : Heap) (locs : List Loc) (ls : Array Slot), okW D A s.heap H locs (wM cI cZ cJ h ad k_thrown (upd s_34 1 ((s_34 1) + (nI 1))) k_image k_hasImage k_steps read_83 spot_83 isWrong_83 open_83 act_83 letBy_83 letStamp_83 k_stamp fallen_59 held_59 stands_59 k_falling k_away k_round k_rests k_may k_next k_could k_couldNight k_night k_seats) → lv_has ls 5 [(0, .ref h), (2, .int p2)] → wk_X12_tried_83 p2 k_stamp Q s_34 fallen_59 held_59 stands_59 read_83 spot_83 isWrong_83 open_83 act_83 letBy_83 letStamp_83 t0_83 → W p l e R s m args below meth c H locs 0 0 QQ (F0 m 83 ls [.int t0_83]) := by
        intro read_83 spot_83 isWrong_83 open_83 act_83 letBy_83 letStamp_83 t0_83 H locs ls hO hl hw
        unfold wk_X12_tried_83 at hw
        refine lv_istore_n (lv' := [(3, .int t0_83), (0, .ref h), (2, .int p2)]) hx hb dX12_tried_83 rfl hl (by decide) rfl (fun ls hl => ?_)
        refine lv_iconst (v := (nI 0)) hx hb dX12_tried_84 (by decide) ?_
        refine lv_istore (lv' := [(4, .int (nI 0)), (3, .int t0_83), (0, .ref h), (2, .int p2)]) hx hb dX12_tried_85 hl (by decide) rfl (fun ls hl => ?_)
        obtain ⟨n_87, hw⟩ := hw
        have b_87 : ∀ (L_87 : Int32 → Int32 → Int32 → Int32 → Int32 → Int32 → Int32 → (Nat → Int32) → (Nat → Int32) → Prop) (ih_87 : ∀ (v3_87 : Int32) (v4_87 : Int32) (read_87 : Int32) (spot_87 : Int32) (isWrong_87 : Int32) (open_87 : Int32) (act_87 : Int32) (letBy_87 : Nat → Int32) (letStamp_87 : Nat → Int32) (H : Heap) (locs : List Loc) (ls : Array Slot), okW D A s.heap H locs (wM cI cZ cJ h ad k_thrown (upd s_34 1 ((s_34 1) + (nI 1))) k_image k_hasImage k_steps read_87 spot_87 isWrong_87 open_87 act_87 letBy_87 letStamp_87 k_stamp fallen_59 held_59 stands_59 k_falling k_away k_round k_rests k_may k_next k_could k_couldNight k_night k_seats) → lv_has ls 5 [(0, .ref h), (2, .int p2), (3, .int v3_87), (4, .int v4_87)] → L_87 v3_87 v4_87 read_87 spot_87 isWrong_87 open_87 act_87 letBy_87 letStamp_87 → W p l e R s m args below meth c H locs 0 0 QQ (F0 m 87 ls [])) (v3_87 : Int32) (v4_87 : Int32) (read_87 : Int32) (spot_87 : Int32) (isWrong_87 : Int32) (open_87 : Int32) (act_87 : Int32) (letBy_87 : Nat → Int32) (letStamp_87 : Nat → Int32) (H : Heap) (locs : List Loc) (ls : Array Slot), okW D A s.heap H locs (wM cI cZ cJ h ad k_thrown (upd s_34 1 ((s_34 1) + (nI 1))) k_image k_hasImage k_steps read_87 spot_87 isWrong_87 open_87 act_87 letBy_87 letStamp_87 k_stamp fallen_59 held_59 stands_59 k_falling k_away k_round k_rests k_may k_next k_could k_couldNight k_night k_seats) → lv_has ls 5 [(0, .ref h), (2, .int p2), (3, .int v3_87), (4, .int v4_87)] → wb_X12_tried_87 p2 k_stamp Q s_34 fallen_59 held_59 stands_59 L_87 v3_87 v4_87 read_87 spot_87 isWrong_87 open_87 act_87 letBy_87 letStamp_87 → W p l e R s m args below meth c H locs 0 0 QQ (F0 m 87 ls []) := by
          intro L_87 ih_87 v3_87 v4_87 read_87 spot_87 isWrong_87 open_87 act_87 letBy_87 letStamp_87 H locs ls hO hl hw
          unfold wb_X12_tried_87 at hw
          refine lv_iload hx hb dX12_tried_87 (lv_at hl 3 rfl) ?_
          refine lv_sipush (v := (nI 10800)) hx hb dX12_tried_89 (by decide) ?_
          have a_100 : (¬ (nI 10800) ≤ v4_87 ∧ p2 = (nI 1)) → ∀ (H : Heap) (locs : List Loc) (ls : Array Slot), okW D A s.heap H locs (wM cI cZ cJ h ad k_thrown (upd s_34 1 ((s_34 1) + (nI 1))) k_image k_hasImage k_steps read_87 spot_87 isWrong_87 open_87 act_87 letBy_87 letStamp_87 k_stamp fallen_59 held_59 stands_59 k_falling k_away k_round k_rests k_may k_next k_could k_couldNight k_night k_seats) → lv_has ls 5 [(0, .ref h), (2, .int p2), (3, .int v3_87), (4, .int v4_87)] → W p l e R s m args below meth c H locs 0 0 QQ (F0 m 100 ls []) := by
            intro cf H locs ls hO hl
            have hw := hw.1 cf
            refine lv_iload_n hx hb dX12_tried_100 rfl (lv_at hl 2 rfl) ?_
            refine lv_aload_n hx hb dX12_tried_101 rfl (lv_at hl 0 rfl) ?_
            refine lv_iload hx hb dX12_tried_102 (lv_at hl 3 rfl) ?_
            refine lv_aload_n hx hb dX12_tried_104 rfl (lv_at hl 0 rfl) ?_
            refine gM_s C hin hK lk_s hO dX12_tried_105 ?_
            refine lv_iconst (v := (nI 0)) hx hb dX12_tried_108 (by decide) ?_
            refine ldM_s C hK hO (inK 0 6700 (by decide) (by decide)) (clK 0 (by decide)) dX12_tried_109 ?_
            refine cVi7 (As := [.int v4_87, .int ((upd s_34 1 ((s_34 1) + (nI 1))) 0)]) (rest := [.int v3_87]) C hK hX hO (c_X12_lets (l := l) hw) (cwV 2 hts gd_X12_172 rfl rfl rfl hd_X12_lets (rok hR (Nat.le_of_ble_eq_true rfl) (Nat.le_of_ble_eq_true rfl))) (ci := 12) (q0 := 0) rfl rfl rfl rfl hl.1 rfl (Nat.le_of_ble_eq_true rfl) dX12_tried_110 ⟨Nat.zero_le _, Nat.zero_le _⟩ (fun r_110 read_110 spot_110 isWrong_110 open_110 act_110 letBy_110 letStamp_110 H locs hw hO => ?_)
            have m_121 : ∀ (y1_121 : Int32) (H : Heap) (locs : List Loc) (ls : Array Slot), y1_121 = (if r_110 = 0 then (nI 0) else (nI 1)) → okW D A s.heap H locs (wM cI cZ cJ h ad k_thrown (upd s_34 1 ((s_34 1) + (nI 1))) k_image k_hasImage k_steps read_110 spot_110 isWrong_110 open_110 act_110 letBy_110 letStamp_110 k_stamp fallen_59 held_59 stands_59 k_falling k_away k_round k_rests k_may k_next k_could k_couldNight k_night k_seats) → lv_has ls 5 [(0, .ref h), (2, .int p2), (4, .int v4_87)] → W p l e R s m args below meth c H locs 0 0 QQ (F0 m 121 ls [.int y1_121, .int v3_87]) := by
              intro y1_121 H locs ls ey1_121 hO hl
              have hw := hw y1_121 ey1_121
              refine lv_iadd hx hb dX12_tried_121 ?_
              refine lv_istore_n (lv' := [(3, .int (v3_87 + y1_121)), (0, .ref h), (2, .int p2), (4, .int v4_87)]) hx hb dX12_tried_122 rfl hl (by decide) rfl (fun ls hl => ?_)
              refine lv_iinc (v := (v4_87 + (nI 1))) (lv' := [(4, .int (v4_87 + (nI 1))), (3, .int (v3_87 + y1_121)), (0, .ref h), (2, .int p2)]) hx hb dX12_tried_123 hl (k := 3) rfl (iinc_1 _) (by decide) rfl (fun ls hl => ?_)
              refine lv_goto (tgt := 87) hx hb dX12_tried_126 (by decide) ?_
              exact ih_87 (v3_87 + y1_121) (v4_87 + (nI 1)) read_110 spot_110 isWrong_110 open_110 act_110 letBy_110 letStamp_110 _ _ _ hO (lv_sub hl [2, 3, 1, 0] rfl) hw
            refine lv_if_eq (tgt := 120) hx hb dX12_tried_113 (by decide) (fun q_113 => ?_) (fun q_113 => ?_)
            · refine lv_iconst (v := (nI 0)) hx hb dX12_tried_120 (by decide) ?_
              have hl := lv_sub hl [0, 1, 3] rfl (l' := [(0, .ref h), (2, .int p2), (4, .int v4_87)])
              exact m_121 _ _ _ _ (by rw [if_pos q_113]) hO hl
            · refine lv_iconst (v := (nI 1)) hx hb dX12_tried_116 (by decide) ?_
              refine lv_goto (tgt := 121) hx hb dX12_tried_117 (by decide) ?_
              have hl := lv_sub hl [0, 1, 3] rfl (l' := [(0, .ref h), (2, .int p2), (4, .int v4_87)])
              exact m_121 _ _ _ _ (by rw [if_neg q_113]) hO hl
          have a_129 : ¬ ((¬ (nI 10800) ≤ v4_87 ∧ p2 = (nI 1))) → ∀ (H : Heap) (locs : List Loc) (ls : Array Slot), okW D A s.heap H locs (wM cI cZ cJ h ad k_thrown (upd s_34 1 ((s_34 1) + (nI 1))) k_image k_hasImage k_steps read_87 spot_87 isWrong_87 open_87 act_87 letBy_87 letStamp_87 k_stamp fallen_59 held_59 stands_59 k_falling k_away k_round k_rests k_may k_next k_could k_couldNight k_night k_seats) → lv_has ls 5 [(0, .ref h), (2, .int p2), (3, .int v3_87)] → W p l e R s m args below meth c H locs 0 0 QQ (F0 m 129 ls []) := by
            intro cf H locs ls hO hl
            have hw := hw.2 cf
            refine lv_iconst (v := (nI 0)) hx hb dX12_tried_129 (by decide) ?_
            refine lv_istore (lv' := [(4, .int (nI 0)), (0, .ref h), (2, .int p2), (3, .int v3_87)]) hx hb dX12_tried_130 hl (by decide) rfl (fun ls hl => ?_)
            obtain ⟨n_132, hw⟩ := hw
            have b_132 : ∀ (L_132 : Int32 → Int32 → Int32 → Int32 → Int32 → Int32 → Int32 → (Nat → Int32) → (Nat → Int32) → Prop) (ih_132 : ∀ (v3_132 : Int32) (v4_132 : Int32) (read_132 : Int32) (spot_132 : Int32) (isWrong_132 : Int32) (open_132 : Int32) (act_132 : Int32) (letBy_132 : Nat → Int32) (letStamp_132 : Nat → Int32) (H : Heap) (locs : List Loc) (ls : Array Slot), okW D A s.heap H locs (wM cI cZ cJ h ad k_thrown (upd s_34 1 ((s_34 1) + (nI 1))) k_image k_hasImage k_steps read_132 spot_132 isWrong_132 open_132 act_132 letBy_132 letStamp_132 k_stamp fallen_59 held_59 stands_59 k_falling k_away k_round k_rests k_may k_next k_could k_couldNight k_night k_seats) → lv_has ls 5 [(0, .ref h), (2, .int p2), (3, .int v3_132), (4, .int v4_132)] → L_132 v3_132 v4_132 read_132 spot_132 isWrong_132 open_132 act_132 letBy_132 letStamp_132 → W p l e R s m args below meth c H locs 0 0 QQ (F0 m 132 ls [])) (v3_132 : Int32) (v4_132 : Int32) (read_132 : Int32) (spot_132 : Int32) (isWrong_132 : Int32) (open_132 : Int32) (act_132 : Int32) (letBy_132 : Nat → Int32) (letStamp_132 : Nat → Int32) (H : Heap) (locs : List Loc) (ls : Array Slot), okW D A s.heap H locs (wM cI cZ cJ h ad k_thrown (upd s_34 1 ((s_34 1) + (nI 1))) k_image k_hasImage k_steps read_132 spot_132 isWrong_132 open_132 act_132 letBy_132 letStamp_132 k_stamp fallen_59 held_59 stands_59 k_falling k_away k_round k_rests k_may k_next k_could k_couldNight k_night k_seats) → lv_has ls 5 [(0, .ref h), (2, .int p2), (3, .int v3_132), (4, .int v4_132)] → wb_X12_tried_132 p2 k_stamp Q s_34 fallen_59 held_59 stands_59 L_132 v3_132 v4_132 read_132 spot_132 isWrong_132 open_132 act_132 letBy_132 letStamp_132 → W p l e R s m args below meth c H locs 0 0 QQ (F0 m 132 ls []) := by
              intro L_132 ih_132 v3_132 v4_132 read_132 spot_132 isWrong_132 open_132 act_132 letBy_132 letStamp_132 H locs ls hO hl hw
              unfold wb_X12_tried_132 at hw
              refine lv_iload hx hb dX12_tried_132 (lv_at hl 3 rfl) ?_
              refine lv_aload_n hx hb dX12_tried_134 rfl (lv_at hl 0 rfl) ?_
              refine gM_s C hin hK lk_s hO dX12_tried_135 ?_
              refine lv_bipush (v := (nI 9)) hx hb dX12_tried_138 (by decide) ?_
              refine ldM_s C hK hO (inK 9 6700 (by decide) (by decide)) (clK 9 (by decide)) dX12_tried_140 ?_
              have a_149 : (¬ ((upd s_34 1 ((s_34 1) + (nI 1))) 9) ≤ v4_132 ∧ p2 = (nI 2)) → ∀ (H : Heap) (locs : List Loc) (ls : Array Slot), okW D A s.heap H locs (wM cI cZ cJ h ad k_thrown (upd s_34 1 ((s_34 1) + (nI 1))) k_image k_hasImage k_steps read_132 spot_132 isWrong_132 open_132 act_132 letBy_132 letStamp_132 k_stamp fallen_59 held_59 stands_59 k_falling k_away k_round k_rests k_may k_next k_could k_couldNight k_night k_seats) → lv_has ls 5 [(0, .ref h), (2, .int p2), (3, .int v3_132), (4, .int v4_132)] → W p l e R s m args below meth c H locs 0 0 QQ (F0 m 149 ls []) := by
                intro cf H locs ls hO hl
                have hw := hw.1 cf
                refine lv_iload_n hx hb dX12_tried_149 rfl (lv_at hl 2 rfl) ?_
                refine lv_aload_n hx hb dX12_tried_150 rfl (lv_at hl 0 rfl) ?_
                refine lv_aload_n hx hb dX12_tried_151 rfl (lv_at hl 0 rfl) ?_
                refine gM_s C hin hK lk_s hO dX12_tried_152 ?_
                refine lv_sipush (v := (nI 1172)) hx hb dX12_tried_155 (by decide) ?_
                refine lv_iload hx hb dX12_tried_158 (lv_at hl 3 rfl) ?_
                refine lv_iadd hx hb dX12_tried_160 ?_
                obtain ⟨o_161, hw⟩ := hw
                refine ldM_s C hK hO o_161 rfl dX12_tried_161 ?_
                refine lv_aload_n hx hb dX12_tried_162 rfl (lv_at hl 0 rfl) ?_
                refine gM_s C hin hK lk_s hO dX12_tried_163 ?_
                refine lv_iconst (v := (nI 0)) hx hb dX12_tried_166 (by decide) ?_
                refine ldM_s C hK hO (inK 0 6700 (by decide) (by decide)) (clK 0 (by decide)) dX12_tried_167 ?_
                refine cVi7 (As := [.int ((upd s_34 1 ((s_34 1) + (nI 1))) (((nI 1172) + v4_132)).toNatClampNeg), .int ((upd s_34 1 ((s_34 1) + (nI 1))) 0)]) (rest := [.int v3_132]) C hK hX hO (c_X12_lets (l := l) hw) (cwV 2 hts gd_X12_172 rfl rfl rfl hd_X12_lets (rok hR (Nat.le_of_ble_eq_true rfl) (Nat.le_of_ble_eq_true rfl))) (ci := 12) (q0 := 0) rfl rfl rfl rfl hl.1 rfl (Nat.le_of_ble_eq_true rfl) dX12_tried_168 ⟨Nat.zero_le _, Nat.zero_le _⟩ (fun r_168 read_168 spot_168 isWrong_168 open_168 act_168 letBy_168 letStamp_168 H locs hw hO => ?_)
                have m_179 : ∀ (y1_179 : Int32) (H : Heap) (locs : List Loc) (ls : Array Slot), y1_179 = (if r_168 = 0 then (nI 0) else (nI 1)) → okW D A s.heap H locs (wM cI cZ cJ h ad k_thrown (upd s_34 1 ((s_34 1) + (nI 1))) k_image k_hasImage k_steps read_168 spot_168 isWrong_168 open_168 act_168 letBy_168 letStamp_168 k_stamp fallen_59 held_59 stands_59 k_falling k_away k_round k_rests k_may k_next k_could k_couldNight k_night k_seats) → lv_has ls 5 [(0, .ref h), (2, .int p2), (4, .int v4_132)] → W p l e R s m args below meth c H locs 0 0 QQ (F0 m 179 ls [.int y1_179, .int v3_132]) := by
                  intro y1_179 H locs ls ey1_179 hO hl
                  have hw := hw y1_179 ey1_179
                  refine lv_iadd hx hb dX12_tried_179 ?_
                  refine lv_istore_n (lv' := [(3, .int (v3_132 + y1_179)), (0, .ref h), (2, .int p2), (4, .int v4_132)]) hx hb dX12_tried_180 rfl hl (by decide) rfl (fun ls hl => ?_)
                  refine lv_iinc (v := (v4_132 + (nI 1))) (lv' := [(4, .int (v4_132 + (nI 1))), (3, .int (v3_132 + y1_179)), (0, .ref h), (2, .int p2)]) hx hb dX12_tried_181 hl (k := 3) rfl (iinc_1 _) (by decide) rfl (fun ls hl => ?_)
                  refine lv_goto (tgt := 132) hx hb dX12_tried_184 (by decide) ?_
                  exact ih_132 (v3_132 + y1_179) (v4_132 + (nI 1)) read_168 spot_168 isWrong_168 open_168 act_168 letBy_168 letStamp_168 _ _ _ hO (lv_sub hl [2, 3, 1, 0] rfl) hw
                refine lv_if_eq (tgt := 178) hx hb dX12_tried_171 (by decide) (fun q_171 => ?_) (fun q_171 => ?_)
                · refine lv_iconst (v := (nI 0)) hx hb dX12_tried_178 (by decide) ?_
                  have hl := lv_sub hl [0, 1, 3] rfl (l' := [(0, .ref h), (2, .int p2), (4, .int v4_132)])
                  exact m_179 _ _ _ _ (by rw [if_pos q_171]) hO hl
                · refine lv_iconst (v := (nI 1)) hx hb dX12_tried_174 (by decide) ?_
                  refine lv_goto (tgt := 179) hx hb dX12_tried_175 (by decide) ?_
                  have hl := lv_sub hl [0, 1, 3] rfl (l' := [(0, .ref h), (2, .int p2), (4, .int v4_132)])
                  exact m_179 _ _ _ _ (by rw [if_neg q_171]) hO hl
              have a_187 : ¬ ((¬ ((upd s_34 1 ((s_34 1) + (nI 1))) 9) ≤ v4_132 ∧ p2 = (nI 2))) → ∀ (H : Heap) (locs : List Loc) (ls : Array Slot), okW D A s.heap H locs (wM cI cZ cJ h ad k_thrown (upd s_34 1 ((s_34 1) + (nI 1))) k_image k_hasImage k_steps read_132 spot_132 isWrong_132 open_132 act_132 letBy_132 letStamp_132 k_stamp fallen_59 held_59 stands_59 k_falling k_away k_round k_rests k_may k_next k_could k_couldNight k_night k_seats) → lv_has ls 5 [(0, .ref h), (3, .int v3_132)] → W p l e R s m args below meth c H locs 0 0 QQ (F0 m 187 ls []) := by
                intro cf H locs ls hO hl
                have hw := hw.2 cf
                refine lv_aload_n hx hb dX12_tried_187 rfl (lv_at hl 0 rfl) ?_
                refine gM_s C hin hK lk_s hO dX12_tried_188 ?_
                refine lv_iconst (v := (nI 1)) hx hb dX12_tried_191 (by decide) ?_
                refine lv_dup2_11 hx hb dX12_tried_192 rfl rfl ?_
                refine ldM_s C hK hO (inK 1 6700 (by decide) (by decide)) (clK 1 (by decide)) dX12_tried_193 ?_
                refine lv_iconst (v := (nI 1)) hx hb dX12_tried_194 (by decide) ?_
                refine lv_isub hx hb dX12_tried_195 ?_
                refine stM_s C hK hO (inK 1 6700 (by decide) (by decide)) (clK 1 (by decide)) dX12_tried_196 (fun H locs hO => ?_)
                refine lv_iload_n hx hb dX12_tried_197 rfl (lv_at hl 1 rfl) ?_
                exact ri11 hQQ hx hb hr hlk hK hO hw dX12_tried_198
              refine lv_icmp_ge (tgt := 187) hx hb dX12_tried_141 (by decide) (fun q_141 => ?_) (fun q_141 => ?_)
              · have hl := lv_sub hl [0, 2] rfl (l' := [(0, .ref h), (3, .int v3_132)])
                exact a_187 (fun h => h.1 q_141) _ _ _ hO hl
              · refine lv_iload_n hx hb dX12_tried_144 rfl (lv_at hl 1 rfl) ?_
                refine lv_iconst (v := (nI 2)) hx hb dX12_tried_145 (by decide) ?_
                refine lv_icmp_ne (tgt := 187) hx hb dX12_tried_146 (by decide) (fun q_146 => ?_) (fun q_146 => ?_)
                · have hl := lv_sub hl [0, 2] rfl (l' := [(0, .ref h), (3, .int v3_132)])
                  exact a_187 (fun h => (q_146) h.2) _ _ _ hO hl
                · have hl := lv_sub hl [0, 1, 2, 3] rfl (l' := [(0, .ref h), (2, .int p2), (3, .int v3_132), (4, .int v4_132)])
                  exact a_149 ⟨q_141, q_146⟩ _ _ _ hO hl
            have l_132 : ∀ (n : Nat) (v3_132 : Int32) (v4_132 : Int32) (read_132 : Int32) (spot_132 : Int32) (isWrong_132 : Int32) (open_132 : Int32) (act_132 : Int32) (letBy_132 : Nat → Int32) (letStamp_132 : Nat → Int32) (H : Heap) (locs : List Loc) (ls : Array Slot), okW D A s.heap H locs (wM cI cZ cJ h ad k_thrown (upd s_34 1 ((s_34 1) + (nI 1))) k_image k_hasImage k_steps read_132 spot_132 isWrong_132 open_132 act_132 letBy_132 letStamp_132 k_stamp fallen_59 held_59 stands_59 k_falling k_away k_round k_rests k_may k_next k_could k_couldNight k_night k_seats) → lv_has ls 5 [(0, .ref h), (2, .int p2), (3, .int v3_132), (4, .int v4_132)] → wl_X12_tried_132 p2 k_stamp Q s_34 fallen_59 held_59 stands_59 n v3_132 v4_132 read_132 spot_132 isWrong_132 open_132 act_132 letBy_132 letStamp_132 → W p l e R s m args below meth c H locs 0 0 QQ (F0 m 132 ls []) := by
              intro n
              induction n with
              | zero => intro v3_132 v4_132 read_132 spot_132 isWrong_132 open_132 act_132 letBy_132 letStamp_132 H locs ls hO hl hw; exact False.elim hw
              | succ n ih => exact b_132 _ ih
            exact l_132 n_132 v3_87 (nI 0) read_87 spot_87 isWrong_87 open_87 act_87 letBy_87 letStamp_87 _ _ _ hO (lv_sub hl [1, 2, 3, 0] rfl) hw
          refine lv_icmp_ge (tgt := 129) hx hb dX12_tried_92 (by decide) (fun q_92 => ?_) (fun q_92 => ?_)
          · have hl := lv_sub hl [0, 1, 2] rfl (l' := [(0, .ref h), (2, .int p2), (3, .int v3_87)])
            exact a_129 (fun h => h.1 q_92) _ _ _ hO hl
          · refine lv_iload_n hx hb dX12_tried_95 rfl (lv_at hl 1 rfl) ?_
            refine lv_iconst (v := (nI 1)) hx hb dX12_tried_96 (by decide) ?_
            refine lv_icmp_ne (tgt := 129) hx hb dX12_tried_97 (by decide) (fun q_97 => ?_) (fun q_97 => ?_)
            · have hl := lv_sub hl [0, 1, 2] rfl (l' := [(0, .ref h), (2, .int p2), (3, .int v3_87)])
              exact a_129 (fun h => (q_97) h.2) _ _ _ hO hl
            · have hl := lv_sub hl [0, 1, 2, 3] rfl (l' := [(0, .ref h), (2, .int p2), (3, .int v3_87), (4, .int v4_87)])
              exact a_100 ⟨q_92, q_97⟩ _ _ _ hO hl
        have l_87 : ∀ (n : Nat) (v3_87 : Int32) (v4_87 : Int32) (read_87 : Int32) (spot_87 : Int32) (isWrong_87 : Int32) (open_87 : Int32) (act_87 : Int32) (letBy_87 : Nat → Int32) (letStamp_87 : Nat → Int32) (H : Heap) (locs : List Loc) (ls : Array Slot), okW D A s.heap H locs (wM cI cZ cJ h ad k_thrown (upd s_34 1 ((s_34 1) + (nI 1))) k_image k_hasImage k_steps read_87 spot_87 isWrong_87 open_87 act_87 letBy_87 letStamp_87 k_stamp fallen_59 held_59 stands_59 k_falling k_away k_round k_rests k_may k_next k_could k_couldNight k_night k_seats) → lv_has ls 5 [(0, .ref h), (2, .int p2), (3, .int v3_87), (4, .int v4_87)] → wl_X12_tried_87 p2 k_stamp Q s_34 fallen_59 held_59 stands_59 n v3_87 v4_87 read_87 spot_87 isWrong_87 open_87 act_87 letBy_87 letStamp_87 → W p l e R s m args below meth c H locs 0 0 QQ (F0 m 87 ls []) := by
          intro n
          induction n with
          | zero => intro v3_87 v4_87 read_87 spot_87 isWrong_87 open_87 act_87 letBy_87 letStamp_87 H locs ls hO hl hw; exact False.elim hw
          | succ n ih => exact b_87 _ ih
        exact l_87 n_87 t0_83 (nI 0) read_83 spot_83 isWrong_83 open_83 act_83 letBy_83 letStamp_83 _ _ _ hO (lv_sub hl [2, 3, 1, 0] rfl) hw
      refine lv_if_ne (tgt := 82) hx hb dX12_tried_63 (by decide) (fun q_63 => ?_) (fun q_63 => ?_)
      · have hw := hw.1 q_63
        refine lv_iconst (v := (nI 0)) hx hb dX12_tried_82 (by decide) ?_
        exact j_83 read_34 spot_34 isWrong_34 open_34 act_34 k_letBy letStamp_34 (nI 0) _ _ _ hO (lv_sub hl [0, 2] rfl) hw
      · have hw := hw.2 q_63
        refine lv_aload_n hx hb dX12_tried_66 rfl (lv_at hl 0 rfl) ?_
        refine lv_iconst (v := (nI 0)) hx hb dX12_tried_67 (by decide) ?_
        refine lv_iconst (v := (nI 1)) hx hb dX12_tried_68 (by decide) ?_
        refine lv_aload_n hx hb dX12_tried_69 rfl (lv_at hl 0 rfl) ?_
        refine gM_s C hin hK lk_s hO dX12_tried_70 ?_
        refine lv_iconst (v := (nI 0)) hx hb dX12_tried_73 (by decide) ?_
        refine ldM_s C hK hO (inK 0 6700 (by decide) (by decide)) (clK 0 (by decide)) dX12_tried_74 ?_
        refine lv_iconst (v := (nI 0)) hx hb dX12_tried_75 (by decide) ?_
        refine cVi7 (As := [.int (nI 0), .int (nI 1), .int ((upd s_34 1 ((s_34 1) + (nI 1))) 0), .int (nI 0)]) (rest := []) C hK hX hO (c_X12_unlikeOf (l := l) hw) (cwV 4 hts gd_X12_179 rfl rfl rfl hd_X12_unlikeOf (rok hR (Nat.le_of_ble_eq_true rfl) (Nat.le_of_ble_eq_true rfl))) (ci := 12) (q0 := 0) rfl rfl rfl rfl hl.1 rfl (Nat.le_of_ble_eq_true rfl) dX12_tried_76 ⟨Nat.zero_le _, Nat.zero_le _⟩ (fun r_76 read_76 spot_76 isWrong_76 open_76 act_76 letBy_76 letStamp_76 H locs hw hO => ?_)
        refine lv_goto (tgt := 83) hx hb dX12_tried_79 (by decide) ?_
        exact j_83 read_76 spot_76 isWrong_76 open_76 act_76 letBy_76 letStamp_76 r_76 _ _ _ hO (lv_sub hl [0, 2] rfl) hw
    · have hw := hw.2 q_37
      refine lv_bipush (v := (-10)) hx hb dX12_tried_40 (by decide) ?_
      refine lv_aload_n hx hb dX12_tried_42 rfl (lv_at hl 0 rfl) ?_
      refine gM_spot C hin hK lk_spot hO dX12_tried_43 ?_
      refine lv_isub hx hb dX12_tried_46 ?_
      exact ri11 hQQ hx hb hr hlk hK hO hw dX12_tried_47
  refine lv_if_eq (tgt := 18) hx hb dX12_tried_6 (by decide) (fun q_6 => ?_) (fun q_6 => ?_)
  · have hl := lv_sub hl [] rfl (l' := [])
    exact a_18 (Or.inl q_6) _ _ _ hO hl
  · refine lv_iload_n hx hb dX12_tried_9 rfl (lv_at hl 2 rfl) ?_
    refine lv_iconst (v := (nI 0)) hx hb dX12_tried_10 (by decide) ?_
    refine lv_iconst (v := (nI 2)) hx hb dX12_tried_11 (by decide) ?_
    refine cSi0 (As := [.int p2, .int (nI 0), .int (nI 2)]) (rest := []) C hK hX hO (c_X12_in (l := l)) (va_cwS 3 hts gd_X12_74 rfl rfl rfl hd_X12_in (rok hR (Nat.le_of_ble_eq_true rfl) (Nat.le_of_ble_eq_true rfl))) rfl hl.1 rfl (Nat.le_of_ble_eq_true rfl) dX12_tried_12 ⟨Nat.zero_le _, Nat.zero_le _⟩ (fun r_12 H locs e_12 hO => ?_)
    subst e_12
    refine lv_if_ne (tgt := 20) hx hb dX12_tried_15 (by decide) (fun q_15 => ?_) (fun q_15 => ?_)
    · have hl := lv_sub hl [0, 1, 2] rfl (l' := [(0, .ref h), (1, .int p1), (2, .int p2)])
      exact a_20 (fun h => h.elim q_6 q_15) _ _ _ hO hl
    · have hl := lv_sub hl [] rfl (l' := [])
      exact a_18 (Or.inr q_15) _ _ _ hO hl
def wb_X12_image_2 (k_s : Nat → Int32) (Q : Int32 → (Nat → Int32) → (Int32) → Prop) (L_2 : Int32 → (Nat → Int32) → Prop) (v1_2 : Int32) (image_2 : Nat → Int32) : Prop := (((nI 6700) ≤ v1_2 → (Q (k_s 0) image_2 (nI 1))) ∧ (¬ (nI 6700) ≤ v1_2 → (vp_in v1_2 6700 ∧ (vp_in v1_2 6700 ∧ (L_2 (v1_2 + (nI 1)) (upd image_2 ((v1_2).toNatClampNeg) (k_s (v1_2).toNatClampNeg)))))))
def wl_X12_image_2 (k_s : Nat → Int32) (Q : Int32 → (Nat → Int32) → (Int32) → Prop) : Nat → Int32 → (Nat → Int32) → Prop
  | 0, _, _ => False
  | n + 1, v1_2, image_2 => wb_X12_image_2 k_s Q (wl_X12_image_2 k_s Q n) v1_2 image_2
def wp_X12_image  (k_s : Nat → Int32) (k_image : Nat → Int32) (Q : Int32 → (Nat → Int32) → (Int32) → Prop) : Prop := (∃ n, wl_X12_image_2 k_s Q n (nI 0) k_image)
set_option maxHeartbeats 4000000 in
set_option maxRecDepth 100000 in
theorem c_X12_image {l : Launch} {D : va_G} {cI cZ cJ : ClassId} {h : Nat} {ad : Nat → Nat} {sz : Nat} {k_thrown : Int32} {k_s : Nat → Int32} {k_image : Nat → Int32} {k_hasImage : Int32} {k_steps : Nat → Int32} {k_read : Int32} {k_spot : Int32} {k_isWrong : Int32} {k_open : Int32} {k_act : Int32} {k_letBy : Nat → Int32} {k_letStamp : Nat → Int32} {k_stamp : Int32} {k_fallen : Nat → Int32} {k_held : Nat → Int32} {k_stands : Nat → Int32} {k_falling : Nat → Int32} {k_away : Nat → Int32} {k_round : Nat → Int32} {k_rests : Nat → Int64} {k_may : Nat → Int32} {k_next : Nat → Int32} {k_could : Nat → Int32} {k_couldNight : Nat → Int32} {k_night : Int32} {k_seats : Nat → Int32}  {Q : Int32 → (Nat → Int32) → (Int32) → Prop} (hw : wp_X12_image k_s k_image Q) : Met l yX12_image (Cond.code yX12_image cX12_image 2 (some .int) :: wsG) ({ frames := 0, cells := 0, slots := 0, locals := 0 } : Room) (preW D (tyM cI cZ cJ) (wM cI cZ cJ h ad k_thrown k_s k_image k_hasImage k_steps k_read k_spot k_isWrong k_open k_act k_letBy k_letStamp k_stamp k_fallen k_held k_stands k_falling k_away k_round k_rests k_may k_next k_could k_couldNight k_night k_seats) sz [.ref h]) (qi2 D (tyM cI cZ cJ) (va_A (wM cI cZ cJ h ad k_thrown k_s k_image k_hasImage k_steps k_read k_spot k_isWrong k_open k_act k_letBy k_letStamp k_stamp k_fallen k_held k_stands k_falling k_away k_round k_rests k_may k_next k_could k_couldNight k_night k_seats) sz) Q (fun k_image' k_hasImage' => (wM cI cZ cJ h ad k_thrown k_s k_image' k_hasImage' k_steps k_read k_spot k_isWrong k_open k_act k_letBy k_letStamp k_stamp k_fallen k_held k_stands k_falling k_away k_round k_rests k_may k_next k_could k_couldNight k_night k_seats))) 0 0 (va_A (wM cI cZ cJ h ad k_thrown k_s k_image k_hasImage k_steps k_read k_spot k_isWrong k_open k_act k_letBy k_letStamp k_stamp k_fallen k_held k_stands k_falling k_away k_round k_rests k_may k_next k_could k_couldNight k_night k_seats) sz) := by
  refine st_met (cc := cX12_image) (maxL := 2) (ret := (some .int)) (lv := [(0, .ref h)]) (Qc := fun A => qi2 D (tyM cI cZ cJ) A Q (fun k_image' k_hasImage' => (wM cI cZ cJ h ad k_thrown k_s k_image' k_hasImage' k_steps k_read k_spot k_isWrong k_open k_act k_letBy k_letStamp k_stamp k_fallen k_held k_stands k_falling k_away k_round k_rests k_may k_next k_could k_couldNight k_night k_seats))) (by decide) rfl (Nat.le_of_ble_eq_true rfl) rfl ?_
  intro p e s m below meth c ls A R args QQ H locs C hr hlk hnm hK hX hsz hl hO hR hQQ
  have hx := C.1
  have hb := C.2.1
  have hown := C.2.2.2.1
  have hts := C.2.2.2.2
  have hin : ∀ w ∈ u_ws RX12 TX12 26, w ∈ (Cond.code yX12_image cX12_image 2 (some .int) :: wsG) := fun w h9 => List.mem_cons_of_mem _ (inG12 w h9)
  have lk_image := hts (Cond.fieldLink RX12 13 "FreeCityModel" "image" "[I") (List.mem_cons_of_mem _ qw5_208)
  have lk_s := hts (Cond.fieldLink RX12 7 "FreeCityModel" "s" "[I") (List.mem_cons_of_mem _ qw5_207)
  have lk_hasImage := hts (Cond.fieldLink RX12 265 "FreeCityModel" "hasImage" "Z") (List.mem_cons_of_mem _ qw5_209)
  unfold wp_X12_image at hw
  refine lv_iconst (v := (nI 0)) hx hb dX12_image_0 (by decide) ?_
  refine lv_istore_n (lv' := [(1, .int (nI 0)), (0, .ref h)]) hx hb dX12_image_1 rfl hl (by decide) rfl (fun ls hl => ?_)
  obtain ⟨n_2, hw⟩ := hw
  have b_2 : ∀ (L_2 : Int32 → (Nat → Int32) → Prop) (ih_2 : ∀ (v1_2 : Int32) (image_2 : Nat → Int32) (H : Heap) (locs : List Loc) (ls : Array Slot), okW D A s.heap H locs (wM cI cZ cJ h ad k_thrown k_s image_2 k_hasImage k_steps k_read k_spot k_isWrong k_open k_act k_letBy k_letStamp k_stamp k_fallen k_held k_stands k_falling k_away k_round k_rests k_may k_next k_could k_couldNight k_night k_seats) → lv_has ls 2 [(0, .ref h), (1, .int v1_2)] → L_2 v1_2 image_2 → W p l e R s m args below meth c H locs 0 0 QQ (F0 m 2 ls [])) (v1_2 : Int32) (image_2 : Nat → Int32) (H : Heap) (locs : List Loc) (ls : Array Slot), okW D A s.heap H locs (wM cI cZ cJ h ad k_thrown k_s image_2 k_hasImage k_steps k_read k_spot k_isWrong k_open k_act k_letBy k_letStamp k_stamp k_fallen k_held k_stands k_falling k_away k_round k_rests k_may k_next k_could k_couldNight k_night k_seats) → lv_has ls 2 [(0, .ref h), (1, .int v1_2)] → wb_X12_image_2 k_s Q L_2 v1_2 image_2 → W p l e R s m args below meth c H locs 0 0 QQ (F0 m 2 ls []) := by
    intro L_2 ih_2 v1_2 image_2 H locs ls hO hl hw
    unfold wb_X12_image_2 at hw
    refine lv_iload_n hx hb dX12_image_2 rfl (lv_at hl 1 rfl) ?_
    refine lv_sipush (v := (nI 6700)) hx hb dX12_image_3 (by decide) ?_
    refine lv_icmp_ge (tgt := 27) hx hb dX12_image_6 (by decide) (fun q_6 => ?_) (fun q_6 => ?_)
    · have hw := hw.1 q_6
      refine lv_aload_n hx hb dX12_image_27 rfl (lv_at hl 0 rfl) ?_
      refine lv_iconst (v := (nI 1)) hx hb dX12_image_28 (by decide) ?_
      refine pM_hasImage C hin hK lk_hasImage hO zb1 dX12_image_29 (fun H locs hO => ?_)
      refine lv_aload_n hx hb dX12_image_32 rfl (lv_at hl 0 rfl) ?_
      refine gM_s C hin hK lk_s hO dX12_image_33 ?_
      refine lv_iconst (v := (nI 0)) hx hb dX12_image_36 (by decide) ?_
      refine ldM_s C hK hO (inK 0 6700 (by decide) (by decide)) (clK 0 (by decide)) dX12_image_37 ?_
      exact ri2 hQQ hx hb hr hlk hK hO hw dX12_image_38
    · have hw := hw.2 q_6
      refine lv_aload_n hx hb dX12_image_9 rfl (lv_at hl 0 rfl) ?_
      refine gM_image C hin hK lk_image hO dX12_image_10 ?_
      refine lv_iload_n hx hb dX12_image_13 rfl (lv_at hl 1 rfl) ?_
      refine lv_aload_n hx hb dX12_image_14 rfl (lv_at hl 0 rfl) ?_
      refine gM_s C hin hK lk_s hO dX12_image_15 ?_
      refine lv_iload_n hx hb dX12_image_18 rfl (lv_at hl 1 rfl) ?_
      obtain ⟨o_19, hw⟩ := hw
      refine ldM_s C hK hO o_19 rfl dX12_image_19 ?_
      obtain ⟨o_20, hw⟩ := hw
      refine stM_image C hK hO o_20 rfl dX12_image_20 (fun H locs hO => ?_)
      refine lv_iinc (v := (v1_2 + (nI 1))) (lv' := [(1, .int (v1_2 + (nI 1))), (0, .ref h)]) hx hb dX12_image_21 hl (k := 1) rfl (iinc_1 _) (by decide) rfl (fun ls hl => ?_)
      refine lv_goto (tgt := 2) hx hb dX12_image_24 (by decide) ?_
      exact ih_2 (v1_2 + (nI 1)) (upd image_2 ((v1_2).toNatClampNeg) (k_s (v1_2).toNatClampNeg)) _ _ _ hO (lv_sub hl [1, 0] rfl) hw
  have l_2 : ∀ (n : Nat) (v1_2 : Int32) (image_2 : Nat → Int32) (H : Heap) (locs : List Loc) (ls : Array Slot), okW D A s.heap H locs (wM cI cZ cJ h ad k_thrown k_s image_2 k_hasImage k_steps k_read k_spot k_isWrong k_open k_act k_letBy k_letStamp k_stamp k_fallen k_held k_stands k_falling k_away k_round k_rests k_may k_next k_could k_couldNight k_night k_seats) → lv_has ls 2 [(0, .ref h), (1, .int v1_2)] → wl_X12_image_2 k_s Q n v1_2 image_2 → W p l e R s m args below meth c H locs 0 0 QQ (F0 m 2 ls []) := by
    intro n
    induction n with
    | zero => intro v1_2 image_2 H locs ls hO hl hw; exact False.elim hw
    | succ n ih => exact b_2 _ ih
  exact l_2 n_2 (nI 0) k_image _ _ _ hO (lv_sub hl [1, 0] rfl) hw
def wb_X12_undo_12 (k_image : Nat → Int32) (k_stamp : Int32) (k_night : Int32) (Q : Int32 → (Nat → Int32) → (Int32) → (Int32) → Prop) (L_12 : Int32 → (Nat → Int32) → Prop) (v1_12 : Int32) (s_12 : Nat → Int32) : Prop := (((nI 6700) ≤ v1_12 → (Q (s_12 0) s_12 (k_stamp + (nI 1)) (k_night + (nI 1)))) ∧ (¬ (nI 6700) ≤ v1_12 → (vp_in v1_12 6700 ∧ (vp_in v1_12 6700 ∧ (L_12 (v1_12 + (nI 1)) (upd s_12 ((v1_12).toNatClampNeg) (k_image (v1_12).toNatClampNeg)))))))
def wl_X12_undo_12 (k_image : Nat → Int32) (k_stamp : Int32) (k_night : Int32) (Q : Int32 → (Nat → Int32) → (Int32) → (Int32) → Prop) : Nat → Int32 → (Nat → Int32) → Prop
  | 0, _, _ => False
  | n + 1, v1_12, s_12 => wb_X12_undo_12 k_image k_stamp k_night Q (wl_X12_undo_12 k_image k_stamp k_night Q n) v1_12 s_12
def wp_X12_undo  (k_s : Nat → Int32) (k_image : Nat → Int32) (k_hasImage : Int32) (k_stamp : Int32) (k_night : Int32) (Q : Int32 → (Nat → Int32) → (Int32) → (Int32) → Prop) : Prop := ((¬ k_hasImage = 0 → (∃ n, wl_X12_undo_12 k_image k_stamp k_night Q n (nI 0) k_s)) ∧ (k_hasImage = 0 → (Q (-3) k_s k_stamp k_night)))
set_option maxHeartbeats 4000000 in
set_option maxRecDepth 100000 in
theorem c_X12_undo {l : Launch} {D : va_G} {cI cZ cJ : ClassId} {h : Nat} {ad : Nat → Nat} {sz : Nat} {k_thrown : Int32} {k_s : Nat → Int32} {k_image : Nat → Int32} {k_hasImage : Int32} {k_steps : Nat → Int32} {k_read : Int32} {k_spot : Int32} {k_isWrong : Int32} {k_open : Int32} {k_act : Int32} {k_letBy : Nat → Int32} {k_letStamp : Nat → Int32} {k_stamp : Int32} {k_fallen : Nat → Int32} {k_held : Nat → Int32} {k_stands : Nat → Int32} {k_falling : Nat → Int32} {k_away : Nat → Int32} {k_round : Nat → Int32} {k_rests : Nat → Int64} {k_may : Nat → Int32} {k_next : Nat → Int32} {k_could : Nat → Int32} {k_couldNight : Nat → Int32} {k_night : Int32} {k_seats : Nat → Int32}  {Q : Int32 → (Nat → Int32) → (Int32) → (Int32) → Prop} (hw : wp_X12_undo k_s k_image k_hasImage k_stamp k_night Q) : Met l yX12_undo (Cond.code yX12_undo cX12_undo 2 (some .int) :: wsG) ({ frames := 0, cells := 0, slots := 0, locals := 0 } : Room) (preW D (tyM cI cZ cJ) (wM cI cZ cJ h ad k_thrown k_s k_image k_hasImage k_steps k_read k_spot k_isWrong k_open k_act k_letBy k_letStamp k_stamp k_fallen k_held k_stands k_falling k_away k_round k_rests k_may k_next k_could k_couldNight k_night k_seats) sz [.ref h]) (qi3 D (tyM cI cZ cJ) (va_A (wM cI cZ cJ h ad k_thrown k_s k_image k_hasImage k_steps k_read k_spot k_isWrong k_open k_act k_letBy k_letStamp k_stamp k_fallen k_held k_stands k_falling k_away k_round k_rests k_may k_next k_could k_couldNight k_night k_seats) sz) Q (fun k_s' k_stamp' k_night' => (wM cI cZ cJ h ad k_thrown k_s' k_image k_hasImage k_steps k_read k_spot k_isWrong k_open k_act k_letBy k_letStamp k_stamp' k_fallen k_held k_stands k_falling k_away k_round k_rests k_may k_next k_could k_couldNight k_night' k_seats))) 0 0 (va_A (wM cI cZ cJ h ad k_thrown k_s k_image k_hasImage k_steps k_read k_spot k_isWrong k_open k_act k_letBy k_letStamp k_stamp k_fallen k_held k_stands k_falling k_away k_round k_rests k_may k_next k_could k_couldNight k_night k_seats) sz) := by
  refine st_met (cc := cX12_undo) (maxL := 2) (ret := (some .int)) (lv := [(0, .ref h)]) (Qc := fun A => qi3 D (tyM cI cZ cJ) A Q (fun k_s' k_stamp' k_night' => (wM cI cZ cJ h ad k_thrown k_s' k_image k_hasImage k_steps k_read k_spot k_isWrong k_open k_act k_letBy k_letStamp k_stamp' k_fallen k_held k_stands k_falling k_away k_round k_rests k_may k_next k_could k_couldNight k_night' k_seats))) (by decide) rfl (Nat.le_of_ble_eq_true rfl) rfl ?_
  intro p e s m below meth c ls A R args QQ H locs C hr hlk hnm hK hX hsz hl hO hR hQQ
  have hx := C.1
  have hb := C.2.1
  have hown := C.2.2.2.1
  have hts := C.2.2.2.2
  have hin : ∀ w ∈ u_ws RX12 TX12 26, w ∈ (Cond.code yX12_undo cX12_undo 2 (some .int) :: wsG) := fun w h9 => List.mem_cons_of_mem _ (inG12 w h9)
  have lk_hasImage := hts (Cond.fieldLink RX12 265 "FreeCityModel" "hasImage" "Z") (List.mem_cons_of_mem _ qw5_209)
  have lk_s := hts (Cond.fieldLink RX12 7 "FreeCityModel" "s" "[I") (List.mem_cons_of_mem _ qw5_207)
  have lk_image := hts (Cond.fieldLink RX12 13 "FreeCityModel" "image" "[I") (List.mem_cons_of_mem _ qw5_208)
  have lk_stamp := hts (Cond.fieldLink RX12 27 "FreeCityModel" "stamp" "I") (List.mem_cons_of_mem _ qw5_218)
  have lk_night := hts (Cond.fieldLink RX12 65 "FreeCityModel" "night" "I") (List.mem_cons_of_mem _ qw5_230)
  unfold wp_X12_undo at hw
  refine lv_aload_n hx hb dX12_undo_0 rfl (lv_at hl 0 rfl) ?_
  refine gM_hasImage C hin hK lk_hasImage hO dX12_undo_1 ?_
  refine lv_if_ne (tgt := 10) hx hb dX12_undo_4 (by decide) (fun q_4 => ?_) (fun q_4 => ?_)
  · have hw := hw.1 q_4
    refine lv_iconst (v := (nI 0)) hx hb dX12_undo_10 (by decide) ?_
    refine lv_istore_n (lv' := [(1, .int (nI 0)), (0, .ref h)]) hx hb dX12_undo_11 rfl hl (by decide) rfl (fun ls hl => ?_)
    obtain ⟨n_12, hw⟩ := hw
    have b_12 : ∀ (L_12 : Int32 → (Nat → Int32) → Prop) (ih_12 : ∀ (v1_12 : Int32) (s_12 : Nat → Int32) (H : Heap) (locs : List Loc) (ls : Array Slot), okW D A s.heap H locs (wM cI cZ cJ h ad k_thrown s_12 k_image k_hasImage k_steps k_read k_spot k_isWrong k_open k_act k_letBy k_letStamp k_stamp k_fallen k_held k_stands k_falling k_away k_round k_rests k_may k_next k_could k_couldNight k_night k_seats) → lv_has ls 2 [(0, .ref h), (1, .int v1_12)] → L_12 v1_12 s_12 → W p l e R s m args below meth c H locs 0 0 QQ (F0 m 12 ls [])) (v1_12 : Int32) (s_12 : Nat → Int32) (H : Heap) (locs : List Loc) (ls : Array Slot), okW D A s.heap H locs (wM cI cZ cJ h ad k_thrown s_12 k_image k_hasImage k_steps k_read k_spot k_isWrong k_open k_act k_letBy k_letStamp k_stamp k_fallen k_held k_stands k_falling k_away k_round k_rests k_may k_next k_could k_couldNight k_night k_seats) → lv_has ls 2 [(0, .ref h), (1, .int v1_12)] → wb_X12_undo_12 k_image k_stamp k_night Q L_12 v1_12 s_12 → W p l e R s m args below meth c H locs 0 0 QQ (F0 m 12 ls []) := by
      intro L_12 ih_12 v1_12 s_12 H locs ls hO hl hw
      unfold wb_X12_undo_12 at hw
      refine lv_iload_n hx hb dX12_undo_12 rfl (lv_at hl 1 rfl) ?_
      refine lv_sipush (v := (nI 6700)) hx hb dX12_undo_13 (by decide) ?_
      refine lv_icmp_ge (tgt := 37) hx hb dX12_undo_16 (by decide) (fun q_16 => ?_) (fun q_16 => ?_)
      · have hw := hw.1 q_16
        refine lv_aload_n hx hb dX12_undo_37 rfl (lv_at hl 0 rfl) ?_
        refine lv_dup hx hb dX12_undo_38 rfl ?_
        refine gM_stamp C hin hK lk_stamp hO dX12_undo_39 ?_
        refine lv_iconst (v := (nI 1)) hx hb dX12_undo_42 (by decide) ?_
        refine lv_iadd hx hb dX12_undo_43 ?_
        refine pM_stamp C hin hK lk_stamp hO dX12_undo_44 (fun H locs hO => ?_)
        refine lv_aload_n hx hb dX12_undo_47 rfl (lv_at hl 0 rfl) ?_
        refine lv_dup hx hb dX12_undo_48 rfl ?_
        refine gM_night C hin hK lk_night hO dX12_undo_49 ?_
        refine lv_iconst (v := (nI 1)) hx hb dX12_undo_52 (by decide) ?_
        refine lv_iadd hx hb dX12_undo_53 ?_
        refine pM_night C hin hK lk_night hO dX12_undo_54 (fun H locs hO => ?_)
        refine lv_aload_n hx hb dX12_undo_57 rfl (lv_at hl 0 rfl) ?_
        refine gM_s C hin hK lk_s hO dX12_undo_58 ?_
        refine lv_iconst (v := (nI 0)) hx hb dX12_undo_61 (by decide) ?_
        refine ldM_s C hK hO (inK 0 6700 (by decide) (by decide)) (clK 0 (by decide)) dX12_undo_62 ?_
        exact ri3 hQQ hx hb hr hlk hK hO hw dX12_undo_63
      · have hw := hw.2 q_16
        refine lv_aload_n hx hb dX12_undo_19 rfl (lv_at hl 0 rfl) ?_
        refine gM_s C hin hK lk_s hO dX12_undo_20 ?_
        refine lv_iload_n hx hb dX12_undo_23 rfl (lv_at hl 1 rfl) ?_
        refine lv_aload_n hx hb dX12_undo_24 rfl (lv_at hl 0 rfl) ?_
        refine gM_image C hin hK lk_image hO dX12_undo_25 ?_
        refine lv_iload_n hx hb dX12_undo_28 rfl (lv_at hl 1 rfl) ?_
        obtain ⟨o_29, hw⟩ := hw
        refine ldM_image C hK hO o_29 rfl dX12_undo_29 ?_
        obtain ⟨o_30, hw⟩ := hw
        refine stM_s C hK hO o_30 rfl dX12_undo_30 (fun H locs hO => ?_)
        refine lv_iinc (v := (v1_12 + (nI 1))) (lv' := [(1, .int (v1_12 + (nI 1))), (0, .ref h)]) hx hb dX12_undo_31 hl (k := 1) rfl (iinc_1 _) (by decide) rfl (fun ls hl => ?_)
        refine lv_goto (tgt := 12) hx hb dX12_undo_34 (by decide) ?_
        exact ih_12 (v1_12 + (nI 1)) (upd s_12 ((v1_12).toNatClampNeg) (k_image (v1_12).toNatClampNeg)) _ _ _ hO (lv_sub hl [1, 0] rfl) hw
    have l_12 : ∀ (n : Nat) (v1_12 : Int32) (s_12 : Nat → Int32) (H : Heap) (locs : List Loc) (ls : Array Slot), okW D A s.heap H locs (wM cI cZ cJ h ad k_thrown s_12 k_image k_hasImage k_steps k_read k_spot k_isWrong k_open k_act k_letBy k_letStamp k_stamp k_fallen k_held k_stands k_falling k_away k_round k_rests k_may k_next k_could k_couldNight k_night k_seats) → lv_has ls 2 [(0, .ref h), (1, .int v1_12)] → wl_X12_undo_12 k_image k_stamp k_night Q n v1_12 s_12 → W p l e R s m args below meth c H locs 0 0 QQ (F0 m 12 ls []) := by
      intro n
      induction n with
      | zero => intro v1_12 s_12 H locs ls hO hl hw; exact False.elim hw
      | succ n ih => exact b_12 _ ih
    exact l_12 n_12 (nI 0) k_s _ _ _ hO (lv_sub hl [1, 0] rfl) hw
  · have hw := hw.2 q_4
    refine lv_bipush (v := (-3)) hx hb dX12_undo_7 (by decide) ?_
    exact ri3 hQQ hx hb hr hlk hK hO hw dX12_undo_9
def wp_X12_count (p1 : Int32) (k_s : Nat → Int32) (Q : Int32 → Prop) : Prop := ((p1 = (nI 0) → (Q (k_s 1))) ∧ (p1 = (nI 1) → (Q (k_s 2))) ∧ (p1 = (nI 2) → (Q (k_s 0))) ∧ (p1 = (nI 3) → (Q (k_s 3))) ∧ (p1 = (nI 4) → (Q (k_s 4))) ∧ (p1 = (nI 5) → (Q (k_s 5))) ∧ (p1 = (nI 6) → (Q (k_s 6))) ∧ (p1 = (nI 7) → (Q (k_s 7))) ∧ (p1 = (nI 8) → (Q (k_s 8))) ∧ (p1 = (nI 9) → (Q (k_s 9))) ∧ (p1 = (nI 10) → (Q (k_s 10))) ∧ (¬ p1 = (nI 0) → ¬ p1 = (nI 1) → ¬ p1 = (nI 2) → ¬ p1 = (nI 3) → ¬ p1 = (nI 4) → ¬ p1 = (nI 5) → ¬ p1 = (nI 6) → ¬ p1 = (nI 7) → ¬ p1 = (nI 8) → ¬ p1 = (nI 9) → ¬ p1 = (nI 10) → (Q (-1))))
set_option maxHeartbeats 4000000 in
set_option maxRecDepth 100000 in
theorem c_X12_count {l : Launch} {D : va_G} {cI cZ cJ : ClassId} {h : Nat} {ad : Nat → Nat} {sz : Nat} {k_thrown : Int32} {k_s : Nat → Int32} {k_image : Nat → Int32} {k_hasImage : Int32} {k_steps : Nat → Int32} {k_read : Int32} {k_spot : Int32} {k_isWrong : Int32} {k_open : Int32} {k_act : Int32} {k_letBy : Nat → Int32} {k_letStamp : Nat → Int32} {k_stamp : Int32} {k_fallen : Nat → Int32} {k_held : Nat → Int32} {k_stands : Nat → Int32} {k_falling : Nat → Int32} {k_away : Nat → Int32} {k_round : Nat → Int32} {k_rests : Nat → Int64} {k_may : Nat → Int32} {k_next : Nat → Int32} {k_could : Nat → Int32} {k_couldNight : Nat → Int32} {k_night : Int32} {k_seats : Nat → Int32} {p1 : Int32} {Q : Int32 → Prop} (hw : wp_X12_count p1 k_s Q) : Met l yX12_count (Cond.code yX12_count cX12_count 2 (some .int) :: wsG) ({ frames := 0, cells := 0, slots := 0, locals := 0 } : Room) (preW D (tyM cI cZ cJ) (wM cI cZ cJ h ad k_thrown k_s k_image k_hasImage k_steps k_read k_spot k_isWrong k_open k_act k_letBy k_letStamp k_stamp k_fallen k_held k_stands k_falling k_away k_round k_rests k_may k_next k_could k_couldNight k_night k_seats) sz [.ref h, .int p1]) (qi0 D (tyM cI cZ cJ) (va_A (wM cI cZ cJ h ad k_thrown k_s k_image k_hasImage k_steps k_read k_spot k_isWrong k_open k_act k_letBy k_letStamp k_stamp k_fallen k_held k_stands k_falling k_away k_round k_rests k_may k_next k_could k_couldNight k_night k_seats) sz) Q (wM cI cZ cJ h ad k_thrown k_s k_image k_hasImage k_steps k_read k_spot k_isWrong k_open k_act k_letBy k_letStamp k_stamp k_fallen k_held k_stands k_falling k_away k_round k_rests k_may k_next k_could k_couldNight k_night k_seats)) 0 0 (va_A (wM cI cZ cJ h ad k_thrown k_s k_image k_hasImage k_steps k_read k_spot k_isWrong k_open k_act k_letBy k_letStamp k_stamp k_fallen k_held k_stands k_falling k_away k_round k_rests k_may k_next k_could k_couldNight k_night k_seats) sz) := by
  refine st_met (cc := cX12_count) (maxL := 2) (ret := (some .int)) (lv := [(0, .ref h), (1, .int p1)]) (Qc := fun A => qi0 D (tyM cI cZ cJ) A Q (wM cI cZ cJ h ad k_thrown k_s k_image k_hasImage k_steps k_read k_spot k_isWrong k_open k_act k_letBy k_letStamp k_stamp k_fallen k_held k_stands k_falling k_away k_round k_rests k_may k_next k_could k_couldNight k_night k_seats)) (by decide) rfl (Nat.le_of_ble_eq_true rfl) rfl ?_
  intro p e s m below meth c ls A R args QQ H locs C hr hlk hnm hK hX hsz hl hO hR hQQ
  have hx := C.1
  have hb := C.2.1
  have hown := C.2.2.2.1
  have hts := C.2.2.2.2
  have hin : ∀ w ∈ u_ws RX12 TX12 26, w ∈ (Cond.code yX12_count cX12_count 2 (some .int) :: wsG) := fun w h9 => List.mem_cons_of_mem _ (inG12 w h9)
  have lk_s := hts (Cond.fieldLink RX12 7 "FreeCityModel" "s" "[I") (List.mem_cons_of_mem _ qw5_207)
  unfold wp_X12_count at hw
  refine lv_iload_n hx hb dX12_count_0 rfl (lv_at hl 1 rfl) ?_
  by_cases s_1_0 : p1 = (nI 0)
  · have hw := hw.1 s_1_0
    refine lv_tableIn (off := 59) (tgt := 60) hx hb dX12_count_1 (by rw [s_1_0]; decide) (by rw [s_1_0]; decide) (by rw [s_1_0]; decide) (by decide) ?_
    refine lv_aload_n hx hb dX12_count_60 rfl (lv_at hl 0 rfl) ?_
    refine gM_s C hin hK lk_s hO dX12_count_61 ?_
    refine lv_iconst (v := (nI 1)) hx hb dX12_count_64 (by decide) ?_
    refine ldM_s C hK hO (inK 1 6700 (by decide) (by decide)) (clK 1 (by decide)) dX12_count_65 ?_
    exact ri0 hQQ hx hb hr hlk hK hO hw dX12_count_66
  by_cases s_1_1 : p1 = (nI 1)
  · have hw := hw.2.1 s_1_1
    refine lv_tableIn (off := 66) (tgt := 67) hx hb dX12_count_1 (by rw [s_1_1]; decide) (by rw [s_1_1]; decide) (by rw [s_1_1]; decide) (by decide) ?_
    refine lv_aload_n hx hb dX12_count_67 rfl (lv_at hl 0 rfl) ?_
    refine gM_s C hin hK lk_s hO dX12_count_68 ?_
    refine lv_iconst (v := (nI 2)) hx hb dX12_count_71 (by decide) ?_
    refine ldM_s C hK hO (inK 2 6700 (by decide) (by decide)) (clK 2 (by decide)) dX12_count_72 ?_
    exact ri0 hQQ hx hb hr hlk hK hO hw dX12_count_73
  by_cases s_1_2 : p1 = (nI 2)
  · have hw := hw.2.2.1 s_1_2
    refine lv_tableIn (off := 73) (tgt := 74) hx hb dX12_count_1 (by rw [s_1_2]; decide) (by rw [s_1_2]; decide) (by rw [s_1_2]; decide) (by decide) ?_
    refine lv_aload_n hx hb dX12_count_74 rfl (lv_at hl 0 rfl) ?_
    refine gM_s C hin hK lk_s hO dX12_count_75 ?_
    refine lv_iconst (v := (nI 0)) hx hb dX12_count_78 (by decide) ?_
    refine ldM_s C hK hO (inK 0 6700 (by decide) (by decide)) (clK 0 (by decide)) dX12_count_79 ?_
    exact ri0 hQQ hx hb hr hlk hK hO hw dX12_count_80
  by_cases s_1_3 : p1 = (nI 3)
  · have hw := hw.2.2.2.1 s_1_3
    refine lv_tableIn (off := 80) (tgt := 81) hx hb dX12_count_1 (by rw [s_1_3]; decide) (by rw [s_1_3]; decide) (by rw [s_1_3]; decide) (by decide) ?_
    refine lv_aload_n hx hb dX12_count_81 rfl (lv_at hl 0 rfl) ?_
    refine gM_s C hin hK lk_s hO dX12_count_82 ?_
    refine lv_iconst (v := (nI 3)) hx hb dX12_count_85 (by decide) ?_
    refine ldM_s C hK hO (inK 3 6700 (by decide) (by decide)) (clK 3 (by decide)) dX12_count_86 ?_
    exact ri0 hQQ hx hb hr hlk hK hO hw dX12_count_87
  by_cases s_1_4 : p1 = (nI 4)
  · have hw := hw.2.2.2.2.1 s_1_4
    refine lv_tableIn (off := 87) (tgt := 88) hx hb dX12_count_1 (by rw [s_1_4]; decide) (by rw [s_1_4]; decide) (by rw [s_1_4]; decide) (by decide) ?_
    refine lv_aload_n hx hb dX12_count_88 rfl (lv_at hl 0 rfl) ?_
    refine gM_s C hin hK lk_s hO dX12_count_89 ?_
    refine lv_iconst (v := (nI 4)) hx hb dX12_count_92 (by decide) ?_
    refine ldM_s C hK hO (inK 4 6700 (by decide) (by decide)) (clK 4 (by decide)) dX12_count_93 ?_
    exact ri0 hQQ hx hb hr hlk hK hO hw dX12_count_94
  by_cases s_1_5 : p1 = (nI 5)
  · have hw := hw.2.2.2.2.2.1 s_1_5
    refine lv_tableIn (off := 94) (tgt := 95) hx hb dX12_count_1 (by rw [s_1_5]; decide) (by rw [s_1_5]; decide) (by rw [s_1_5]; decide) (by decide) ?_
    refine lv_aload_n hx hb dX12_count_95 rfl (lv_at hl 0 rfl) ?_
    refine gM_s C hin hK lk_s hO dX12_count_96 ?_
    refine lv_iconst (v := (nI 5)) hx hb dX12_count_99 (by decide) ?_
    refine ldM_s C hK hO (inK 5 6700 (by decide) (by decide)) (clK 5 (by decide)) dX12_count_100 ?_
    exact ri0 hQQ hx hb hr hlk hK hO hw dX12_count_101
  by_cases s_1_6 : p1 = (nI 6)
  · have hw := hw.2.2.2.2.2.2.1 s_1_6
    refine lv_tableIn (off := 101) (tgt := 102) hx hb dX12_count_1 (by rw [s_1_6]; decide) (by rw [s_1_6]; decide) (by rw [s_1_6]; decide) (by decide) ?_
    refine lv_aload_n hx hb dX12_count_102 rfl (lv_at hl 0 rfl) ?_
    refine gM_s C hin hK lk_s hO dX12_count_103 ?_
    refine lv_bipush (v := (nI 6)) hx hb dX12_count_106 (by decide) ?_
    refine ldM_s C hK hO (inK 6 6700 (by decide) (by decide)) (clK 6 (by decide)) dX12_count_108 ?_
    exact ri0 hQQ hx hb hr hlk hK hO hw dX12_count_109
  by_cases s_1_7 : p1 = (nI 7)
  · have hw := hw.2.2.2.2.2.2.2.1 s_1_7
    refine lv_tableIn (off := 109) (tgt := 110) hx hb dX12_count_1 (by rw [s_1_7]; decide) (by rw [s_1_7]; decide) (by rw [s_1_7]; decide) (by decide) ?_
    refine lv_aload_n hx hb dX12_count_110 rfl (lv_at hl 0 rfl) ?_
    refine gM_s C hin hK lk_s hO dX12_count_111 ?_
    refine lv_bipush (v := (nI 7)) hx hb dX12_count_114 (by decide) ?_
    refine ldM_s C hK hO (inK 7 6700 (by decide) (by decide)) (clK 7 (by decide)) dX12_count_116 ?_
    exact ri0 hQQ hx hb hr hlk hK hO hw dX12_count_117
  by_cases s_1_8 : p1 = (nI 8)
  · have hw := hw.2.2.2.2.2.2.2.2.1 s_1_8
    refine lv_tableIn (off := 117) (tgt := 118) hx hb dX12_count_1 (by rw [s_1_8]; decide) (by rw [s_1_8]; decide) (by rw [s_1_8]; decide) (by decide) ?_
    refine lv_aload_n hx hb dX12_count_118 rfl (lv_at hl 0 rfl) ?_
    refine gM_s C hin hK lk_s hO dX12_count_119 ?_
    refine lv_bipush (v := (nI 8)) hx hb dX12_count_122 (by decide) ?_
    refine ldM_s C hK hO (inK 8 6700 (by decide) (by decide)) (clK 8 (by decide)) dX12_count_124 ?_
    exact ri0 hQQ hx hb hr hlk hK hO hw dX12_count_125
  by_cases s_1_9 : p1 = (nI 9)
  · have hw := hw.2.2.2.2.2.2.2.2.2.1 s_1_9
    refine lv_tableIn (off := 125) (tgt := 126) hx hb dX12_count_1 (by rw [s_1_9]; decide) (by rw [s_1_9]; decide) (by rw [s_1_9]; decide) (by decide) ?_
    refine lv_aload_n hx hb dX12_count_126 rfl (lv_at hl 0 rfl) ?_
    refine gM_s C hin hK lk_s hO dX12_count_127 ?_
    refine lv_bipush (v := (nI 9)) hx hb dX12_count_130 (by decide) ?_
    refine ldM_s C hK hO (inK 9 6700 (by decide) (by decide)) (clK 9 (by decide)) dX12_count_132 ?_
    exact ri0 hQQ hx hb hr hlk hK hO hw dX12_count_133
  by_cases s_1_10 : p1 = (nI 10)
  · have hw := hw.2.2.2.2.2.2.2.2.2.2.1 s_1_10
    refine lv_tableIn (off := 133) (tgt := 134) hx hb dX12_count_1 (by rw [s_1_10]; decide) (by rw [s_1_10]; decide) (by rw [s_1_10]; decide) (by decide) ?_
    refine lv_aload_n hx hb dX12_count_134 rfl (lv_at hl 0 rfl) ?_
    refine gM_s C hin hK lk_s hO dX12_count_135 ?_
    refine lv_bipush (v := (nI 10)) hx hb dX12_count_138 (by decide) ?_
    refine ldM_s C hK hO (inK 10 6700 (by decide) (by decide)) (clK 10 (by decide)) dX12_count_140 ?_
    exact ri0 hQQ hx hb hr hlk hK hO hw dX12_count_141
  have hw := hw.2.2.2.2.2.2.2.2.2.2.2 s_1_0 s_1_1 s_1_2 s_1_3 s_1_4 s_1_5 s_1_6 s_1_7 s_1_8 s_1_9 s_1_10
  have hts9 : (p1).toInt < 0 ∨ 10 < (p1).toInt := by
    refine tsw 0 10 (fun k h1 h2 => ?_)
    have h3 : k = 0 ∨ k = 1 ∨ k = 2 ∨ k = 3 ∨ k = 4 ∨ k = 5 ∨ k = 6 ∨ k = 7 ∨ k = 8 ∨ k = 9 ∨ k = 10 := by omega
    rcases h3 with rfl | rfl | rfl | rfl | rfl | rfl | rfl | rfl | rfl | rfl | rfl
    · exact s_1_0
    · exact s_1_1
    · exact s_1_2
    · exact s_1_3
    · exact s_1_4
    · exact s_1_5
    · exact s_1_6
    · exact s_1_7
    · exact s_1_8
    · exact s_1_9
    · exact s_1_10
  refine lv_tableOut (tgt := 142) hx hb dX12_count_1 hts9 (by decide) ?_
  refine lv_iconst (v := (-1)) hx hb dX12_count_142 (by decide) ?_
  exact ri0 hQQ hx hb hr hlk hK hO hw dX12_count_143
