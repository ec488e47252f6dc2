def wb_X12_sure_27 (p1 : Int32) (k_s : Nat → Int32) (k_night : Int32) (Q : Int32 → (Nat → Int32) → (Nat → Int32) → (Nat → Int32) → (Nat → Int32) → Prop) (L_27 : Int32 → Int32 → Int32 → (Nat → Int32) → (Nat → Int32) → (Nat → Int32) → (Nat → Int32) → Prop) (v2_27 : Int32) (v3_27 : Int32) (v4_27 : Int32) (may_27 : Nat → Int32) (next_27 : Nat → Int32) (could_27 : Nat → Int32) (couldNight_27 : Nat → Int32) : Prop := (((nI 8) ≤ v4_27 → (∀ y0_98 : Int32, y0_98 = (if v3_27 = (nI 1) then v2_27 else (-5)) → (Q y0_98 may_27 next_27 could_27 couldNight_27))) ∧ (¬ (nI 8) ≤ v4_27 → (wp_X12_walks v4_27 k_s may_27 next_27 could_27 couldNight_27 k_night (fun (may_37 : Nat → Int32) (next_37 : Nat → Int32) (could_37 : Nat → Int32) (couldNight_37 : Nat → Int32) => (vp_in (((nI 64) * v4_27) + ((nI 1) <<< (p1 &&& 31))) 512 ∧ (∀ x_53 : Int32, x_53 = (could_37 ((((nI 64) * v4_27) + ((nI 1) <<< (p1 &&& 31)))).toNatClampNeg) → (∀ y0_67 : Int32, y0_67 = (if x_53 = 0 then v2_27 else v4_27) → (∀ y1_79 : Int32, y1_79 = (if x_53 = 0 then (nI 0) else (nI 1)) → (L_27 y0_67 (v3_27 + y1_79) (v4_27 + (nI 1)) may_37 next_37 could_37 couldNight_37)))))))))
def wl_X12_sure_27 (p1 : Int32) (k_s : Nat → Int32) (k_night : Int32) (Q : Int32 → (Nat → Int32) → (Nat → Int32) → (Nat → Int32) → (Nat → Int32) → Prop) : Nat → Int32 → Int32 → Int32 → (Nat → Int32) → (Nat → Int32) → (Nat → Int32) → (Nat → Int32) → Prop
  | 0, _, _, _, _, _, _, _ => False
  | n + 1, v2_27, v3_27, v4_27, may_27, next_27, could_27, couldNight_27 => wb_X12_sure_27 p1 k_s k_night Q (wl_X12_sure_27 p1 k_s k_night Q n) v2_27 v3_27 v4_27 may_27 next_27 could_27 couldNight_27
def wp_X12_sure (p1 : Int32) (k_s : Nat → Int32) (k_may : Nat → Int32) (k_next : Nat → Int32) (k_could : Nat → Int32) (k_couldNight : Nat → Int32) (k_night : Int32) (Q : Int32 → (Nat → Int32) → (Nat → Int32) → (Nat → Int32) → (Nat → Int32) → Prop) : Prop := ((¬ (f_X12_in p1 (nI 0) ((k_s 6) - (nI 1))) = 0 → (∃ n, wl_X12_sure_27 p1 k_s k_night Q n (-5) (nI 0) (nI 0) k_may k_next k_could k_couldNight)) ∧ ((f_X12_in p1 (nI 0) ((k_s 6) - (nI 1))) = 0 → (Q (-1) k_may k_next k_could k_couldNight)))
set_option maxHeartbeats 4000000 in
set_option maxRecDepth 100000 in
theorem c_X12_sure {l : Launch} {D : va_G} {cI cZ cJ : ClassId} {h : Nat} {ad : Nat → Nat} {sz : Nat} {k_thrown : Int32} {k_s : Nat → Int32} {k_image : Nat → Int32} {k_hasImage : Int32} {k_steps : Nat → Int32} {k_read : Int32} {k_spot : Int32} {k_isWrong : Int32} {k_open : Int32} {k_act : Int32} {k_letBy : Nat → Int32} {k_letStamp : Nat → Int32} {k_stamp : Int32} {k_fallen : Nat → Int32} {k_held : Nat → Int32} {k_stands : Nat → Int32} {k_falling : Nat → Int32} {k_away : Nat → Int32} {k_round : Nat → Int32} {k_rests : Nat → Int64} {k_may : Nat → Int32} {k_next : Nat → Int32} {k_could : Nat → Int32} {k_couldNight : Nat → Int32} {k_night : Int32} {k_seats : Nat → Int32} {p1 : Int32} {Q : Int32 → (Nat → Int32) → (Nat → Int32) → (Nat → Int32) → (Nat → Int32) → Prop} (hw : wp_X12_sure p1 k_s k_may k_next k_could k_couldNight k_night Q) : Met l yX12_sure (Cond.code yX12_sure cX12_sure 6 (some .int) :: wsG) ({ frames := 3, cells := 0, slots := 0, locals := 70 } : Room) (preW D (tyM cI cZ cJ) (wM cI cZ cJ h ad k_thrown k_s k_image k_hasImage k_steps k_read k_spot k_isWrong k_open k_act k_letBy k_letStamp k_stamp k_fallen k_held k_stands k_falling k_away k_round k_rests k_may k_next k_could k_couldNight k_night k_seats) sz [.ref h, .int p1]) (qi4 D (tyM cI cZ cJ) (va_A (wM cI cZ cJ h ad k_thrown k_s k_image k_hasImage k_steps k_read k_spot k_isWrong k_open k_act k_letBy k_letStamp k_stamp k_fallen k_held k_stands k_falling k_away k_round k_rests k_may k_next k_could k_couldNight k_night k_seats) sz) Q (fun k_may' k_next' k_could' k_couldNight' => (wM cI cZ cJ h ad k_thrown k_s k_image k_hasImage k_steps k_read k_spot k_isWrong k_open k_act k_letBy k_letStamp k_stamp k_fallen k_held k_stands k_falling k_away k_round k_rests k_may' k_next' k_could' k_couldNight' k_night k_seats))) 0 0 (va_A (wM cI cZ cJ h ad k_thrown k_s k_image k_hasImage k_steps k_read k_spot k_isWrong k_open k_act k_letBy k_letStamp k_stamp k_fallen k_held k_stands k_falling k_away k_round k_rests k_may k_next k_could k_couldNight k_night k_seats) sz) := by
  refine st_met (cc := cX12_sure) (maxL := 6) (ret := (some .int)) (lv := [(0, .ref h), (1, .int p1)]) (Qc := fun A => qi4 D (tyM cI cZ cJ) A Q (fun k_may' k_next' k_could' k_couldNight' => (wM cI cZ cJ h ad k_thrown k_s k_image k_hasImage k_steps k_read k_spot k_isWrong k_open k_act k_letBy k_letStamp k_stamp k_fallen k_held k_stands k_falling k_away k_round k_rests k_may' k_next' k_could' k_couldNight' k_night k_seats))) (by decide) rfl (Nat.le_of_ble_eq_true rfl) rfl ?_
  intro p e s m below meth c ls A R args QQ H locs C hr hlk hnm hK hX hsz hl hO hR hQQ
  have hx := C.1
  have hb := C.2.1
  have hown := C.2.2.2.1
  have hts := C.2.2.2.2
  have hin : ∀ w ∈ u_ws RX12 TX12 26, w ∈ (Cond.code yX12_sure cX12_sure 6 (some .int) :: wsG) := fun w h9 => List.mem_cons_of_mem _ (inG12 w h9)
  have lk_s := hts (Cond.fieldLink RX12 7 "FreeCityModel" "s" "[I") (List.mem_cons_of_mem _ qw5_207)
  have lk_could := hts (Cond.fieldLink RX12 59 "FreeCityModel" "could" "[Z") (List.mem_cons_of_mem _ qw5_228)
  unfold wp_X12_sure at hw
  refine lv_iload_n hx hb dX12_sure_0 rfl (lv_at hl 1 rfl) ?_
  refine lv_iconst (v := (nI 0)) hx hb dX12_sure_1 (by decide) ?_
  refine lv_aload_n hx hb dX12_sure_2 rfl (lv_at hl 0 rfl) ?_
  refine gM_s C hin hK lk_s hO dX12_sure_3 ?_
  refine lv_bipush (v := (nI 6)) hx hb dX12_sure_6 (by decide) ?_
  refine ldM_s C hK hO (inK 6 6700 (by decide) (by decide)) (clK 6 (by decide)) dX12_sure_8 ?_
  refine lv_iconst (v := (nI 1)) hx hb dX12_sure_9 (by decide) ?_
  refine lv_isub hx hb dX12_sure_10 ?_
  refine cSi0 (As := [.int p1, .int (nI 0), .int ((k_s 6) - (nI 1))]) (rest := []) C hK hX hO (c_X12_in (l := l)) (va_cwS 3 hts gd_X12_74 rfl rfl rfl hd_X12_in (rok hR (Nat.le_of_ble_eq_true rfl) (Nat.le_of_ble_eq_true rfl))) rfl hl.1 rfl (Nat.le_of_ble_eq_true rfl) dX12_sure_11 ⟨Nat.zero_le _, Nat.zero_le _⟩ (fun r_11 H locs e_11 hO => ?_)
  subst e_11
  refine lv_if_ne (tgt := 19) hx hb dX12_sure_14 (by decide) (fun q_14 => ?_) (fun q_14 => ?_)
  · have hw := hw.1 q_14
    refine lv_bipush (v := (-5)) hx hb dX12_sure_19 (by decide) ?_
    refine lv_istore_n (lv' := [(2, .int (-5)), (0, .ref h), (1, .int p1)]) hx hb dX12_sure_21 rfl hl (by decide) rfl (fun ls hl => ?_)
    refine lv_iconst (v := (nI 0)) hx hb dX12_sure_22 (by decide) ?_
    refine lv_istore_n (lv' := [(3, .int (nI 0)), (2, .int (-5)), (0, .ref h), (1, .int p1)]) hx hb dX12_sure_23 rfl hl (by decide) rfl (fun ls hl => ?_)
    refine lv_iconst (v := (nI 0)) hx hb dX12_sure_24 (by decide) ?_
    refine lv_istore (lv' := [(4, .int (nI 0)), (3, .int (nI 0)), (2, .int (-5)), (0, .ref h), (1, .int p1)]) hx hb dX12_sure_25 hl (by decide) rfl (fun ls hl => ?_)
    obtain ⟨n_27, hw⟩ := hw
    have b_27 : ∀ (L_27 : Int32 → Int32 → Int32 → (Nat → Int32) → (Nat → Int32) → (Nat → Int32) → (Nat → Int32) → Prop) (ih_27 : ∀ (v2_27 : Int32) (v3_27 : Int32) (v4_27 : Int32) (may_27 : Nat → Int32) (next_27 : Nat → Int32) (could_27 : Nat → Int32) (couldNight_27 : Nat → Int32) (H : Heap) (locs : List Loc) (ls : Array Slot), okW D A s.heap H locs (wM cI cZ cJ h ad k_thrown k_s k_image k_hasImage k_steps k_read k_spot k_isWrong k_open k_act k_letBy k_letStamp k_stamp k_fallen k_held k_stands k_falling k_away k_round k_rests may_27 next_27 could_27 couldNight_27 k_night k_seats) → lv_has ls 6 [(0, .ref h), (1, .int p1), (2, .int v2_27), (3, .int v3_27), (4, .int v4_27)] → L_27 v2_27 v3_27 v4_27 may_27 next_27 could_27 couldNight_27 → W p l e R s m args below meth c H locs 0 0 QQ (F0 m 27 ls [])) (v2_27 : Int32) (v3_27 : Int32) (v4_27 : Int32) (may_27 : Nat → Int32) (next_27 : Nat → Int32) (could_27 : Nat → Int32) (couldNight_27 : Nat → Int32) (H : Heap) (locs : List Loc) (ls : Array Slot), okW D A s.heap H locs (wM cI cZ cJ h ad k_thrown k_s k_image k_hasImage k_steps k_read k_spot k_isWrong k_open k_act k_letBy k_letStamp k_stamp k_fallen k_held k_stands k_falling k_away k_round k_rests may_27 next_27 could_27 couldNight_27 k_night k_seats) → lv_has ls 6 [(0, .ref h), (1, .int p1), (2, .int v2_27), (3, .int v3_27), (4, .int v4_27)] → wb_X12_sure_27 p1 k_s k_night Q L_27 v2_27 v3_27 v4_27 may_27 next_27 could_27 couldNight_27 → W p l e R s m args below meth c H locs 0 0 QQ (F0 m 27 ls []) := by
      intro L_27 ih_27 v2_27 v3_27 v4_27 may_27 next_27 could_27 couldNight_27 H locs ls hO hl hw
      unfold wb_X12_sure_27 at hw
      refine lv_iload hx hb dX12_sure_27 (lv_at hl 4 rfl) ?_
      refine lv_bipush (v := (nI 8)) hx hb dX12_sure_29 (by decide) ?_
      refine lv_icmp_ge (tgt := 87) hx hb dX12_sure_31 (by decide) (fun q_31 => ?_) (fun q_31 => ?_)
      · have hw := hw.1 q_31
        refine lv_iload_n hx hb dX12_sure_87 rfl (lv_at hl 3 rfl) ?_
        refine lv_iconst (v := (nI 1)) hx hb dX12_sure_88 (by decide) ?_
        have m_98 : ∀ (y0_98 : Int32) (H : Heap) (locs : List Loc) (ls : Array Slot), y0_98 = (if v3_27 = (nI 1) then v2_27 else (-5)) → okW D A s.heap H locs (wM cI cZ cJ h ad k_thrown k_s k_image k_hasImage k_steps k_read k_spot k_isWrong k_open k_act k_letBy k_letStamp k_stamp k_fallen k_held k_stands k_falling k_away k_round k_rests may_27 next_27 could_27 couldNight_27 k_night k_seats) → lv_has ls 6 [] → W p l e R s m args below meth c H locs 0 0 QQ (F0 m 98 ls [.int y0_98]) := by
          intro y0_98 H locs ls ey0_98 hO hl
          have hw := hw y0_98 ey0_98
          exact ri4 hQQ hx hb hr hlk hK hO hw dX12_sure_98
        refine lv_icmp_ne (tgt := 96) hx hb dX12_sure_89 (by decide) (fun q_89 => ?_) (fun q_89 => ?_)
        · refine lv_bipush (v := (-5)) hx hb dX12_sure_96 (by decide) ?_
          have hl := lv_sub hl [] rfl (l' := [])
          exact m_98 _ _ _ _ (by rw [if_neg q_89]) hO hl
        · refine lv_iload_n hx hb dX12_sure_92 rfl (lv_at hl 2 rfl) ?_
          refine lv_goto (tgt := 98) hx hb dX12_sure_93 (by decide) ?_
          have hl := lv_sub hl [] rfl (l' := [])
          exact m_98 _ _ _ _ (by rw [if_pos q_89]) hO hl
      · have hw := hw.2 q_31
        refine lv_aload_n hx hb dX12_sure_34 rfl (lv_at hl 0 rfl) ?_
        refine lv_iload hx hb dX12_sure_35 (lv_at hl 4 rfl) ?_
        refine cVv4 (As := [.int v4_27]) (rest := []) C hK hX hO (c_X12_walks (l := l) hw) (cwV 1 hts gd_X12_240 rfl rfl rfl hd_X12_walks (rok hR (Nat.le_of_ble_eq_true rfl) (Nat.le_of_ble_eq_true rfl))) (ci := 12) (q0 := 0) rfl rfl rfl rfl hl.1 rfl (Nat.le_of_ble_eq_true rfl) dX12_sure_37 ⟨Nat.zero_le _, Nat.zero_le _⟩ (fun may_37 next_37 could_37 couldNight_37 H locs hw hO => ?_)
        refine lv_aload_n hx hb dX12_sure_40 rfl (lv_at hl 0 rfl) ?_
        refine gM_could C hin hK lk_could hO dX12_sure_41 ?_
        refine lv_bipush (v := (nI 64)) hx hb dX12_sure_44 (by decide) ?_
        refine lv_iload hx hb dX12_sure_46 (lv_at hl 4 rfl) ?_
        refine lv_imul hx hb dX12_sure_48 ?_
        refine lv_iconst (v := (nI 1)) hx hb dX12_sure_49 (by decide) ?_
        refine lv_iload_n hx hb dX12_sure_50 rfl (lv_at hl 1 rfl) ?_
        refine lv_ishl hx hb dX12_sure_51 ?_
        refine lv_iadd hx hb dX12_sure_52 ?_
        obtain ⟨o_53, hw⟩ := hw
        refine ldM_could C hK hO o_53 rfl dX12_sure_53 ?_
        refine lv_topi (fun x_53 ex_53 => ?_)
        have hw := hw x_53 ex_53
        refine lv_istore (lv' := [(5, .int x_53), (0, .ref h), (1, .int p1), (2, .int v2_27), (3, .int v3_27), (4, .int v4_27)]) hx hb dX12_sure_54 hl (by decide) rfl (fun ls hl => ?_)
        refine lv_iload hx hb dX12_sure_56 (lv_at hl 0 rfl) ?_
        have m_67 : ∀ (y0_67 : Int32) (H : Heap) (locs : List Loc) (ls : Array Slot), y0_67 = (if x_53 = 0 then v2_27 else v4_27) → okW D A s.heap H locs (wM cI cZ cJ h ad k_thrown k_s k_image k_hasImage k_steps k_read k_spot k_isWrong k_open k_act k_letBy k_letStamp k_stamp k_fallen k_held k_stands k_falling k_away k_round k_rests may_37 next_37 could_37 couldNight_37 k_night k_seats) → lv_has ls 6 [(0, .ref h), (1, .int p1), (3, .int v3_27), (4, .int v4_27), (5, .int x_53)] → W p l e R s m args below meth c H locs 0 0 QQ (F0 m 67 ls [.int y0_67]) := by
          intro y0_67 H locs ls ey0_67 hO hl
          have hw := hw y0_67 ey0_67
          refine lv_istore_n (lv' := [(2, .int y0_67), (0, .ref h), (1, .int p1), (3, .int v3_27), (4, .int v4_27), (5, .int x_53)]) hx hb dX12_sure_67 rfl hl (by decide) rfl (fun ls hl => ?_)
          refine lv_iload_n hx hb dX12_sure_68 rfl (lv_at hl 3 rfl) ?_
          refine lv_iload hx hb dX12_sure_69 (lv_at hl 5 rfl) ?_
          have m_79 : ∀ (y1_79 : Int32) (H : Heap) (locs : List Loc) (ls : Array Slot), y1_79 = (if x_53 = 0 then (nI 0) else (nI 1)) → okW D A s.heap H locs (wM cI cZ cJ h ad k_thrown k_s k_image k_hasImage k_steps k_read k_spot k_isWrong k_open k_act k_letBy k_letStamp k_stamp k_fallen k_held k_stands k_falling k_away k_round k_rests may_37 next_37 could_37 couldNight_37 k_night k_seats) → lv_has ls 6 [(0, .ref h), (1, .int p1), (2, .int y0_67), (4, .int v4_27)] → W p l e R s m args below meth c H locs 0 0 QQ (F0 m 79 ls [.int y1_79, .int v3_27]) := by
            intro y1_79 H locs ls ey1_79 hO hl
            have hw := hw y1_79 ey1_79
            refine lv_iadd hx hb dX12_sure_79 ?_
            refine lv_istore_n (lv' := [(3, .int (v3_27 + y1_79)), (0, .ref h), (1, .int p1), (2, .int y0_67), (4, .int v4_27)]) hx hb dX12_sure_80 rfl hl (by decide) rfl (fun ls hl => ?_)
            refine lv_iinc (v := (v4_27 + (nI 1))) (lv' := [(4, .int (v4_27 + (nI 1))), (3, .int (v3_27 + y1_79)), (0, .ref h), (1, .int p1), (2, .int y0_67)]) hx hb dX12_sure_81 hl (k := 4) rfl (iinc_1 _) (by decide) rfl (fun ls hl => ?_)
            refine lv_goto (tgt := 27) hx hb dX12_sure_84 (by decide) ?_
            exact ih_27 y0_67 (v3_27 + y1_79) (v4_27 + (nI 1)) may_37 next_37 could_37 couldNight_37 _ _ _ hO (lv_sub hl [2, 3, 4, 1, 0] rfl) hw
          refine lv_if_eq (tgt := 78) hx hb dX12_sure_71 (by decide) (fun q_71 => ?_) (fun q_71 => ?_)
          · refine lv_iconst (v := (nI 0)) hx hb dX12_sure_78 (by decide) ?_
            have hl := lv_sub hl [1, 2, 0, 4] rfl (l' := [(0, .ref h), (1, .int p1), (2, .int y0_67), (4, .int v4_27)])
            exact m_79 _ _ _ _ (by rw [if_pos q_71]) hO hl
          · refine lv_iconst (v := (nI 1)) hx hb dX12_sure_74 (by decide) ?_
            refine lv_goto (tgt := 79) hx hb dX12_sure_75 (by decide) ?_
            have hl := lv_sub hl [1, 2, 0, 4] rfl (l' := [(0, .ref h), (1, .int p1), (2, .int y0_67), (4, .int v4_27)])
            exact m_79 _ _ _ _ (by rw [if_neg q_71]) hO hl
        refine lv_if_eq (tgt := 66) hx hb dX12_sure_58 (by decide) (fun q_58 => ?_) (fun q_58 => ?_)
        · refine lv_iload_n hx hb dX12_sure_66 rfl (lv_at hl 3 rfl) ?_
          have hl := lv_sub hl [1, 2, 4, 5, 0] rfl (l' := [(0, .ref h), (1, .int p1), (3, .int v3_27), (4, .int v4_27), (5, .int x_53)])
          exact m_67 _ _ _ _ (by rw [if_pos q_58]) hO hl
        · refine lv_iload hx hb dX12_sure_61 (lv_at hl 5 rfl) ?_
          refine lv_goto (tgt := 67) hx hb dX12_sure_63 (by decide) ?_
          have hl := lv_sub hl [1, 2, 4, 5, 0] rfl (l' := [(0, .ref h), (1, .int p1), (3, .int v3_27), (4, .int v4_27), (5, .int x_53)])
          exact m_67 _ _ _ _ (by rw [if_neg q_58]) hO hl
    have l_27 : ∀ (n : Nat) (v2_27 : Int32) (v3_27 : Int32) (v4_27 : Int32) (may_27 : Nat → Int32) (next_27 : Nat → Int32) (could_27 : Nat → Int32) (couldNight_27 : Nat → Int32) (H : Heap) (locs : List Loc) (ls : Array Slot), okW D A s.heap H locs (wM cI cZ cJ h ad k_thrown k_s k_image k_hasImage k_steps k_read k_spot k_isWrong k_open k_act k_letBy k_letStamp k_stamp k_fallen k_held k_stands k_falling k_away k_round k_rests may_27 next_27 could_27 couldNight_27 k_night k_seats) → lv_has ls 6 [(0, .ref h), (1, .int p1), (2, .int v2_27), (3, .int v3_27), (4, .int v4_27)] → wl_X12_sure_27 p1 k_s k_night Q n v2_27 v3_27 v4_27 may_27 next_27 could_27 couldNight_27 → W p l e R s m args below meth c H locs 0 0 QQ (F0 m 27 ls []) := by
      intro n
      induction n with
      | zero => intro v2_27 v3_27 v4_27 may_27 next_27 could_27 couldNight_27 H locs ls hO hl hw; exact False.elim hw
      | succ n ih => exact b_27 _ ih
    exact l_27 n_27 (-5) (nI 0) (nI 0) k_may k_next k_could k_couldNight _ _ _ hO (lv_sub hl [3, 4, 2, 1, 0] rfl) hw
  · have hw := hw.2 q_14
    refine lv_iconst (v := (-1)) hx hb dX12_sure_17 (by decide) ?_
    exact ri4 hQQ hx hb hr hlk hK hO hw dX12_sure_18
def wp_X12_vote (p1 : Int32) (p2 : Int32) (k_s : Nat → Int32) (Q : Int32 → (Nat → Int32) → Prop) : Prop := ((¬ (f_X12_in p1 (nI 0) (nI 5)) = 0 → ((¬ (f_X12_in p2 (nI 0) (nI 99999)) = 0 → (vp_in ((nI 75) + p1) 6700 ∧ (∀ x_32 : Int32, x_32 = (k_s (((nI 75) + p1)).toNatClampNeg) → (vp_in ((nI 75) + p1) 6700 ∧ (Q x_32 (upd k_s ((((nI 75) + p1)).toNatClampNeg) p2)))))) ∧ ((f_X12_in p2 (nI 0) (nI 99999)) = 0 → (Q (-2) k_s)))) ∧ ((f_X12_in p1 (nI 0) (nI 5)) = 0 → (Q (-1) k_s)))
set_option maxHeartbeats 4000000 in
set_option maxRecDepth 100000 in
theorem c_X12_vote {l : Launch} {D : va_G} {cI cZ cJ : ClassId} {h : Nat} {ad : Nat → Nat} {sz : Nat} {k_thrown : Int32} {k_s : Nat → Int32} {k_image : Nat → Int32} {k_hasImage : Int32} {k_steps : Nat → Int32} {k_read : Int32} {k_spot : Int32} {k_isWrong : Int32} {k_open : Int32} {k_act : Int32} {k_letBy : Nat → Int32} {k_letStamp : Nat → Int32} {k_stamp : Int32} {k_fallen : Nat → Int32} {k_held : Nat → Int32} {k_stands : Nat → Int32} {k_falling : Nat → Int32} {k_away : Nat → Int32} {k_round : Nat → Int32} {k_rests : Nat → Int64} {k_may : Nat → Int32} {k_next : Nat → Int32} {k_could : Nat → Int32} {k_couldNight : Nat → Int32} {k_night : Int32} {k_seats : Nat → Int32} {p1 : Int32} {p2 : Int32} {Q : Int32 → (Nat → Int32) → Prop} (hw : wp_X12_vote p1 p2 k_s Q) : Met l yX12_vote (Cond.code yX12_vote cX12_vote 4 (some .int) :: wsG) ({ frames := 1, cells := 0, slots := 0, locals := 22 } : Room) (preW D (tyM cI cZ cJ) (wM cI cZ cJ h ad k_thrown k_s k_image k_hasImage k_steps k_read k_spot k_isWrong k_open k_act k_letBy k_letStamp k_stamp k_fallen k_held k_stands k_falling k_away k_round k_rests k_may k_next k_could k_couldNight k_night k_seats) sz [.ref h, .int p1, .int p2]) (qi1 D (tyM cI cZ cJ) (va_A (wM cI cZ cJ h ad k_thrown k_s k_image k_hasImage k_steps k_read k_spot k_isWrong k_open k_act k_letBy k_letStamp k_stamp k_fallen k_held k_stands k_falling k_away k_round k_rests k_may k_next k_could k_couldNight k_night k_seats) sz) Q (fun k_s' => (wM cI cZ cJ h ad k_thrown k_s' k_image k_hasImage k_steps k_read k_spot k_isWrong k_open k_act k_letBy k_letStamp k_stamp k_fallen k_held k_stands k_falling k_away k_round k_rests k_may k_next k_could k_couldNight k_night k_seats))) 0 0 (va_A (wM cI cZ cJ h ad k_thrown k_s k_image k_hasImage k_steps k_read k_spot k_isWrong k_open k_act k_letBy k_letStamp k_stamp k_fallen k_held k_stands k_falling k_away k_round k_rests k_may k_next k_could k_couldNight k_night k_seats) sz) := by
  refine st_met (cc := cX12_vote) (maxL := 4) (ret := (some .int)) (lv := [(0, .ref h), (1, .int p1), (2, .int p2)]) (Qc := fun A => qi1 D (tyM cI cZ cJ) A Q (fun k_s' => (wM cI cZ cJ h ad k_thrown k_s' k_image k_hasImage k_steps k_read k_spot k_isWrong k_open k_act k_letBy k_letStamp k_stamp k_fallen k_held k_stands k_falling k_away k_round k_rests k_may k_next k_could k_couldNight k_night k_seats))) (by decide) rfl (Nat.le_of_ble_eq_true rfl) rfl ?_
  intro p e s m below meth c ls A R args QQ H locs C hr hlk hnm hK hX hsz hl hO hR hQQ
  have hx := C.1
  have hb := C.2.1
  have hown := C.2.2.2.1
  have hts := C.2.2.2.2
  have hin : ∀ w ∈ u_ws RX12 TX12 26, w ∈ (Cond.code yX12_vote cX12_vote 4 (some .int) :: wsG) := fun w h9 => List.mem_cons_of_mem _ (inG12 w h9)
  have lk_s := hts (Cond.fieldLink RX12 7 "FreeCityModel" "s" "[I") (List.mem_cons_of_mem _ qw5_207)
  unfold wp_X12_vote at hw
  refine lv_iload_n hx hb dX12_vote_0 rfl (lv_at hl 1 rfl) ?_
  refine lv_iconst (v := (nI 0)) hx hb dX12_vote_1 (by decide) ?_
  refine lv_iconst (v := (nI 5)) hx hb dX12_vote_2 (by decide) ?_
  refine cSi0 (As := [.int p1, .int (nI 0), .int (nI 5)]) (rest := []) C hK hX hO (c_X12_in (l := l)) (va_cwS 3 hts gd_X12_74 rfl rfl rfl hd_X12_in (rok hR (Nat.le_of_ble_eq_true rfl) (Nat.le_of_ble_eq_true rfl))) rfl hl.1 rfl (Nat.le_of_ble_eq_true rfl) dX12_vote_3 ⟨Nat.zero_le _, Nat.zero_le _⟩ (fun r_3 H locs e_3 hO => ?_)
  subst e_3
  refine lv_if_ne (tgt := 11) hx hb dX12_vote_6 (by decide) (fun q_6 => ?_) (fun q_6 => ?_)
  · have hw := hw.1 q_6
    refine lv_iload_n hx hb dX12_vote_11 rfl (lv_at hl 2 rfl) ?_
    refine lv_iconst (v := (nI 0)) hx hb dX12_vote_12 (by decide) ?_
    refine lv_ldc (v := (99999)) hx hb hown (hts (Cond.constant RX12 246 (99999)) (List.mem_cons_of_mem _ qw7_124)) dX12_vote_13 ?_
    refine W.eq (g2 := F0 m 15 ls [.int (nI 99999), .int (nI 0), .int p2]) (by rw [show ((99999 : Int32)) = (nI 99999) from by decide]) ?_
    refine cSi0 (As := [.int p2, .int (nI 0), .int (nI 99999)]) (rest := []) C hK hX hO (c_X12_in (l := l)) (va_cwS 3 hts gd_X12_74 rfl rfl rfl hd_X12_in (rok hR (Nat.le_of_ble_eq_true rfl) (Nat.le_of_ble_eq_true rfl))) rfl hl.1 rfl (Nat.le_of_ble_eq_true rfl) dX12_vote_15 ⟨Nat.zero_le _, Nat.zero_le _⟩ (fun r_15 H locs e_15 hO => ?_)
    subst e_15
    refine lv_if_ne (tgt := 24) hx hb dX12_vote_18 (by decide) (fun q_18 => ?_) (fun q_18 => ?_)
    · have hw := hw.1 q_18
      refine lv_aload_n hx hb dX12_vote_24 rfl (lv_at hl 0 rfl) ?_
      refine gM_s C hin hK lk_s hO dX12_vote_25 ?_
      refine lv_bipush (v := (nI 75)) hx hb dX12_vote_28 (by decide) ?_
      refine lv_iload_n hx hb dX12_vote_30 rfl (lv_at hl 1 rfl) ?_
      refine lv_iadd hx hb dX12_vote_31 ?_
      obtain ⟨o_32, hw⟩ := hw
      refine ldM_s C hK hO o_32 rfl dX12_vote_32 ?_
      refine lv_topi (fun x_32 ex_32 => ?_)
      have hw := hw x_32 ex_32
      refine lv_istore_n (lv' := [(3, .int x_32), (0, .ref h), (1, .int p1), (2, .int p2)]) hx hb dX12_vote_33 rfl hl (by decide) rfl (fun ls hl => ?_)
      refine lv_aload_n hx hb dX12_vote_34 rfl (lv_at hl 1 rfl) ?_
      refine gM_s C hin hK lk_s hO dX12_vote_35 ?_
      refine lv_bipush (v := (nI 75)) hx hb dX12_vote_38 (by decide) ?_
      refine lv_iload_n hx hb dX12_vote_40 rfl (lv_at hl 2 rfl) ?_
      refine lv_iadd hx hb dX12_vote_41 ?_
      refine lv_iload_n hx hb dX12_vote_42 rfl (lv_at hl 3 rfl) ?_
      obtain ⟨o_43, hw⟩ := hw
      refine stM_s C hK hO o_43 rfl dX12_vote_43 (fun H locs hO => ?_)
      refine lv_iload_n hx hb dX12_vote_44 rfl (lv_at hl 0 rfl) ?_
      exact ri1 hQQ hx hb hr hlk hK hO hw dX12_vote_45
    · have hw := hw.2 q_18
      refine lv_bipush (v := (-2)) hx hb dX12_vote_21 (by decide) ?_
      exact ri1 hQQ hx hb hr hlk hK hO hw dX12_vote_23
  · have hw := hw.2 q_6
    refine lv_iconst (v := (-1)) hx hb dX12_vote_9 (by decide) ?_
    exact ri1 hQQ hx hb hr hlk hK hO hw dX12_vote_10
def wb_X12_seats_33 (k_s : Nat → Int32) (v2_23 : Int32) (seats_23 : Nat → Int32) (L_23 : Int32 → (Nat → Int32) → Prop) (L_33 : Int32 → Int32 → Prop) (v3_33 : Int32) (v4_33 : Int32) : Prop := (((nI 6) ≤ v4_33 → (vp_in v3_33 6 ∧ (vp_in ((nI 75) + v3_33) 6700 ∧ (∀ y3_129 : Int32, y3_129 = (if (k_s (((nI 75) + v3_33)).toNatClampNeg) ≤ 0 then (nI 0) else (nI 1)) → (vp_in v3_33 6 ∧ (L_23 (v2_23 + (nI 1)) (upd seats_23 ((v3_33).toNatClampNeg) ((seats_23 (v3_33).toNatClampNeg) + y3_129)))))))) ∧ (¬ (nI 6) ≤ v4_33 → (vp_in ((nI 75) + v4_33) 6700 ∧ (vp_in v3_33 6 ∧ (vp_in ((nI 75) + v3_33) 6700 ∧ (vp_in v4_33 6 ∧ (∀ x_82 : Int64, x_82 = (((((k_s (((nI 75) + v4_33)).toNatClampNeg)).toInt64) * ((((seats_23 (v3_33).toNatClampNeg) + (nI 1))).toInt64)) - ((((k_s (((nI 75) + v3_33)).toNatClampNeg)).toInt64) * ((((seats_23 (v4_33).toNatClampNeg) + (nI 1))).toInt64))) → (∀ y0_98 : Int32, y0_98 = (if (lg_cmp x_82 (0)) ≤ 0 then v3_33 else v4_33) → (L_33 y0_98 (v4_33 + (nI 1)))))))))))
def wl_X12_seats_33 (k_s : Nat → Int32) (v2_23 : Int32) (seats_23 : Nat → Int32) (L_23 : Int32 → (Nat → Int32) → Prop) : Nat → Int32 → Int32 → Prop
  | 0, _, _ => False
  | n + 1, v3_33, v4_33 => wb_X12_seats_33 k_s v2_23 seats_23 L_23 (wl_X12_seats_33 k_s v2_23 seats_23 L_23 n) v3_33 v4_33
def wb_X12_seats_23 (p1 : Int32) (k_s : Nat → Int32) (Q : (Nat → Int32) → Prop) (L_23 : Int32 → (Nat → Int32) → Prop) (v2_23 : Int32) (seats_23 : Nat → Int32) : Prop := ((p1 ≤ v2_23 → (Q seats_23)) ∧ (¬ p1 ≤ v2_23 → (∃ n, wl_X12_seats_33 k_s v2_23 seats_23 L_23 n (nI 0) (nI 1))))
def wl_X12_seats_23 (p1 : Int32) (k_s : Nat → Int32) (Q : (Nat → Int32) → Prop) : Nat → Int32 → (Nat → Int32) → Prop
  | 0, _, _ => False
  | n + 1, v2_23, seats_23 => wb_X12_seats_23 p1 k_s Q (wl_X12_seats_23 p1 k_s Q n) v2_23 seats_23
def wb_X12_seats_2 (p1 : Int32) (k_s : Nat → Int32) (Q : (Nat → Int32) → Prop) (L_2 : Int32 → (Nat → Int32) → Prop) (v2_2 : Int32) (seats_2 : Nat → Int32) : Prop := (((nI 6) ≤ v2_2 → (∃ n, wl_X12_seats_23 p1 k_s Q n (nI 0) seats_2)) ∧ (¬ (nI 6) ≤ v2_2 → (vp_in v2_2 6 ∧ (L_2 (v2_2 + (nI 1)) (upd seats_2 ((v2_2).toNatClampNeg) (nI 0))))))
def wl_X12_seats_2 (p1 : Int32) (k_s : Nat → Int32) (Q : (Nat → Int32) → Prop) : Nat → Int32 → (Nat → Int32) → Prop
  | 0, _, _ => False
  | n + 1, v2_2, seats_2 => wb_X12_seats_2 p1 k_s Q (wl_X12_seats_2 p1 k_s Q n) v2_2 seats_2
def wp_X12_seats (p1 : Int32) (k_s : Nat → Int32) (k_seats : Nat → Int32) (Q : (Nat → Int32) → Prop) : Prop := (∃ n, wl_X12_seats_2 p1 k_s Q n (nI 0) k_seats)
set_option maxHeartbeats 4000000 in
set_option maxRecDepth 100000 in
theorem c_X12_seats {l : Launch} {D : va_G} {cI cZ cJ : ClassId} {h : Nat} {ad : Nat → Nat} {sz : Nat} {k_thrown : Int32} {k_s : Nat → Int32} {k_image : Nat → Int32} {k_hasImage : Int32} {k_steps : Nat → Int32} {k_read : Int32} {k_spot : Int32} {k_isWrong : Int32} {k_open : Int32} {k_act : Int32} {k_letBy : Nat → Int32} {k_letStamp : Nat → Int32} {k_stamp : Int32} {k_fallen : Nat → Int32} {k_held : Nat → Int32} {k_stands : Nat → Int32} {k_falling : Nat → Int32} {k_away : Nat → Int32} {k_round : Nat → Int32} {k_rests : Nat → Int64} {k_may : Nat → Int32} {k_next : Nat → Int32} {k_could : Nat → Int32} {k_couldNight : Nat → Int32} {k_night : Int32} {k_seats : Nat → Int32} {p1 : Int32} {Q : (Nat → Int32) → Prop} (hw : wp_X12_seats p1 k_s k_seats Q) : Met l yX12_seats (Cond.code yX12_seats cX12_seats 7 none :: wsG) ({ frames := 0, cells := 0, slots := 0, locals := 0 } : Room) (preW D (tyM cI cZ cJ) (wM cI cZ cJ h ad k_thrown k_s k_image k_hasImage k_steps k_read k_spot k_isWrong k_open k_act k_letBy k_letStamp k_stamp k_fallen k_held k_stands k_falling k_away k_round k_rests k_may k_next k_could k_couldNight k_night k_seats) sz [.ref h, .int p1]) (qv1 D (tyM cI cZ cJ) (va_A (wM cI cZ cJ h ad k_thrown k_s k_image k_hasImage k_steps k_read k_spot k_isWrong k_open k_act k_letBy k_letStamp k_stamp k_fallen k_held k_stands k_falling k_away k_round k_rests k_may k_next k_could k_couldNight k_night k_seats) sz) Q (fun k_seats' => (wM cI cZ cJ h ad k_thrown k_s k_image k_hasImage k_steps k_read k_spot k_isWrong k_open k_act k_letBy k_letStamp k_stamp k_fallen k_held k_stands k_falling k_away k_round k_rests k_may k_next k_could k_couldNight k_night k_seats'))) 0 0 (va_A (wM cI cZ cJ h ad k_thrown k_s k_image k_hasImage k_steps k_read k_spot k_isWrong k_open k_act k_letBy k_letStamp k_stamp k_fallen k_held k_stands k_falling k_away k_round k_rests k_may k_next k_could k_couldNight k_night k_seats) sz) := by
  refine st_met (cc := cX12_seats) (maxL := 7) (ret := none) (lv := [(0, .ref h), (1, .int p1)]) (Qc := fun A => qv1 D (tyM cI cZ cJ) A Q (fun k_seats' => (wM cI cZ cJ h ad k_thrown k_s k_image k_hasImage k_steps k_read k_spot k_isWrong k_open k_act k_letBy k_letStamp k_stamp k_fallen k_held k_stands k_falling k_away k_round k_rests k_may k_next k_could k_couldNight k_night k_seats'))) (by decide) rfl (Nat.le_of_ble_eq_true rfl) rfl ?_
  intro p e s m below meth c ls A R args QQ H locs C hr hlk hnm hK hX hsz hl hO hR hQQ
  have hx := C.1
  have hb := C.2.1
  have hown := C.2.2.2.1
  have hts := C.2.2.2.2
  have hin : ∀ w ∈ u_ws RX12 TX12 26, w ∈ (Cond.code yX12_seats cX12_seats 7 none :: wsG) := fun w h9 => List.mem_cons_of_mem _ (inG12 w h9)
  have lk_seats := hts (Cond.fieldLink RX12 68 "FreeCityModel" "seats" "[I") (List.mem_cons_of_mem _ qw5_231)
  have lk_s := hts (Cond.fieldLink RX12 7 "FreeCityModel" "s" "[I") (List.mem_cons_of_mem _ qw5_207)
  unfold wp_X12_seats at hw
  refine lv_iconst (v := (nI 0)) hx hb dX12_seats_0 (by decide) ?_
  refine lv_istore_n (lv' := [(2, .int (nI 0)), (0, .ref h), (1, .int p1)]) hx hb dX12_seats_1 rfl hl (by decide) rfl (fun ls hl => ?_)
  obtain ⟨n_2, hw⟩ := hw
  have b_2 : ∀ (L_2 : Int32 → (Nat → Int32) → Prop) (ih_2 : ∀ (v2_2 : Int32) (seats_2 : Nat → Int32) (H : Heap) (locs : List Loc) (ls : Array Slot), okW D A s.heap H locs (wM cI cZ cJ h ad k_thrown k_s k_image k_hasImage k_steps k_read k_spot k_isWrong k_open k_act k_letBy k_letStamp k_stamp k_fallen k_held k_stands k_falling k_away k_round k_rests k_may k_next k_could k_couldNight k_night seats_2) → lv_has ls 7 [(0, .ref h), (1, .int p1), (2, .int v2_2)] → L_2 v2_2 seats_2 → W p l e R s m args below meth c H locs 0 0 QQ (F0 m 2 ls [])) (v2_2 : Int32) (seats_2 : Nat → Int32) (H : Heap) (locs : List Loc) (ls : Array Slot), okW D A s.heap H locs (wM cI cZ cJ h ad k_thrown k_s k_image k_hasImage k_steps k_read k_spot k_isWrong k_open k_act k_letBy k_letStamp k_stamp k_fallen k_held k_stands k_falling k_away k_round k_rests k_may k_next k_could k_couldNight k_night seats_2) → lv_has ls 7 [(0, .ref h), (1, .int p1), (2, .int v2_2)] → wb_X12_seats_2 p1 k_s Q L_2 v2_2 seats_2 → W p l e R s m args below meth c H locs 0 0 QQ (F0 m 2 ls []) := by
    intro L_2 ih_2 v2_2 seats_2 H locs ls hO hl hw
    unfold wb_X12_seats_2 at hw
    refine lv_iload_n hx hb dX12_seats_2 rfl (lv_at hl 2 rfl) ?_
    refine lv_bipush (v := (nI 6)) hx hb dX12_seats_3 (by decide) ?_
    refine lv_icmp_ge (tgt := 21) hx hb dX12_seats_5 (by decide) (fun q_5 => ?_) (fun q_5 => ?_)
    · have hw := hw.1 q_5
      refine lv_iconst (v := (nI 0)) hx hb dX12_seats_21 (by decide) ?_
      refine lv_istore_n (lv' := [(2, .int (nI 0)), (0, .ref h), (1, .int p1)]) hx hb dX12_seats_22 rfl hl (by decide) rfl (fun ls hl => ?_)
      obtain ⟨n_23, hw⟩ := hw
      have b_23 : ∀ (L_23 : Int32 → (Nat → Int32) → Prop) (ih_23 : ∀ (v2_23 : Int32) (seats_23 : Nat → Int32) (H : Heap) (locs : List Loc) (ls : Array Slot), okW D A s.heap H locs (wM cI cZ cJ h ad k_thrown k_s k_image k_hasImage k_steps k_read k_spot k_isWrong k_open k_act k_letBy k_letStamp k_stamp k_fallen k_held k_stands k_falling k_away k_round k_rests k_may k_next k_could k_couldNight k_night seats_23) → lv_has ls 7 [(0, .ref h), (1, .int p1), (2, .int v2_23)] → L_23 v2_23 seats_23 → W p l e R s m args below meth c H locs 0 0 QQ (F0 m 23 ls [])) (v2_23 : Int32) (seats_23 : Nat → Int32) (H : Heap) (locs : List Loc) (ls : Array Slot), okW D A s.heap H locs (wM cI cZ cJ h ad k_thrown k_s k_image k_hasImage k_steps k_read k_spot k_isWrong k_open k_act k_letBy k_letStamp k_stamp k_fallen k_held k_stands k_falling k_away k_round k_rests k_may k_next k_could k_couldNight k_night seats_23) → lv_has ls 7 [(0, .ref h), (1, .int p1), (2, .int v2_23)] → wb_X12_seats_23 p1 k_s Q L_23 v2_23 seats_23 → W p l e R s m args below meth c H locs 0 0 QQ (F0 m 23 ls []) := by
        intro L_23 ih_23 v2_23 seats_23 H locs ls hO hl hw
        unfold wb_X12_seats_23 at hw
        refine lv_iload_n hx hb dX12_seats_23 rfl (lv_at hl 2 rfl) ?_
        refine lv_iload_n hx hb dX12_seats_24 rfl (lv_at hl 1 rfl) ?_
        refine lv_icmp_ge (tgt := 137) hx hb dX12_seats_25 (by decide) (fun q_25 => ?_) (fun q_25 => ?_)
        · have hw := hw.1 q_25
          exact rv1 hQQ hx hb hr hlk hK hO hw dX12_seats_137
        · have hw := hw.2 q_25
          refine lv_iconst (v := (nI 0)) hx hb dX12_seats_28 (by decide) ?_
          refine lv_istore_n (lv' := [(3, .int (nI 0)), (0, .ref h), (1, .int p1), (2, .int v2_23)]) hx hb dX12_seats_29 rfl hl (by decide) rfl (fun ls hl => ?_)
          refine lv_iconst (v := (nI 1)) hx hb dX12_seats_30 (by decide) ?_
          refine lv_istore (lv' := [(4, .int (nI 1)), (3, .int (nI 0)), (0, .ref h), (1, .int p1), (2, .int v2_23)]) hx hb dX12_seats_31 hl (by decide) rfl (fun ls hl => ?_)
          obtain ⟨n_33, hw⟩ := hw
          have b_33 : ∀ (L_33 : Int32 → Int32 → Prop) (ih_33 : ∀ (v3_33 : Int32) (v4_33 : Int32) (H : Heap) (locs : List Loc) (ls : Array Slot), okW D A s.heap H locs (wM cI cZ cJ h ad k_thrown k_s k_image k_hasImage k_steps k_read k_spot k_isWrong k_open k_act k_letBy k_letStamp k_stamp k_fallen k_held k_stands k_falling k_away k_round k_rests k_may k_next k_could k_couldNight k_night seats_23) → lv_has ls 7 [(0, .ref h), (1, .int p1), (2, .int v2_23), (3, .int v3_33), (4, .int v4_33)] → L_33 v3_33 v4_33 → W p l e R s m args below meth c H locs 0 0 QQ (F0 m 33 ls [])) (v3_33 : Int32) (v4_33 : Int32) (H : Heap) (locs : List Loc) (ls : Array Slot), okW D A s.heap H locs (wM cI cZ cJ h ad k_thrown k_s k_image k_hasImage k_steps k_read k_spot k_isWrong k_open k_act k_letBy k_letStamp k_stamp k_fallen k_held k_stands k_falling k_away k_round k_rests k_may k_next k_could k_couldNight k_night seats_23) → lv_has ls 7 [(0, .ref h), (1, .int p1), (2, .int v2_23), (3, .int v3_33), (4, .int v4_33)] → wb_X12_seats_33 k_s v2_23 seats_23 L_23 L_33 v3_33 v4_33 → W p l e R s m args below meth c H locs 0 0 QQ (F0 m 33 ls []) := by
            intro L_33 ih_33 v3_33 v4_33 H locs ls hO hl hw
            unfold wb_X12_seats_33 at hw
            refine lv_iload hx hb dX12_seats_33 (lv_at hl 4 rfl) ?_
            refine lv_bipush (v := (nI 6)) hx hb dX12_seats_35 (by decide) ?_
            refine lv_icmp_ge (tgt := 105) hx hb dX12_seats_37 (by decide) (fun q_37 => ?_) (fun q_37 => ?_)
            · have hw := hw.1 q_37
              refine lv_aload_n hx hb dX12_seats_105 rfl (lv_at hl 0 rfl) ?_
              refine gM_seats C hin hK lk_seats hO dX12_seats_106 ?_
              refine lv_iload_n hx hb dX12_seats_109 rfl (lv_at hl 3 rfl) ?_
              refine lv_dup2_11 hx hb dX12_seats_110 rfl rfl ?_
              obtain ⟨o_111, hw⟩ := hw
              refine ldM_seats C hK hO o_111 rfl dX12_seats_111 ?_
              refine lv_aload_n hx hb dX12_seats_112 rfl (lv_at hl 0 rfl) ?_
              refine gM_s C hin hK lk_s hO dX12_seats_113 ?_
              refine lv_bipush (v := (nI 75)) hx hb dX12_seats_116 (by decide) ?_
              refine lv_iload_n hx hb dX12_seats_118 rfl (lv_at hl 3 rfl) ?_
              refine lv_iadd hx hb dX12_seats_119 ?_
              obtain ⟨o_120, hw⟩ := hw
              refine ldM_s C hK hO o_120 rfl dX12_seats_120 ?_
              have m_129 : ∀ (y3_129 : Int32) (H : Heap) (locs : List Loc) (ls : Array Slot), y3_129 = (if (k_s (((nI 75) + v3_33)).toNatClampNeg) ≤ 0 then (nI 0) else (nI 1)) → okW D A s.heap H locs (wM cI cZ cJ h ad k_thrown k_s k_image k_hasImage k_steps k_read k_spot k_isWrong k_open k_act k_letBy k_letStamp k_stamp k_fallen k_held k_stands k_falling k_away k_round k_rests k_may k_next k_could k_couldNight k_night seats_23) → lv_has ls 7 [(0, .ref h), (1, .int p1), (2, .int v2_23)] → W p l e R s m args below meth c H locs 0 0 QQ (F0 m 129 ls [.int y3_129, .int (seats_23 (v3_33).toNatClampNeg), .int v3_33, .ref (ad 25)]) := by
                intro y3_129 H locs ls ey3_129 hO hl
                have hw := hw y3_129 ey3_129
                refine lv_iadd hx hb dX12_seats_129 ?_
                obtain ⟨o_130, hw⟩ := hw
                refine stM_seats C hK hO o_130 rfl dX12_seats_130 (fun H locs hO => ?_)
                refine lv_iinc (v := (v2_23 + (nI 1))) (lv' := [(2, .int (v2_23 + (nI 1))), (0, .ref h), (1, .int p1)]) hx hb dX12_seats_131 hl (k := 2) rfl (iinc_1 _) (by decide) rfl (fun ls hl => ?_)
                refine lv_goto (tgt := 23) hx hb dX12_seats_134 (by decide) ?_
                exact ih_23 (v2_23 + (nI 1)) (upd seats_23 ((v3_33).toNatClampNeg) ((seats_23 (v3_33).toNatClampNeg) + y3_129)) _ _ _ hO (lv_sub hl [1, 2, 0] rfl) hw
              refine lv_if_le (tgt := 128) hx hb dX12_seats_121 (by decide) (fun q_121 => ?_) (fun q_121 => ?_)
              · refine lv_iconst (v := (nI 0)) hx hb dX12_seats_128 (by decide) ?_
                have hl := lv_sub hl [0, 1, 2] rfl (l' := [(0, .ref h), (1, .int p1), (2, .int v2_23)])
                exact m_129 _ _ _ _ (by rw [if_pos q_121]) hO hl
              · refine lv_iconst (v := (nI 1)) hx hb dX12_seats_124 (by decide) ?_
                refine lv_goto (tgt := 129) hx hb dX12_seats_125 (by decide) ?_
                have hl := lv_sub hl [0, 1, 2] rfl (l' := [(0, .ref h), (1, .int p1), (2, .int v2_23)])
                exact m_129 _ _ _ _ (by rw [if_neg q_121]) hO hl
            · have hw := hw.2 q_37
              refine lv_aload_n hx hb dX12_seats_40 rfl (lv_at hl 0 rfl) ?_
              refine gM_s C hin hK lk_s hO dX12_seats_41 ?_
              refine lv_bipush (v := (nI 75)) hx hb dX12_seats_44 (by decide) ?_
              refine lv_iload hx hb dX12_seats_46 (lv_at hl 4 rfl) ?_
              refine lv_iadd hx hb dX12_seats_48 ?_
              obtain ⟨o_49, hw⟩ := hw
              refine ldM_s C hK hO o_49 rfl dX12_seats_49 ?_
              refine lv_i2l hx hb dX12_seats_50 rfl ?_
              refine lv_aload_n hx hb dX12_seats_51 rfl (lv_at hl 0 rfl) ?_
              refine gM_seats C hin hK lk_seats hO dX12_seats_52 ?_
              refine lv_iload_n hx hb dX12_seats_55 rfl (lv_at hl 3 rfl) ?_
              obtain ⟨o_56, hw⟩ := hw
              refine ldM_seats C hK hO o_56 rfl dX12_seats_56 ?_
              refine lv_iconst (v := (nI 1)) hx hb dX12_seats_57 (by decide) ?_
              refine lv_iadd hx hb dX12_seats_58 ?_
              refine lv_i2l hx hb dX12_seats_59 rfl ?_
              refine lv_lmul hx hb dX12_seats_60 ?_
              refine lv_aload_n hx hb dX12_seats_61 rfl (lv_at hl 0 rfl) ?_
              refine gM_s C hin hK lk_s hO dX12_seats_62 ?_
              refine lv_bipush (v := (nI 75)) hx hb dX12_seats_65 (by decide) ?_
              refine lv_iload_n hx hb dX12_seats_67 rfl (lv_at hl 3 rfl) ?_
              refine lv_iadd hx hb dX12_seats_68 ?_
              obtain ⟨o_69, hw⟩ := hw
              refine ldM_s C hK hO o_69 rfl dX12_seats_69 ?_
              refine lv_i2l hx hb dX12_seats_70 rfl ?_
              refine lv_aload_n hx hb dX12_seats_71 rfl (lv_at hl 0 rfl) ?_
              refine gM_seats C hin hK lk_seats hO dX12_seats_72 ?_
              refine lv_iload hx hb dX12_seats_75 (lv_at hl 4 rfl) ?_
              obtain ⟨o_77, hw⟩ := hw
              refine ldM_seats C hK hO o_77 rfl dX12_seats_77 ?_
              refine lv_iconst (v := (nI 1)) hx hb dX12_seats_78 (by decide) ?_
              refine lv_iadd hx hb dX12_seats_79 ?_
              refine lv_i2l hx hb dX12_seats_80 rfl ?_
              refine lv_lmul hx hb dX12_seats_81 ?_
              refine lv_lsub hx hb dX12_seats_82 ?_
              refine lv_topl (fun x_82 ex_82 => ?_)
              have hw := hw x_82 ex_82
              refine lv_lstore (lv' := [(5, .long x_82), (0, .ref h), (1, .int p1), (2, .int v2_23), (3, .int v3_33), (4, .int v4_33)]) hx hb dX12_seats_83 hl (by decide) rfl (fun ls hl => ?_)
              refine lv_lload hx hb dX12_seats_85 (lv_at hl 0 rfl) ?_
              refine lv_lconst (v := (0)) hx hb dX12_seats_87 (by decide) ?_
              refine W.lcmp hx hb dX12_seats_88 ?_
              have m_98 : ∀ (y0_98 : Int32) (H : Heap) (locs : List Loc) (ls : Array Slot), y0_98 = (if (lg_cmp x_82 (0)) ≤ 0 then v3_33 else v4_33) → okW D A s.heap H locs (wM cI cZ cJ h ad k_thrown k_s k_image k_hasImage k_steps k_read k_spot k_isWrong k_open k_act k_letBy k_letStamp k_stamp k_fallen k_held k_stands k_falling k_away k_round k_rests k_may k_next k_could k_couldNight k_night seats_23) → lv_has ls 7 [(0, .ref h), (1, .int p1), (2, .int v2_23), (4, .int v4_33)] → W p l e R s m args below meth c H locs 0 0 QQ (F0 m 98 ls [.int y0_98]) := by
                intro y0_98 H locs ls ey0_98 hO hl
                have hw := hw y0_98 ey0_98
                refine lv_istore_n (lv' := [(3, .int y0_98), (0, .ref h), (1, .int p1), (2, .int v2_23), (4, .int v4_33)]) hx hb dX12_seats_98 rfl hl (by decide) rfl (fun ls hl => ?_)
                refine lv_iinc (v := (v4_33 + (nI 1))) (lv' := [(4, .int (v4_33 + (nI 1))), (3, .int y0_98), (0, .ref h), (1, .int p1), (2, .int v2_23)]) hx hb dX12_seats_99 hl (k := 4) rfl (iinc_1 _) (by decide) rfl (fun ls hl => ?_)
                refine lv_goto (tgt := 33) hx hb dX12_seats_102 (by decide) ?_
                exact ih_33 y0_98 (v4_33 + (nI 1)) _ _ _ hO (lv_sub hl [2, 3, 4, 1, 0] rfl) hw
              refine lv_if_le (tgt := 97) hx hb dX12_seats_89 (by decide) (fun q_89 => ?_) (fun q_89 => ?_)
              · refine lv_iload_n hx hb dX12_seats_97 rfl (lv_at hl 4 rfl) ?_
                have hl := lv_sub hl [1, 2, 3, 5] rfl (l' := [(0, .ref h), (1, .int p1), (2, .int v2_23), (4, .int v4_33)])
                exact m_98 _ _ _ _ (by rw [if_pos q_89]) hO hl
              · refine lv_iload hx hb dX12_seats_92 (lv_at hl 5 rfl) ?_
                refine lv_goto (tgt := 98) hx hb dX12_seats_94 (by decide) ?_
                have hl := lv_sub hl [1, 2, 3, 5] rfl (l' := [(0, .ref h), (1, .int p1), (2, .int v2_23), (4, .int v4_33)])
                exact m_98 _ _ _ _ (by rw [if_neg q_89]) hO hl
          have l_33 : ∀ (n : Nat) (v3_33 : Int32) (v4_33 : Int32) (H : Heap) (locs : List Loc) (ls : Array Slot), okW D A s.heap H locs (wM cI cZ cJ h ad k_thrown k_s k_image k_hasImage k_steps k_read k_spot k_isWrong k_open k_act k_letBy k_letStamp k_stamp k_fallen k_held k_stands k_falling k_away k_round k_rests k_may k_next k_could k_couldNight k_night seats_23) → lv_has ls 7 [(0, .ref h), (1, .int p1), (2, .int v2_23), (3, .int v3_33), (4, .int v4_33)] → wl_X12_seats_33 k_s v2_23 seats_23 L_23 n v3_33 v4_33 → W p l e R s m args below meth c H locs 0 0 QQ (F0 m 33 ls []) := by
            intro n
            induction n with
            | zero => intro v3_33 v4_33 H locs ls hO hl hw; exact False.elim hw
            | succ n ih => exact b_33 _ ih
          exact l_33 n_33 (nI 0) (nI 1) _ _ _ hO (lv_sub hl [2, 3, 4, 1, 0] rfl) hw
      have l_23 : ∀ (n : Nat) (v2_23 : Int32) (seats_23 : Nat → Int32) (H : Heap) (locs : List Loc) (ls : Array Slot), okW D A s.heap H locs (wM cI cZ cJ h ad k_thrown k_s k_image k_hasImage k_steps k_read k_spot k_isWrong k_open k_act k_letBy k_letStamp k_stamp k_fallen k_held k_stands k_falling k_away k_round k_rests k_may k_next k_could k_couldNight k_night seats_23) → lv_has ls 7 [(0, .ref h), (1, .int p1), (2, .int v2_23)] → wl_X12_seats_23 p1 k_s Q n v2_23 seats_23 → W p l e R s m args below meth c H locs 0 0 QQ (F0 m 23 ls []) := by
        intro n
        induction n with
        | zero => intro v2_23 seats_23 H locs ls hO hl hw; exact False.elim hw
        | succ n ih => exact b_23 _ ih
      exact l_23 n_23 (nI 0) seats_2 _ _ _ hO (lv_sub hl [1, 2, 0] rfl) hw
    · have hw := hw.2 q_5
      refine lv_aload_n hx hb dX12_seats_8 rfl (lv_at hl 0 rfl) ?_
      refine gM_seats C hin hK lk_seats hO dX12_seats_9 ?_
      refine lv_iload_n hx hb dX12_seats_12 rfl (lv_at hl 2 rfl) ?_
      refine lv_iconst (v := (nI 0)) hx hb dX12_seats_13 (by decide) ?_
      obtain ⟨o_14, hw⟩ := hw
      refine stM_seats C hK hO o_14 rfl dX12_seats_14 (fun H locs hO => ?_)
      refine lv_iinc (v := (v2_2 + (nI 1))) (lv' := [(2, .int (v2_2 + (nI 1))), (0, .ref h), (1, .int p1)]) hx hb dX12_seats_15 hl (k := 2) rfl (iinc_1 _) (by decide) rfl (fun ls hl => ?_)
      refine lv_goto (tgt := 2) hx hb dX12_seats_18 (by decide) ?_
      exact ih_2 (v2_2 + (nI 1)) (upd seats_2 ((v2_2).toNatClampNeg) (nI 0)) _ _ _ hO (lv_sub hl [1, 2, 0] rfl) hw
  have l_2 : ∀ (n : Nat) (v2_2 : Int32) (seats_2 : Nat → Int32) (H : Heap) (locs : List Loc) (ls : Array Slot), okW D A s.heap H locs (wM cI cZ cJ h ad k_thrown k_s k_image k_hasImage k_steps k_read k_spot k_isWrong k_open k_act k_letBy k_letStamp k_stamp k_fallen k_held k_stands k_falling k_away k_round k_rests k_may k_next k_could k_couldNight k_night seats_2) → lv_has ls 7 [(0, .ref h), (1, .int p1), (2, .int v2_2)] → wl_X12_seats_2 p1 k_s Q n v2_2 seats_2 → W p l e R s m args below meth c H locs 0 0 QQ (F0 m 2 ls []) := by
    intro n
    induction n with
    | zero => intro v2_2 seats_2 H locs ls hO hl hw; exact False.elim hw
    | succ n ih => exact b_2 _ ih
  exact l_2 n_2 (nI 0) k_seats _ _ _ hO (lv_sub hl [1, 2, 0] rfl) hw
theorem gd_X12_247 {a : Cond} : GoodIn (a :: wsG) (wsV RX12 247 RX12 yX12_seats (Cond.code yX12_seats cX12_seats 7 none :: wsG)) := gdV qw7_129 qw7_131 qs_68 qw1_12 qw7_132
theorem hd_X12_seats : yX12_seats.cls = RX12 ∧ yX12_seats.cls ≠ "java/lang/invoke/MethodHandle" ∧ yX12_seats.cls ≠ "java/lang/invoke/VarHandle" ∧ (parseMethodDescriptor yX12_seats.desc).map (fun d => d.parameters.length) = some 1 := by decide +kernel
def wp_X12_seat (p1 : Int32) (p2 : Int32) (k_s : Nat → Int32) (k_seats : Nat → Int32) (Q : Int32 → (Nat → Int32) → Prop) : Prop := ((¬ (f_X12_in p1 (nI 0) (nI 5)) = 0 → ((¬ (f_X12_in p2 (nI 1) (nI 60)) = 0 → (wp_X12_seats p2 k_s k_seats (fun (seats_26 : Nat → Int32) => (vp_in p1 6 ∧ (Q (seats_26 (p1).toNatClampNeg) seats_26))))) ∧ ((f_X12_in p2 (nI 1) (nI 60)) = 0 → (Q (-2) k_seats)))) ∧ ((f_X12_in p1 (nI 0) (nI 5)) = 0 → (Q (-1) k_seats)))
set_option maxHeartbeats 4000000 in
set_option maxRecDepth 100000 in
theorem c_X12_seat {l : Launch} {D : va_G} {cI cZ cJ : ClassId} {h : Nat} {ad : Nat → Nat} {sz : Nat} {k_thrown : Int32} {k_s : Nat → Int32} {k_image : Nat → Int32} {k_hasImage : Int32} {k_steps : Nat → Int32} {k_read : Int32} {k_spot : Int32} {k_isWrong : Int32} {k_open : Int32} {k_act : Int32} {k_letBy : Nat → Int32} {k_letStamp : Nat → Int32} {k_stamp : Int32} {k_fallen : Nat → Int32} {k_held : Nat → Int32} {k_stands : Nat → Int32} {k_falling : Nat → Int32} {k_away : Nat → Int32} {k_round : Nat → Int32} {k_rests : Nat → Int64} {k_may : Nat → Int32} {k_next : Nat → Int32} {k_could : Nat → Int32} {k_couldNight : Nat → Int32} {k_night : Int32} {k_seats : Nat → Int32} {p1 : Int32} {p2 : Int32} {Q : Int32 → (Nat → Int32) → Prop} (hw : wp_X12_seat p1 p2 k_s k_seats Q) : Met l yX12_seat (Cond.code yX12_seat cX12_seat 3 (some .int) :: wsG) ({ frames := 1, cells := 0, slots := 0, locals := 26 } : Room) (preW D (tyM cI cZ cJ) (wM cI cZ cJ h ad k_thrown k_s k_image k_hasImage k_steps k_read k_spot k_isWrong k_open k_act k_letBy k_letStamp k_stamp k_fallen k_held k_stands k_falling k_away k_round k_rests k_may k_next k_could k_couldNight k_night k_seats) sz [.ref h, .int p1, .int p2]) (qi1 D (tyM cI cZ cJ) (va_A (wM cI cZ cJ h ad k_thrown k_s k_image k_hasImage k_steps k_read k_spot k_isWrong k_open k_act k_letBy k_letStamp k_stamp k_fallen k_held k_stands k_falling k_away k_round k_rests k_may k_next k_could k_couldNight k_night k_seats) sz) Q (fun k_seats' => (wM cI cZ cJ h ad k_thrown k_s k_image k_hasImage k_steps k_read k_spot k_isWrong k_open k_act k_letBy k_letStamp k_stamp k_fallen k_held k_stands k_falling k_away k_round k_rests k_may k_next k_could k_couldNight k_night k_seats'))) 0 0 (va_A (wM cI cZ cJ h ad k_thrown k_s k_image k_hasImage k_steps k_read k_spot k_isWrong k_open k_act k_letBy k_letStamp k_stamp k_fallen k_held k_stands k_falling k_away k_round k_rests k_may k_next k_could k_couldNight k_night k_seats) sz) := by
  refine st_met (cc := cX12_seat) (maxL := 3) (ret := (some .int)) (lv := [(0, .ref h), (1, .int p1), (2, .int p2)]) (Qc := fun A => qi1 D (tyM cI cZ cJ) A Q (fun k_seats' => (wM cI cZ cJ h ad k_thrown k_s k_image k_hasImage k_steps k_read k_spot k_isWrong k_open k_act k_letBy k_letStamp k_stamp k_fallen k_held k_stands k_falling k_away k_round k_rests k_may k_next k_could k_couldNight k_night k_seats'))) (by decide) rfl (Nat.le_of_ble_eq_true rfl) rfl ?_
  intro p e s m below meth c ls A R args QQ H locs C hr hlk hnm hK hX hsz hl hO hR hQQ
  have hx := C.1
  have hb := C.2.1
  have hown := C.2.2.2.1
  have hts := C.2.2.2.2
  have hin : ∀ w ∈ u_ws RX12 TX12 26, w ∈ (Cond.code yX12_seat cX12_seat 3 (some .int) :: wsG) := fun w h9 => List.mem_cons_of_mem _ (inG12 w h9)
  have lk_seats := hts (Cond.fieldLink RX12 68 "FreeCityModel" "seats" "[I") (List.mem_cons_of_mem _ qw5_231)
  unfold wp_X12_seat at hw
  refine lv_iload_n hx hb dX12_seat_0 rfl (lv_at hl 1 rfl) ?_
  refine lv_iconst (v := (nI 0)) hx hb dX12_seat_1 (by decide) ?_
  refine lv_iconst (v := (nI 5)) hx hb dX12_seat_2 (by decide) ?_
  refine cSi0 (As := [.int p1, .int (nI 0), .int (nI 5)]) (rest := []) C hK hX hO (c_X12_in (l := l)) (va_cwS 3 hts gd_X12_74 rfl rfl rfl hd_X12_in (rok hR (Nat.le_of_ble_eq_true rfl) (Nat.le_of_ble_eq_true rfl))) rfl hl.1 rfl (Nat.le_of_ble_eq_true rfl) dX12_seat_3 ⟨Nat.zero_le _, Nat.zero_le _⟩ (fun r_3 H locs e_3 hO => ?_)
  subst e_3
  refine lv_if_ne (tgt := 11) hx hb dX12_seat_6 (by decide) (fun q_6 => ?_) (fun q_6 => ?_)
  · have hw := hw.1 q_6
    refine lv_iload_n hx hb dX12_seat_11 rfl (lv_at hl 2 rfl) ?_
    refine lv_iconst (v := (nI 1)) hx hb dX12_seat_12 (by decide) ?_
    refine lv_bipush (v := (nI 60)) hx hb dX12_seat_13 (by decide) ?_
    refine cSi0 (As := [.int p2, .int (nI 1), .int (nI 60)]) (rest := []) C hK hX hO (c_X12_in (l := l)) (va_cwS 3 hts gd_X12_74 rfl rfl rfl hd_X12_in (rok hR (Nat.le_of_ble_eq_true rfl) (Nat.le_of_ble_eq_true rfl))) rfl hl.1 rfl (Nat.le_of_ble_eq_true rfl) dX12_seat_15 ⟨Nat.zero_le _, Nat.zero_le _⟩ (fun r_15 H locs e_15 hO => ?_)
    subst e_15
    refine lv_if_ne (tgt := 24) hx hb dX12_seat_18 (by decide) (fun q_18 => ?_) (fun q_18 => ?_)
    · have hw := hw.1 q_18
      refine lv_aload_n hx hb dX12_seat_24 rfl (lv_at hl 0 rfl) ?_
      refine lv_iload_n hx hb dX12_seat_25 rfl (lv_at hl 2 rfl) ?_
      refine cVv1 (As := [.int p2]) (rest := []) C hK hX hO (c_X12_seats (l := l) hw) (cwV 1 hts gd_X12_247 rfl rfl rfl hd_X12_seats (rok hR (Nat.le_of_ble_eq_true rfl) (Nat.le_of_ble_eq_true rfl))) (ci := 12) (q0 := 0) rfl rfl rfl rfl hl.1 rfl (Nat.le_of_ble_eq_true rfl) dX12_seat_26 ⟨Nat.zero_le _, Nat.zero_le _⟩ (fun seats_26 H locs hw hO => ?_)
      refine lv_aload_n hx hb dX12_seat_29 rfl (lv_at hl 0 rfl) ?_
      refine gM_seats C hin hK lk_seats hO dX12_seat_30 ?_
      refine lv_iload_n hx hb dX12_seat_33 rfl (lv_at hl 1 rfl) ?_
      obtain ⟨o_34, hw⟩ := hw
      refine ldM_seats C hK hO o_34 rfl dX12_seat_34 ?_
      exact ri1 hQQ hx hb hr hlk hK hO hw dX12_seat_35
    · have hw := hw.2 q_18
      refine lv_bipush (v := (-2)) hx hb dX12_seat_21 (by decide) ?_
      exact ri1 hQQ hx hb hr hlk hK hO hw dX12_seat_23
  · have hw := hw.2 q_6
    refine lv_iconst (v := (-1)) hx hb dX12_seat_9 (by decide) ?_
    exact ri1 hQQ hx hb hr hlk hK hO hw dX12_seat_10
def wk_X12_turn_117 (v4_34 : Int32) (L_34 : Int32 → Int32 → Prop) (t0_117 : Int32) : Prop := (L_34 t0_117 (v4_34 + (nI 1)))
def wk_X12_turn_116 (v3_34 : Int32) (v4_34 : Int32) (L_34 : Int32 → Int32 → Prop)  : Prop := (wk_X12_turn_117 v4_34 L_34 v3_34)
def wk_X12_turn_111 (v4_34 : Int32) (L_34 : Int32 → Int32 → Prop)  : Prop := (wk_X12_turn_117 v4_34 L_34 v4_34)
def wb_X12_turn_47 (p2 : Int32) (seats_25 : Nat → Int32) (v3_34 : Int32) (v4_34 : Int32) (L_34 : Int32 → Int32 → Prop) (L_47 : Int32 → Int32 → Prop) (v5_47 : Int32) (v6_47 : Int32) : Prop := (((nI 6) ≤ v6_47 → ((v5_47 < p2 → (wk_X12_turn_116 v3_34 v4_34 L_34)) ∧ (¬ v5_47 < p2 → ((v3_34 = (-5) → (wk_X12_turn_111 v4_34 L_34)) ∧ (¬ v3_34 = (-5) → (wp_X12_many v4_34 (fun (r_101 : Int32) => (wp_X12_many v3_34 (fun (r_105 : Int32) => (∀ y0_117 : Int32, y0_117 = (if r_105 ≤ r_101 then v3_34 else v4_34) → (wk_X12_turn_117 v4_34 L_34 y0_117))))))))))) ∧ (¬ (nI 6) ≤ v6_47 → (((((v4_34 >>> (v6_47 &&& 31)) &&& (nI 1)) = (nI 1) → (vp_in v6_47 6))) ∧ (∀ y1_78 : Int32, y1_78 = (if ((v4_34 >>> (v6_47 &&& 31)) &&& (nI 1)) = (nI 1) then (seats_25 (v6_47).toNatClampNeg) else (nI 0)) → (L_47 (v5_47 + y1_78) (v6_47 + (nI 1)))))))
def wl_X12_turn_47 (p2 : Int32) (seats_25 : Nat → Int32) (v3_34 : Int32) (v4_34 : Int32) (L_34 : Int32 → Int32 → Prop) : Nat → Int32 → Int32 → Prop
  | 0, _, _ => False
  | n + 1, v5_47, v6_47 => wb_X12_turn_47 p2 seats_25 v3_34 v4_34 L_34 (wl_X12_turn_47 p2 seats_25 v3_34 v4_34 L_34 n) v5_47 v6_47
def wb_X12_turn_34 (p2 : Int32) (Q : Int32 → (Nat → Int32) → Prop) (seats_25 : Nat → Int32) (L_34 : Int32 → Int32 → Prop) (v3_34 : Int32) (v4_34 : Int32) : Prop := (((nI 64) ≤ v4_34 → (Q v3_34 seats_25)) ∧ (¬ (nI 64) ≤ v4_34 → (∃ n, wl_X12_turn_47 p2 seats_25 v3_34 v4_34 L_34 n (nI 0) (nI 0))))
def wl_X12_turn_34 (p2 : Int32) (Q : Int32 → (Nat → Int32) → Prop) (seats_25 : Nat → Int32) : Nat → Int32 → Int32 → Prop
  | 0, _, _ => False
  | n + 1, v3_34, v4_34 => wb_X12_turn_34 p2 Q seats_25 (wl_X12_turn_34 p2 Q seats_25 n) v3_34 v4_34
def wp_X12_turn (p1 : Int32) (p2 : Int32) (k_s : Nat → Int32) (k_seats : Nat → Int32) (Q : Int32 → (Nat → Int32) → Prop) : Prop := ((((f_X12_in p1 (nI 1) (nI 60)) = 0 ∨ (f_X12_in p2 (nI 1) (nI 60)) = 0) → (Q (-2) k_seats)) ∧ (¬ (((f_X12_in p1 (nI 1) (nI 60)) = 0 ∨ (f_X12_in p2 (nI 1) (nI 60)) = 0)) → (wp_X12_seats p1 k_s k_seats (fun (seats_25 : Nat → Int32) => (∃ n, wl_X12_turn_34 p2 Q seats_25 n (-5) (nI 0))))))
set_option maxHeartbeats 4000000 in
set_option maxRecDepth 100000 in
theorem c_X12_turn {l : Launch} {D : va_G} {cI cZ cJ : ClassId} {h : Nat} {ad : Nat → Nat} {sz : Nat} {k_thrown : Int32} {k_s : Nat → Int32} {k_image : Nat → Int32} {k_hasImage : Int32} {k_steps : Nat → Int32} {k_read : Int32} {k_spot : Int32} {k_isWrong : Int32} {k_open : Int32} {k_act : Int32} {k_letBy : Nat → Int32} {k_letStamp : Nat → Int32} {k_stamp : Int32} {k_fallen : Nat → Int32} {k_held : Nat → Int32} {k_stands : Nat → Int32} {k_falling : Nat → Int32} {k_away : Nat → Int32} {k_round : Nat → Int32} {k_rests : Nat → Int64} {k_may : Nat → Int32} {k_next : Nat → Int32} {k_could : Nat → Int32} {k_couldNight : Nat → Int32} {k_night : Int32} {k_seats : Nat → Int32} {p1 : Int32} {p2 : Int32} {Q : Int32 → (Nat → Int32) → Prop} (hw : wp_X12_turn p1 p2 k_s k_seats Q) : Met l yX12_turn (Cond.code yX12_turn cX12_turn 7 (some .int) :: wsG) ({ frames := 1, cells := 0, slots := 0, locals := 26 } : Room) (preW D (tyM cI cZ cJ) (wM cI cZ cJ h ad k_thrown k_s k_image k_hasImage k_steps k_read k_spot k_isWrong k_open k_act k_letBy k_letStamp k_stamp k_fallen k_held k_stands k_falling k_away k_round k_rests k_may k_next k_could k_couldNight k_night k_seats) sz [.ref h, .int p1, .int p2]) (qi1 D (tyM cI cZ cJ) (va_A (wM cI cZ cJ h ad k_thrown k_s k_image k_hasImage k_steps k_read k_spot k_isWrong k_open k_act k_letBy k_letStamp k_stamp k_fallen k_held k_stands k_falling k_away k_round k_rests k_may k_next k_could k_couldNight k_night k_seats) sz) Q (fun k_seats' => (wM cI cZ cJ h ad k_thrown k_s k_image k_hasImage k_steps k_read k_spot k_isWrong k_open k_act k_letBy k_letStamp k_stamp k_fallen k_held k_stands k_falling k_away k_round k_rests k_may k_next k_could k_couldNight k_night k_seats'))) 0 0 (va_A (wM cI cZ cJ h ad k_thrown k_s k_image k_hasImage k_steps k_read k_spot k_isWrong k_open k_act k_letBy k_letStamp k_stamp k_fallen k_held k_stands k_falling k_away k_round k_rests k_may k_next k_could k_couldNight k_night k_seats) sz) := by
  refine st_met (cc := cX12_turn) (maxL := 7) (ret := (some .int)) (lv := [(0, .ref h), (1, .int p1), (2, .int p2)]) (Qc := fun A => qi1 D (tyM cI cZ cJ) A Q (fun k_seats' => (wM cI cZ cJ h ad k_thrown k_s k_image k_hasImage k_steps k_read k_spot k_isWrong k_open k_act k_letBy k_letStamp k_stamp k_fallen k_held k_stands k_falling k_away k_round k_rests k_may k_next k_could k_couldNight k_night k_seats'))) (by decide) rfl (Nat.le_of_ble_eq_true rfl) rfl ?_
  intro p e s m below meth c ls A R args QQ H locs C hr hlk hnm hK hX hsz hl hO hR hQQ
  have hx := C.1
  have hb := C.2.1
  have hown := C.2.2.2.1
  have hts := C.2.2.2.2
  have hin : ∀ w ∈ u_ws RX12 TX12 26, w ∈ (Cond.code yX12_turn cX12_turn 7 (some .int) :: wsG) := fun w h9 => List.mem_cons_of_mem _ (inG12 w h9)
  have lk_seats := hts (Cond.fieldLink RX12 68 "FreeCityModel" "seats" "[I") (List.mem_cons_of_mem _ qw5_231)
  unfold wp_X12_turn at hw
  refine lv_iload_n hx hb dX12_turn_0 rfl (lv_at hl 1 rfl) ?_
  refine lv_iconst (v := (nI 1)) hx hb dX12_turn_1 (by decide) ?_
  refine lv_bipush (v := (nI 60)) hx hb dX12_turn_2 (by decide) ?_
  refine cSi0 (As := [.int p1, .int (nI 1), .int (nI 60)]) (rest := []) C hK hX hO (c_X12_in (l := l)) (va_cwS 3 hts gd_X12_74 rfl rfl rfl hd_X12_in (rok hR (Nat.le_of_ble_eq_true rfl) (Nat.le_of_ble_eq_true rfl))) rfl hl.1 rfl (Nat.le_of_ble_eq_true rfl) dX12_turn_4 ⟨Nat.zero_le _, Nat.zero_le _⟩ (fun r_4 H locs e_4 hO => ?_)
  subst e_4
  have a_20 : ((f_X12_in p1 (nI 1) (nI 60)) = 0 ∨ (f_X12_in p2 (nI 1) (nI 60)) = 0) → ∀ (H : Heap) (locs : List Loc) (ls : Array Slot), okW D A s.heap H locs (wM cI cZ cJ h ad k_thrown k_s k_image k_hasImage k_steps k_read k_spot k_isWrong k_open k_act k_letBy k_letStamp k_stamp k_fallen k_held k_stands k_falling k_away k_round k_rests k_may k_next k_could k_couldNight k_night k_seats) → lv_has ls 7 [] → W p l e R s m args below meth c H locs 0 0 QQ (F0 m 20 ls []) := by
    intro cf H locs ls hO hl
    have hw := hw.1 cf
    refine lv_bipush (v := (-2)) hx hb dX12_turn_20 (by decide) ?_
    exact ri1 hQQ hx hb hr hlk hK hO hw dX12_turn_22
  have a_23 : ¬ (((f_X12_in p1 (nI 1) (nI 60)) = 0 ∨ (f_X12_in p2 (nI 1) (nI 60)) = 0)) → ∀ (H : Heap) (locs : List Loc) (ls : Array Slot), okW D A s.heap H locs (wM cI cZ cJ h ad k_thrown k_s k_image k_hasImage k_steps k_read k_spot k_isWrong k_open k_act k_letBy k_letStamp k_stamp k_fallen k_held k_stands k_falling k_away k_round k_rests k_may k_next k_could k_couldNight k_night k_seats) → lv_has ls 7 [(0, .ref h), (1, .int p1), (2, .int p2)] → W p l e R s m args below meth c H locs 0 0 QQ (F0 m 23 ls []) := by
    intro cf H locs ls hO hl
    have hw := hw.2 cf
    refine lv_aload_n hx hb dX12_turn_23 rfl (lv_at hl 0 rfl) ?_
    refine lv_iload_n hx hb dX12_turn_24 rfl (lv_at hl 1 rfl) ?_
    refine cVv1 (As := [.int p1]) (rest := []) C hK hX hO (c_X12_seats (l := l) hw) (cwV 1 hts gd_X12_247 rfl rfl rfl hd_X12_seats (rok hR (Nat.le_of_ble_eq_true rfl) (Nat.le_of_ble_eq_true rfl))) (ci := 12) (q0 := 0) rfl rfl rfl rfl hl.1 rfl (Nat.le_of_ble_eq_true rfl) dX12_turn_25 ⟨Nat.zero_le _, Nat.zero_le _⟩ (fun seats_25 H locs hw hO => ?_)
    refine lv_bipush (v := (-5)) hx hb dX12_turn_28 (by decide) ?_
    refine lv_istore_n (lv' := [(3, .int (-5)), (0, .ref h), (1, .int p1), (2, .int p2)]) hx hb dX12_turn_30 rfl hl (by decide) rfl (fun ls hl => ?_)
    refine lv_iconst (v := (nI 0)) hx hb dX12_turn_31 (by decide) ?_
    refine lv_istore (lv' := [(4, .int (nI 0)), (3, .int (-5)), (0, .ref h), (1, .int p1), (2, .int p2)]) hx hb dX12_turn_32 hl (by decide) rfl (fun ls hl => ?_)
    obtain ⟨n_34, hw⟩ := hw
    have b_34 : ∀ (L_34 : Int32 → Int32 → Prop) (ih_34 : ∀ (v3_34 : Int32) (v4_34 : Int32) (H : Heap) (locs : List Loc) (ls : Array Slot), okW D A s.heap H locs (wM cI cZ cJ h ad k_thrown k_s k_image k_hasImage k_steps k_read k_spot k_isWrong k_open k_act k_letBy k_letStamp k_stamp k_fallen k_held k_stands k_falling k_away k_round k_rests k_may k_next k_could k_couldNight k_night seats_25) → lv_has ls 7 [(0, .ref h), (2, .int p2), (3, .int v3_34), (4, .int v4_34)] → L_34 v3_34 v4_34 → W p l e R s m args below meth c H locs 0 0 QQ (F0 m 34 ls [])) (v3_34 : Int32) (v4_34 : Int32) (H : Heap) (locs : List Loc) (ls : Array Slot), okW D A s.heap H locs (wM cI cZ cJ h ad k_thrown k_s k_image k_hasImage k_steps k_read k_spot k_isWrong k_open k_act k_letBy k_letStamp k_stamp k_fallen k_held k_stands k_falling k_away k_round k_rests k_may k_next k_could k_couldNight k_night seats_25) → lv_has ls 7 [(0, .ref h), (2, .int p2), (3, .int v3_34), (4, .int v4_34)] → wb_X12_turn_34 p2 Q seats_25 L_34 v3_34 v4_34 → W p l e R s m args below meth c H locs 0 0 QQ (F0 m 34 ls []) := by
      intro L_34 ih_34 v3_34 v4_34 H locs ls hO hl hw
      unfold wb_X12_turn_34 at hw
      refine lv_iload hx hb dX12_turn_34 (lv_at hl 3 rfl) ?_
      refine lv_bipush (v := (nI 64)) hx hb dX12_turn_36 (by decide) ?_
      refine lv_icmp_ge (tgt := 124) hx hb dX12_turn_38 (by decide) (fun q_38 => ?_) (fun q_38 => ?_)
      · have hw := hw.1 q_38
        refine lv_iload_n hx hb dX12_turn_124 rfl (lv_at hl 2 rfl) ?_
        exact ri1 hQQ hx hb hr hlk hK hO hw dX12_turn_125
      · have hw := hw.2 q_38
        refine lv_iconst (v := (nI 0)) hx hb dX12_turn_41 (by decide) ?_
        refine lv_istore (lv' := [(5, .int (nI 0)), (0, .ref h), (2, .int p2), (3, .int v3_34), (4, .int v4_34)]) hx hb dX12_turn_42 hl (by decide) rfl (fun ls hl => ?_)
        refine lv_iconst (v := (nI 0)) hx hb dX12_turn_44 (by decide) ?_
        refine lv_istore (lv' := [(6, .int (nI 0)), (5, .int (nI 0)), (0, .ref h), (2, .int p2), (3, .int v3_34), (4, .int v4_34)]) hx hb dX12_turn_45 hl (by decide) rfl (fun ls hl => ?_)
        obtain ⟨n_47, hw⟩ := hw
        have b_47 : ∀ (L_47 : Int32 → Int32 → Prop) (ih_47 : ∀ (v5_47 : Int32) (v6_47 : Int32) (H : Heap) (locs : List Loc) (ls : Array Slot), okW D A s.heap H locs (wM cI cZ cJ h ad k_thrown k_s k_image k_hasImage k_steps k_read k_spot k_isWrong k_open k_act k_letBy k_letStamp k_stamp k_fallen k_held k_stands k_falling k_away k_round k_rests k_may k_next k_could k_couldNight k_night seats_25) → lv_has ls 7 [(0, .ref h), (2, .int p2), (3, .int v3_34), (4, .int v4_34), (5, .int v5_47), (6, .int v6_47)] → L_47 v5_47 v6_47 → W p l e R s m args below meth c H locs 0 0 QQ (F0 m 47 ls [])) (v5_47 : Int32) (v6_47 : Int32) (H : Heap) (locs : List Loc) (ls : Array Slot), okW D A s.heap H locs (wM cI cZ cJ h ad k_thrown k_s k_image k_hasImage k_steps k_read k_spot k_isWrong k_open k_act k_letBy k_letStamp k_stamp k_fallen k_held k_stands k_falling k_away k_round k_rests k_may k_next k_could k_couldNight k_night seats_25) → lv_has ls 7 [(0, .ref h), (2, .int p2), (3, .int v3_34), (4, .int v4_34), (5, .int v5_47), (6, .int v6_47)] → wb_X12_turn_47 p2 seats_25 v3_34 v4_34 L_34 L_47 v5_47 v6_47 → W p l e R s m args below meth c H locs 0 0 QQ (F0 m 47 ls []) := by
          intro L_47 ih_47 v5_47 v6_47 H locs ls hO hl hw
          unfold wb_X12_turn_47 at hw
          refine lv_iload hx hb dX12_turn_47 (lv_at hl 5 rfl) ?_
          refine lv_bipush (v := (nI 6)) hx hb dX12_turn_49 (by decide) ?_
          refine lv_icmp_ge (tgt := 87) hx hb dX12_turn_51 (by decide) (fun q_51 => ?_) (fun q_51 => ?_)
          · have hw := hw.1 q_51
            refine lv_iload hx hb dX12_turn_87 (lv_at hl 4 rfl) ?_
            refine lv_iload_n hx hb dX12_turn_89 rfl (lv_at hl 1 rfl) ?_
            have j_117 : ∀ (t0_117 : Int32) (H : Heap) (locs : List Loc) (ls : Array Slot), okW D A s.heap H locs (wM cI cZ cJ h ad k_thrown k_s k_image k_hasImage k_steps k_read k_spot k_isWrong k_open k_act k_letBy k_letStamp k_stamp k_fallen k_held k_stands k_falling k_away k_round k_rests k_may k_next k_could k_couldNight k_night seats_25) → lv_has ls 7 [(0, .ref h), (2, .int p2), (4, .int v4_34)] → wk_X12_turn_117 v4_34 L_34 t0_117 → W p l e R s m args below meth c H locs 0 0 QQ (F0 m 117 ls [.int t0_117]) := by
              intro t0_117 H locs ls hO hl hw
              unfold wk_X12_turn_117 at hw
              refine lv_istore_n (lv' := [(3, .int t0_117), (0, .ref h), (2, .int p2), (4, .int v4_34)]) hx hb dX12_turn_117 rfl hl (by decide) rfl (fun ls hl => ?_)
              refine lv_iinc (v := (v4_34 + (nI 1))) (lv' := [(4, .int (v4_34 + (nI 1))), (3, .int t0_117), (0, .ref h), (2, .int p2)]) hx hb dX12_turn_118 hl (k := 3) rfl (iinc_1 _) (by decide) rfl (fun ls hl => ?_)
              refine lv_goto (tgt := 34) hx hb dX12_turn_121 (by decide) ?_
              exact ih_34 t0_117 (v4_34 + (nI 1)) _ _ _ hO (lv_sub hl [2, 3, 1, 0] rfl) hw
            have j_116 : ∀  (H : Heap) (locs : List Loc) (ls : Array Slot), okW D A s.heap H locs (wM cI cZ cJ h ad k_thrown k_s k_image k_hasImage k_steps k_read k_spot k_isWrong k_open k_act k_letBy k_letStamp k_stamp k_fallen k_held k_stands k_falling k_away k_round k_rests k_may k_next k_could k_couldNight k_night seats_25) → lv_has ls 7 [(0, .ref h), (2, .int p2), (3, .int v3_34), (4, .int v4_34)] → wk_X12_turn_116 v3_34 v4_34 L_34  → W p l e R s m args below meth c H locs 0 0 QQ (F0 m 116 ls []) := by
              intro  H locs ls hO hl hw
              unfold wk_X12_turn_116 at hw
              refine lv_iload_n hx hb dX12_turn_116 rfl (lv_at hl 2 rfl) ?_
              exact j_117 v3_34 _ _ _ hO (lv_sub hl [0, 1, 3] rfl) hw
            refine lv_icmp_lt (tgt := 116) hx hb dX12_turn_90 (by decide) (fun q_90 => ?_) (fun q_90 => ?_)
            · have hw := hw.1 q_90
              exact j_116  _ _ _ hO (lv_sub hl [0, 1, 2, 3] rfl) hw
            · have hw := hw.2 q_90
              refine lv_iload_n hx hb dX12_turn_93 rfl (lv_at hl 2 rfl) ?_
              refine lv_bipush (v := (-5)) hx hb dX12_turn_94 (by decide) ?_
              have j_111 : ∀  (H : Heap) (locs : List Loc) (ls : Array Slot), okW D A s.heap H locs (wM cI cZ cJ h ad k_thrown k_s k_image k_hasImage k_steps k_read k_spot k_isWrong k_open k_act k_letBy k_letStamp k_stamp k_fallen k_held k_stands k_falling k_away k_round k_rests k_may k_next k_could k_couldNight k_night seats_25) → lv_has ls 7 [(0, .ref h), (2, .int p2), (4, .int v4_34)] → wk_X12_turn_111 v4_34 L_34  → W p l e R s m args below meth c H locs 0 0 QQ (F0 m 111 ls []) := by
                intro  H locs ls hO hl hw
                unfold wk_X12_turn_111 at hw
                refine lv_iload hx hb dX12_turn_111 (lv_at hl 2 rfl) ?_
                refine lv_goto (tgt := 117) hx hb dX12_turn_113 (by decide) ?_
                exact j_117 v4_34 _ _ _ hO (lv_sub hl [0, 1, 2] rfl) hw
              refine lv_icmp_eq (tgt := 111) hx hb dX12_turn_96 (by decide) (fun q_96 => ?_) (fun q_96 => ?_)
              · have hw := hw.1 q_96
                exact j_111  _ _ _ hO (lv_sub hl [0, 1, 3] rfl) hw
              · have hw := hw.2 q_96
                refine lv_iload hx hb dX12_turn_99 (lv_at hl 3 rfl) ?_
                refine cSi0 (As := [.int v4_34]) (rest := []) C hK hX hO (c_X12_many (l := l) hw) (va_cwS 1 hts gd_X12_243 rfl rfl rfl hd_X12_many (rok hR (Nat.le_of_ble_eq_true rfl) (Nat.le_of_ble_eq_true rfl))) rfl hl.1 rfl (Nat.le_of_ble_eq_true rfl) dX12_turn_101 ⟨Nat.zero_le _, Nat.zero_le _⟩ (fun r_101 H locs hw hO => ?_)
                refine lv_iload_n hx hb dX12_turn_104 rfl (lv_at hl 2 rfl) ?_
                refine cSi0 (As := [.int v3_34]) (rest := [.int r_101]) C hK hX hO (c_X12_many (l := l) hw) (va_cwS 1 hts gd_X12_243 rfl rfl rfl hd_X12_many (rok hR (Nat.le_of_ble_eq_true rfl) (Nat.le_of_ble_eq_true rfl))) rfl hl.1 rfl (Nat.le_of_ble_eq_true rfl) dX12_turn_105 ⟨Nat.zero_le _, Nat.zero_le _⟩ (fun r_105 H locs hw hO => ?_)
                have m_117 : ∀ (y0_117 : Int32) (H : Heap) (locs : List Loc) (ls : Array Slot), y0_117 = (if r_105 ≤ r_101 then v3_34 else v4_34) → okW D A s.heap H locs (wM cI cZ cJ h ad k_thrown k_s k_image k_hasImage k_steps k_read k_spot k_isWrong k_open k_act k_letBy k_letStamp k_stamp k_fallen k_held k_stands k_falling k_away k_round k_rests k_may k_next k_could k_couldNight k_night seats_25) → lv_has ls 7 [(0, .ref h), (2, .int p2), (4, .int v4_34)] → W p l e R s m args below meth c H locs 0 0 QQ (F0 m 117 ls [.int y0_117]) := by
                  intro y0_117 H locs ls ey0_117 hO hl
                  have hw := hw y0_117 ey0_117
                  exact j_117 y0_117 _ _ _ hO (lv_sub hl [0, 1, 2] rfl) hw
                refine lv_icmp_ge (tgt := 116) hx hb dX12_turn_108 (by decide) (fun q_108 => ?_) (fun q_108 => ?_)
                · refine lv_iload_n hx hb dX12_turn_116 rfl (lv_at hl 2 rfl) ?_
                  have hl := lv_sub hl [0, 1, 3] rfl (l' := [(0, .ref h), (2, .int p2), (4, .int v4_34)])
                  exact m_117 _ _ _ _ (by rw [if_pos q_108]) hO hl
                · refine lv_iload hx hb dX12_turn_111 (lv_at hl 3 rfl) ?_
                  refine lv_goto (tgt := 117) hx hb dX12_turn_113 (by decide) ?_
                  have hl := lv_sub hl [0, 1, 3] rfl (l' := [(0, .ref h), (2, .int p2), (4, .int v4_34)])
                  exact m_117 _ _ _ _ (by rw [if_neg q_108]) hO hl
          · have hw := hw.2 q_51
            refine lv_iload hx hb dX12_turn_54 (lv_at hl 4 rfl) ?_
            refine lv_iload hx hb dX12_turn_56 (lv_at hl 3 rfl) ?_
            refine lv_iload hx hb dX12_turn_58 (lv_at hl 5 rfl) ?_
            refine lv_ishr hx hb dX12_turn_60 ?_
            refine lv_iconst (v := (nI 1)) hx hb dX12_turn_61 (by decide) ?_
            refine lv_iand hx hb dX12_turn_62 ?_
            refine lv_iconst (v := (nI 1)) hx hb dX12_turn_63 (by decide) ?_
            obtain ⟨hs, hw⟩ := hw
            have m_78 : ∀ (y1_78 : Int32) (H : Heap) (locs : List Loc) (ls : Array Slot), y1_78 = (if ((v4_34 >>> (v6_47 &&& 31)) &&& (nI 1)) = (nI 1) then (seats_25 (v6_47).toNatClampNeg) else (nI 0)) → okW D A s.heap H locs (wM cI cZ cJ h ad k_thrown k_s k_image k_hasImage k_steps k_read k_spot k_isWrong k_open k_act k_letBy k_letStamp k_stamp k_fallen k_held k_stands k_falling k_away k_round k_rests k_may k_next k_could k_couldNight k_night seats_25) → lv_has ls 7 [(0, .ref h), (2, .int p2), (3, .int v3_34), (4, .int v4_34), (6, .int v6_47)] → W p l e R s m args below meth c H locs 0 0 QQ (F0 m 78 ls [.int y1_78, .int v5_47]) := by
              intro y1_78 H locs ls ey1_78 hO hl
              have hw := hw y1_78 ey1_78
              refine lv_iadd hx hb dX12_turn_78 ?_
              refine lv_istore (lv' := [(5, .int (v5_47 + y1_78)), (0, .ref h), (2, .int p2), (3, .int v3_34), (4, .int v4_34), (6, .int v6_47)]) hx hb dX12_turn_79 hl (by decide) rfl (fun ls hl => ?_)
              refine lv_iinc (v := (v6_47 + (nI 1))) (lv' := [(6, .int (v6_47 + (nI 1))), (5, .int (v5_47 + y1_78)), (0, .ref h), (2, .int p2), (3, .int v3_34), (4, .int v4_34)]) hx hb dX12_turn_81 hl (k := 5) rfl (iinc_1 _) (by decide) rfl (fun ls hl => ?_)
              refine lv_goto (tgt := 47) hx hb dX12_turn_84 (by decide) ?_
              exact ih_47 (v5_47 + y1_78) (v6_47 + (nI 1)) _ _ _ hO (lv_sub hl [2, 3, 4, 5, 1, 0] rfl) hw
            refine lv_icmp_ne (tgt := 77) hx hb dX12_turn_64 (by decide) (fun q_64 => ?_) (fun q_64 => ?_)
            · refine lv_iconst (v := (nI 0)) hx hb dX12_turn_77 (by decide) ?_
              have hl := lv_sub hl [0, 1, 2, 3, 5] rfl (l' := [(0, .ref h), (2, .int p2), (3, .int v3_34), (4, .int v4_34), (6, .int v6_47)])
              exact m_78 _ _ _ _ (by rw [if_neg q_64]) hO hl
            · have hs := hs q_64
              have o_73 := hs
              refine lv_aload_n hx hb dX12_turn_67 rfl (lv_at hl 0 rfl) ?_
              refine gM_seats C hin hK lk_seats hO dX12_turn_68 ?_
              refine lv_iload hx hb dX12_turn_71 (lv_at hl 5 rfl) ?_
              refine ldM_seats C hK hO o_73 rfl dX12_turn_73 ?_
              refine lv_goto (tgt := 78) hx hb dX12_turn_74 (by decide) ?_
              have hl := lv_sub hl [0, 1, 2, 3, 5] rfl (l' := [(0, .ref h), (2, .int p2), (3, .int v3_34), (4, .int v4_34), (6, .int v6_47)])
              exact m_78 _ _ _ _ (by rw [if_pos q_64]) hO hl
        have l_47 : ∀ (n : Nat) (v5_47 : Int32) (v6_47 : Int32) (H : Heap) (locs : List Loc) (ls : Array Slot), okW D A s.heap H locs (wM cI cZ cJ h ad k_thrown k_s k_image k_hasImage k_steps k_read k_spot k_isWrong k_open k_act k_letBy k_letStamp k_stamp k_fallen k_held k_stands k_falling k_away k_round k_rests k_may k_next k_could k_couldNight k_night seats_25) → lv_has ls 7 [(0, .ref h), (2, .int p2), (3, .int v3_34), (4, .int v4_34), (5, .int v5_47), (6, .int v6_47)] → wl_X12_turn_47 p2 seats_25 v3_34 v4_34 L_34 n v5_47 v6_47 → W p l e R s m args below meth c H locs 0 0 QQ (F0 m 47 ls []) := by
          intro n
          induction n with
          | zero => intro v5_47 v6_47 H locs ls hO hl hw; exact False.elim hw
          | succ n ih => exact b_47 _ ih
        exact l_47 n_47 (nI 0) (nI 0) _ _ _ hO (lv_sub hl [2, 3, 4, 5, 1, 0] rfl) hw
    have l_34 : ∀ (n : Nat) (v3_34 : Int32) (v4_34 : Int32) (H : Heap) (locs : List Loc) (ls : Array Slot), okW D A s.heap H locs (wM cI cZ cJ h ad k_thrown k_s k_image k_hasImage k_steps k_read k_spot k_isWrong k_open k_act k_letBy k_letStamp k_stamp k_fallen k_held k_stands k_falling k_away k_round k_rests k_may k_next k_could k_couldNight k_night seats_25) → lv_has ls 7 [(0, .ref h), (2, .int p2), (3, .int v3_34), (4, .int v4_34)] → wl_X12_turn_34 p2 Q seats_25 n v3_34 v4_34 → W p l e R s m args below meth c H locs 0 0 QQ (F0 m 34 ls []) := by
      intro n
      induction n with
      | zero => intro v3_34 v4_34 H locs ls hO hl hw; exact False.elim hw
      | succ n ih => exact b_34 _ ih
    exact l_34 n_34 (-5) (nI 0) _ _ _ hO (lv_sub hl [2, 4, 1, 0] rfl) hw
  refine lv_if_eq (tgt := 20) hx hb dX12_turn_7 (by decide) (fun q_7 => ?_) (fun q_7 => ?_)
  · have hl := lv_sub hl [] rfl (l' := [])
    exact a_20 (Or.inl q_7) _ _ _ hO hl
  · refine lv_iload_n hx hb dX12_turn_10 rfl (lv_at hl 2 rfl) ?_
    refine lv_iconst (v := (nI 1)) hx hb dX12_turn_11 (by decide) ?_
    refine lv_bipush (v := (nI 60)) hx hb dX12_turn_12 (by decide) ?_
    refine cSi0 (As := [.int p2, .int (nI 1), .int (nI 60)]) (rest := []) C hK hX hO (c_X12_in (l := l)) (va_cwS 3 hts gd_X12_74 rfl rfl rfl hd_X12_in (rok hR (Nat.le_of_ble_eq_true rfl) (Nat.le_of_ble_eq_true rfl))) rfl hl.1 rfl (Nat.le_of_ble_eq_true rfl) dX12_turn_14 ⟨Nat.zero_le _, Nat.zero_le _⟩ (fun r_14 H locs e_14 hO => ?_)
    subst e_14
    refine lv_if_ne (tgt := 23) hx hb dX12_turn_17 (by decide) (fun q_17 => ?_) (fun q_17 => ?_)
    · have hl := lv_sub hl [0, 1, 2] rfl (l' := [(0, .ref h), (1, .int p1), (2, .int p2)])
      exact a_23 (fun h => h.elim q_7 q_17) _ _ _ hO hl
    · have hl := lv_sub hl [] rfl (l' := [])
      exact a_20 (Or.inr q_17) _ _ _ hO hl
def wp_X12_say (p1 : Int32) (p2 : Int32) (p3 : Int32) (p4 : Int32) (p5 : Int32) (p6 : Int32) (k_s : Nat → Int32) (Q : Int32 → (Nat → Int32) → Prop) : Prop := ((((f_X12_isPerson p1) = 0 ∨ ((f_X12_in p3 (nI 0) (nI 7)) = 0 ∨ (f_X12_in p5 (-1) (nI 7)) = 0)) → (Q (-1) k_s)) ∧ (¬ (((f_X12_isPerson p1) = 0 ∨ ((f_X12_in p3 (nI 0) (nI 7)) = 0 ∨ (f_X12_in p5 (-1) (nI 7)) = 0))) → ((¬ (f_X12_isDay p2) = 0 → ((¬ (k_s 7) = (nI 20) → (vp_in ((nI 460) + (k_s 7)) 6700 ∧ (vp_in ((nI 480) + (k_s 7)) 6700 ∧ (∀ y2_108 : Int32, y2_108 = (if p4 = 0 then (nI 0) else (nI 1)) → (vp_in ((nI 500) + (k_s 7)) 6700 ∧ (vp_in ((nI 520) + (k_s 7)) 6700 ∧ (∀ y2_142 : Int32, y2_142 = (if p6 = 0 then (nI 0) else (nI 1)) → (vp_in ((nI 540) + (k_s 7)) 6700 ∧ (Q ((upd (upd (upd (upd (upd (upd k_s ((((nI 460) + (k_s 7))).toNatClampNeg) p2) ((((nI 480) + (k_s 7))).toNatClampNeg) p3) ((((nI 500) + (k_s 7))).toNatClampNeg) y2_108) ((((nI 520) + (k_s 7))).toNatClampNeg) p5) ((((nI 540) + (k_s 7))).toNatClampNeg) y2_142) 7 (((upd (upd (upd (upd (upd k_s ((((nI 460) + (k_s 7))).toNatClampNeg) p2) ((((nI 480) + (k_s 7))).toNatClampNeg) p3) ((((nI 500) + (k_s 7))).toNatClampNeg) y2_108) ((((nI 520) + (k_s 7))).toNatClampNeg) p5) ((((nI 540) + (k_s 7))).toNatClampNeg) y2_142) 7) + (nI 1))) 7) (upd (upd (upd (upd (upd (upd k_s ((((nI 460) + (k_s 7))).toNatClampNeg) p2) ((((nI 480) + (k_s 7))).toNatClampNeg) p3) ((((nI 500) + (k_s 7))).toNatClampNeg) y2_108) ((((nI 520) + (k_s 7))).toNatClampNeg) p5) ((((nI 540) + (k_s 7))).toNatClampNeg) y2_142) 7 (((upd (upd (upd (upd (upd k_s ((((nI 460) + (k_s 7))).toNatClampNeg) p2) ((((nI 480) + (k_s 7))).toNatClampNeg) p3) ((((nI 500) + (k_s 7))).toNatClampNeg) y2_108) ((((nI 520) + (k_s 7))).toNatClampNeg) p5) ((((nI 540) + (k_s 7))).toNatClampNeg) y2_142) 7) + (nI 1)))))))))))) ∧ ((k_s 7) = (nI 20) → (Q (-4) k_s)))) ∧ ((f_X12_isDay p2) = 0 → (Q (-2) k_s)))))
set_option maxHeartbeats 4000000 in
set_option maxRecDepth 100000 in
theorem c_X12_say {l : Launch} {D : va_G} {cI cZ cJ : ClassId} {h : Nat} {ad : Nat → Nat} {sz : Nat} {k_thrown : Int32} {k_s : Nat → Int32} {k_image : Nat → Int32} {k_hasImage : Int32} {k_steps : Nat → Int32} {k_read : Int32} {k_spot : Int32} {k_isWrong : Int32} {k_open : Int32} {k_act : Int32} {k_letBy : Nat → Int32} {k_letStamp : Nat → Int32} {k_stamp : Int32} {k_fallen : Nat → Int32} {k_held : Nat → Int32} {k_stands : Nat → Int32} {k_falling : Nat → Int32} {k_away : Nat → Int32} {k_round : Nat → Int32} {k_rests : Nat → Int64} {k_may : Nat → Int32} {k_next : Nat → Int32} {k_could : Nat → Int32} {k_couldNight : Nat → Int32} {k_night : Int32} {k_seats : Nat → Int32} {p1 : Int32} {p2 : Int32} {p3 : Int32} {p4 : Int32} {p5 : Int32} {p6 : Int32} {Q : Int32 → (Nat → Int32) → Prop} (hw : wp_X12_say p1 p2 p3 p4 p5 p6 k_s Q) : Met l yX12_say (Cond.code yX12_say cX12_say 8 (some .int) :: wsG) ({ frames := 2, cells := 0, slots := 0, locals := 42 } : Room) (preW D (tyM cI cZ cJ) (wM cI cZ cJ h ad k_thrown k_s k_image k_hasImage k_steps k_read k_spot k_isWrong k_open k_act k_letBy k_letStamp k_stamp k_fallen k_held k_stands k_falling k_away k_round k_rests k_may k_next k_could k_couldNight k_night k_seats) sz [.ref h, .int p1, .int p2, .int p3, .int p4, .int p5, .int p6]) (qi1 D (tyM cI cZ cJ) (va_A (wM cI cZ cJ h ad k_thrown k_s k_image k_hasImage k_steps k_read k_spot k_isWrong k_open k_act k_letBy k_letStamp k_stamp k_fallen k_held k_stands k_falling k_away k_round k_rests k_may k_next k_could k_couldNight k_night k_seats) sz) Q (fun k_s' => (wM cI cZ cJ h ad k_thrown k_s' k_image k_hasImage k_steps k_read k_spot k_isWrong k_open k_act k_letBy k_letStamp k_stamp k_fallen k_held k_stands k_falling k_away k_round k_rests k_may k_next k_could k_couldNight k_night k_seats))) 0 0 (va_A (wM cI cZ cJ h ad k_thrown k_s k_image k_hasImage k_steps k_read k_spot k_isWrong k_open k_act k_letBy k_letStamp k_stamp k_fallen k_held k_stands k_falling k_away k_round k_rests k_may k_next k_could k_couldNight k_night k_seats) sz) := by
  refine st_met (cc := cX12_say) (maxL := 8) (ret := (some .int)) (lv := [(0, .ref h), (1, .int p1), (2, .int p2), (3, .int p3), (4, .int p4), (5, .int p5), (6, .int p6)]) (Qc := fun A => qi1 D (tyM cI cZ cJ) A Q (fun k_s' => (wM cI cZ cJ h ad k_thrown k_s' k_image k_hasImage k_steps k_read k_spot k_isWrong k_open k_act k_letBy k_letStamp k_stamp k_fallen k_held k_stands k_falling k_away k_round k_rests k_may k_next k_could k_couldNight k_night k_seats))) (by decide) rfl (Nat.le_of_ble_eq_true rfl) rfl ?_
  intro p e s m below meth c ls A R args QQ H locs C hr hlk hnm hK hX hsz hl hO hR hQQ
  have hx := C.1
  have hb := C.2.1
  have hown := C.2.2.2.1
  have hts := C.2.2.2.2
  have hin : ∀ w ∈ u_ws RX12 TX12 26, w ∈ (Cond.code yX12_say cX12_say 8 (some .int) :: wsG) := fun w h9 => List.mem_cons_of_mem _ (inG12 w h9)
  have lk_s := hts (Cond.fieldLink RX12 7 "FreeCityModel" "s" "[I") (List.mem_cons_of_mem _ qw5_207)
  unfold wp_X12_say at hw
  refine lv_iload_n hx hb dX12_say_0 rfl (lv_at hl 1 rfl) ?_
  refine cSi0 (As := [.int p1]) (rest := []) C hK hX hO (c_X12_isPerson (l := l)) (va_cwS 1 hts gd_X12_231 rfl rfl rfl hd_X12_isPerson (rok hR (Nat.le_of_ble_eq_true rfl) (Nat.le_of_ble_eq_true rfl))) rfl hl.1 rfl (Nat.le_of_ble_eq_true rfl) dX12_say_1 ⟨Nat.zero_le _, Nat.zero_le _⟩ (fun r_1 H locs e_1 hO => ?_)
  subst e_1
  have a_28 : ((f_X12_isPerson p1) = 0 ∨ ((f_X12_in p3 (nI 0) (nI 7)) = 0 ∨ (f_X12_in p5 (-1) (nI 7)) = 0)) → ∀ (H : Heap) (locs : List Loc) (ls : Array Slot), okW D A s.heap H locs (wM cI cZ cJ h ad k_thrown k_s k_image k_hasImage k_steps k_read k_spot k_isWrong k_open k_act k_letBy k_letStamp k_stamp k_fallen k_held k_stands k_falling k_away k_round k_rests k_may k_next k_could k_couldNight k_night k_seats) → lv_has ls 8 [] → W p l e R s m args below meth c H locs 0 0 QQ (F0 m 28 ls []) := by
    intro cf H locs ls hO hl
    have hw := hw.1 cf
    refine lv_iconst (v := (-1)) hx hb dX12_say_28 (by decide) ?_
    exact ri1 hQQ hx hb hr hlk hK hO hw dX12_say_29
  have a_30 : ¬ (((f_X12_isPerson p1) = 0 ∨ ((f_X12_in p3 (nI 0) (nI 7)) = 0 ∨ (f_X12_in p5 (-1) (nI 7)) = 0))) → ∀ (H : Heap) (locs : List Loc) (ls : Array Slot), okW D A s.heap H locs (wM cI cZ cJ h ad k_thrown k_s k_image k_hasImage k_steps k_read k_spot k_isWrong k_open k_act k_letBy k_letStamp k_stamp k_fallen k_held k_stands k_falling k_away k_round k_rests k_may k_next k_could k_couldNight k_night k_seats) → lv_has ls 8 [(0, .ref h), (2, .int p2), (3, .int p3), (4, .int p4), (5, .int p5), (6, .int p6)] → W p l e R s m args below meth c H locs 0 0 QQ (F0 m 30 ls []) := by
    intro cf H locs ls hO hl
    have hw := hw.2 cf
    refine lv_iload_n hx hb dX12_say_30 rfl (lv_at hl 1 rfl) ?_
    refine cSi0 (As := [.int p2]) (rest := []) C hK hX hO (c_X12_isDay (l := l)) (va_cwS 1 hts gd_X12_148 rfl rfl rfl hd_X12_isDay (rok hR (Nat.le_of_ble_eq_true rfl) (Nat.le_of_ble_eq_true rfl))) rfl hl.1 rfl (Nat.le_of_ble_eq_true rfl) dX12_say_31 ⟨Nat.zero_le _, Nat.zero_le _⟩ (fun r_31 H locs e_31 hO => ?_)
    subst e_31
    refine lv_if_ne (tgt := 40) hx hb dX12_say_34 (by decide) (fun q_34 => ?_) (fun q_34 => ?_)
    · have hw := hw.1 q_34
      refine lv_aload_n hx hb dX12_say_40 rfl (lv_at hl 0 rfl) ?_
      refine gM_s C hin hK lk_s hO dX12_say_41 ?_
      refine lv_bipush (v := (nI 7)) hx hb dX12_say_44 (by decide) ?_
      refine ldM_s C hK hO (inK 7 6700 (by decide) (by decide)) (clK 7 (by decide)) dX12_say_46 ?_
      refine lv_bipush (v := (nI 20)) hx hb dX12_say_47 (by decide) ?_
      refine lv_icmp_ne (tgt := 55) hx hb dX12_say_49 (by decide) (fun q_49 => ?_) (fun q_49 => ?_)
      · have hw := hw.1 q_49
        refine lv_aload_n hx hb dX12_say_55 rfl (lv_at hl 0 rfl) ?_
        refine gM_s C hin hK lk_s hO dX12_say_56 ?_
        refine lv_bipush (v := (nI 7)) hx hb dX12_say_59 (by decide) ?_
        refine ldM_s C hK hO (inK 7 6700 (by decide) (by decide)) (clK 7 (by decide)) dX12_say_61 ?_
        refine lv_istore (lv' := [(7, .int (k_s 7)), (0, .ref h), (2, .int p2), (3, .int p3), (4, .int p4), (5, .int p5), (6, .int p6)]) hx hb dX12_say_62 hl (by decide) rfl (fun ls hl => ?_)
        refine lv_aload_n hx hb dX12_say_64 rfl (lv_at hl 1 rfl) ?_
        refine gM_s C hin hK lk_s hO dX12_say_65 ?_
        refine lv_sipush (v := (nI 460)) hx hb dX12_say_68 (by decide) ?_
        refine lv_iload hx hb dX12_say_71 (lv_at hl 0 rfl) ?_
        refine lv_iadd hx hb dX12_say_73 ?_
        refine lv_iload_n hx hb dX12_say_74 rfl (lv_at hl 2 rfl) ?_
        obtain ⟨o_75, hw⟩ := hw
        refine stM_s C hK hO o_75 rfl dX12_say_75 (fun H locs hO => ?_)
        refine lv_aload_n hx hb dX12_say_76 rfl (lv_at hl 1 rfl) ?_
        refine gM_s C hin hK lk_s hO dX12_say_77 ?_
        refine lv_sipush (v := (nI 480)) hx hb dX12_say_80 (by decide) ?_
        refine lv_iload hx hb dX12_say_83 (lv_at hl 0 rfl) ?_
        refine lv_iadd hx hb dX12_say_85 ?_
        refine lv_iload_n hx hb dX12_say_86 rfl (lv_at hl 3 rfl) ?_
        obtain ⟨o_87, hw⟩ := hw
        refine stM_s C hK hO o_87 rfl dX12_say_87 (fun H locs hO => ?_)
        refine lv_aload_n hx hb dX12_say_88 rfl (lv_at hl 1 rfl) ?_
        refine gM_s C hin hK lk_s hO dX12_say_89 ?_
        refine lv_sipush (v := (nI 500)) hx hb dX12_say_92 (by decide) ?_
        refine lv_iload hx hb dX12_say_95 (lv_at hl 0 rfl) ?_
        refine lv_iadd hx hb dX12_say_97 ?_
        refine lv_iload hx hb dX12_say_98 (lv_at hl 4 rfl) ?_
        have m_108 : ∀ (y2_108 : Int32) (H : Heap) (locs : List Loc) (ls : Array Slot), y2_108 = (if p4 = 0 then (nI 0) else (nI 1)) → okW D A s.heap H locs (wM cI cZ cJ h ad k_thrown (upd (upd k_s ((((nI 460) + (k_s 7))).toNatClampNeg) p2) ((((nI 480) + (k_s 7))).toNatClampNeg) p3) k_image k_hasImage k_steps k_read k_spot k_isWrong k_open k_act k_letBy k_letStamp k_stamp k_fallen k_held k_stands k_falling k_away k_round k_rests k_may k_next k_could k_couldNight k_night k_seats) → lv_has ls 8 [(0, .ref h), (5, .int p5), (6, .int p6), (7, .int (k_s 7))] → W p l e R s m args below meth c H locs 0 0 QQ (F0 m 108 ls [.int y2_108, .int ((nI 500) + (k_s 7)), .ref (ad 1)]) := by
          intro y2_108 H locs ls ey2_108 hO hl
          have hw := hw y2_108 ey2_108
          obtain ⟨o_108, hw⟩ := hw
          refine stM_s C hK hO o_108 rfl dX12_say_108 (fun H locs hO => ?_)
          refine lv_aload_n hx hb dX12_say_109 rfl (lv_at hl 0 rfl) ?_
          refine gM_s C hin hK lk_s hO dX12_say_110 ?_
          refine lv_sipush (v := (nI 520)) hx hb dX12_say_113 (by decide) ?_
          refine lv_iload hx hb dX12_say_116 (lv_at hl 3 rfl) ?_
          refine lv_iadd hx hb dX12_say_118 ?_
          refine lv_iload hx hb dX12_say_119 (lv_at hl 1 rfl) ?_
          obtain ⟨o_121, hw⟩ := hw
          refine stM_s C hK hO o_121 rfl dX12_say_121 (fun H locs hO => ?_)
          refine lv_aload_n hx hb dX12_say_122 rfl (lv_at hl 0 rfl) ?_
          refine gM_s C hin hK lk_s hO dX12_say_123 ?_
          refine lv_sipush (v := (nI 540)) hx hb dX12_say_126 (by decide) ?_
          refine lv_iload hx hb dX12_say_129 (lv_at hl 3 rfl) ?_
          refine lv_iadd hx hb dX12_say_131 ?_
          refine lv_iload hx hb dX12_say_132 (lv_at hl 2 rfl) ?_
          have m_142 : ∀ (y2_142 : Int32) (H : Heap) (locs : List Loc) (ls : Array Slot), y2_142 = (if p6 = 0 then (nI 0) else (nI 1)) → okW D A s.heap H locs (wM cI cZ cJ h ad k_thrown (upd (upd (upd (upd k_s ((((nI 460) + (k_s 7))).toNatClampNeg) p2) ((((nI 480) + (k_s 7))).toNatClampNeg) p3) ((((nI 500) + (k_s 7))).toNatClampNeg) y2_108) ((((nI 520) + (k_s 7))).toNatClampNeg) p5) k_image k_hasImage k_steps k_read k_spot k_isWrong k_open k_act k_letBy k_letStamp k_stamp k_fallen k_held k_stands k_falling k_away k_round k_rests k_may k_next k_could k_couldNight k_night k_seats) → lv_has ls 8 [(0, .ref h)] → W p l e R s m args below meth c H locs 0 0 QQ (F0 m 142 ls [.int y2_142, .int ((nI 540) + (k_s 7)), .ref (ad 1)]) := by
            intro y2_142 H locs ls ey2_142 hO hl
            have hw := hw y2_142 ey2_142
            obtain ⟨o_142, hw⟩ := hw
            refine stM_s C hK hO o_142 rfl dX12_say_142 (fun H locs hO => ?_)
            refine lv_aload_n hx hb dX12_say_143 rfl (lv_at hl 0 rfl) ?_
            refine gM_s C hin hK lk_s hO dX12_say_144 ?_
            refine lv_bipush (v := (nI 7)) hx hb dX12_say_147 (by decide) ?_
            refine lv_dup2_11 hx hb dX12_say_149 rfl rfl ?_
            refine ldM_s C hK hO (inK 7 6700 (by decide) (by decide)) (clK 7 (by decide)) dX12_say_150 ?_
            refine lv_iconst (v := (nI 1)) hx hb dX12_say_151 (by decide) ?_
            refine lv_iadd hx hb dX12_say_152 ?_
            refine stM_s C hK hO (inK 7 6700 (by decide) (by decide)) (clK 7 (by decide)) dX12_say_153 (fun H locs hO => ?_)
            refine lv_aload_n hx hb dX12_say_154 rfl (lv_at hl 0 rfl) ?_
            refine gM_s C hin hK lk_s hO dX12_say_155 ?_
            refine lv_bipush (v := (nI 7)) hx hb dX12_say_158 (by decide) ?_
            refine ldM_s C hK hO (inK 7 6700 (by decide) (by decide)) (clK 7 (by decide)) dX12_say_160 ?_
            exact ri1 hQQ hx hb hr hlk hK hO hw dX12_say_161
          refine lv_if_eq (tgt := 141) hx hb dX12_say_134 (by decide) (fun q_134 => ?_) (fun q_134 => ?_)
          · refine lv_iconst (v := (nI 0)) hx hb dX12_say_141 (by decide) ?_
            have hl := lv_sub hl [0] rfl (l' := [(0, .ref h)])
            exact m_142 _ _ _ _ (by rw [if_pos q_134]) hO hl
          · refine lv_iconst (v := (nI 1)) hx hb dX12_say_137 (by decide) ?_
            refine lv_goto (tgt := 142) hx hb dX12_say_138 (by decide) ?_
            have hl := lv_sub hl [0] rfl (l' := [(0, .ref h)])
            exact m_142 _ _ _ _ (by rw [if_neg q_134]) hO hl
        refine lv_if_eq (tgt := 107) hx hb dX12_say_100 (by decide) (fun q_100 => ?_) (fun q_100 => ?_)
        · refine lv_iconst (v := (nI 0)) hx hb dX12_say_107 (by decide) ?_
          have hl := lv_sub hl [1, 5, 6, 0] rfl (l' := [(0, .ref h), (5, .int p5), (6, .int p6), (7, .int (k_s 7))])
          exact m_108 _ _ _ _ (by rw [if_pos q_100]) hO hl
        · refine lv_iconst (v := (nI 1)) hx hb dX12_say_103 (by decide) ?_
          refine lv_goto (tgt := 108) hx hb dX12_say_104 (by decide) ?_
          have hl := lv_sub hl [1, 5, 6, 0] rfl (l' := [(0, .ref h), (5, .int p5), (6, .int p6), (7, .int (k_s 7))])
          exact m_108 _ _ _ _ (by rw [if_neg q_100]) hO hl
      · have hw := hw.2 q_49
        refine lv_bipush (v := (-4)) hx hb dX12_say_52 (by decide) ?_
        exact ri1 hQQ hx hb hr hlk hK hO hw dX12_say_54
    · have hw := hw.2 q_34
      refine lv_bipush (v := (-2)) hx hb dX12_say_37 (by decide) ?_
      exact ri1 hQQ hx hb hr hlk hK hO hw dX12_say_39
  refine lv_if_eq (tgt := 28) hx hb dX12_say_4 (by decide) (fun q_4 => ?_) (fun q_4 => ?_)
  · have hl := lv_sub hl [] rfl (l' := [])
    exact a_28 (Or.inl q_4) _ _ _ hO hl
  · refine lv_iload_n hx hb dX12_say_7 rfl (lv_at hl 3 rfl) ?_
    refine lv_iconst (v := (nI 0)) hx hb dX12_say_8 (by decide) ?_
    refine lv_bipush (v := (nI 7)) hx hb dX12_say_9 (by decide) ?_
    refine cSi0 (As := [.int p3, .int (nI 0), .int (nI 7)]) (rest := []) C hK hX hO (c_X12_in (l := l)) (va_cwS 3 hts gd_X12_74 rfl rfl rfl hd_X12_in (rok hR (Nat.le_of_ble_eq_true rfl) (Nat.le_of_ble_eq_true rfl))) rfl hl.1 rfl (Nat.le_of_ble_eq_true rfl) dX12_say_11 ⟨Nat.zero_le _, Nat.zero_le _⟩ (fun r_11 H locs e_11 hO => ?_)
    subst e_11
    refine lv_if_eq (tgt := 28) hx hb dX12_say_14 (by decide) (fun q_14 => ?_) (fun q_14 => ?_)
    · have hl := lv_sub hl [] rfl (l' := [])
      exact a_28 (Or.inr (Or.inl q_14)) _ _ _ hO hl
    · refine lv_iload hx hb dX12_say_17 (lv_at hl 5 rfl) ?_
      refine lv_iconst (v := (-1)) hx hb dX12_say_19 (by decide) ?_
      refine lv_bipush (v := (nI 7)) hx hb dX12_say_20 (by decide) ?_
      refine cSi0 (As := [.int p5, .int (-1), .int (nI 7)]) (rest := []) C hK hX hO (c_X12_in (l := l)) (va_cwS 3 hts gd_X12_74 rfl rfl rfl hd_X12_in (rok hR (Nat.le_of_ble_eq_true rfl) (Nat.le_of_ble_eq_true rfl))) rfl hl.1 rfl (Nat.le_of_ble_eq_true rfl) dX12_say_22 ⟨Nat.zero_le _, Nat.zero_le _⟩ (fun r_22 H locs e_22 hO => ?_)
      subst e_22
      refine lv_if_ne (tgt := 30) hx hb dX12_say_25 (by decide) (fun q_25 => ?_) (fun q_25 => ?_)
      · have hl := lv_sub hl [0, 2, 3, 4, 5, 6] rfl (l' := [(0, .ref h), (2, .int p2), (3, .int p3), (4, .int p4), (5, .int p5), (6, .int p6)])
        exact a_30 (fun h => h.elim q_4 (fun h => h.elim q_14 q_25)) _ _ _ hO hl
      · have hl := lv_sub hl [] rfl (l' := [])
        exact a_28 (Or.inr (Or.inr q_25)) _ _ _ hO hl
def f_X12_isTrue (k_s : Nat → Int32) (p1 : Int32) (p2 : Int32) : Int32 := (if ((p2 >>> ((k_s (((nI 480) + p1)).toNatClampNeg) &&& 31)) &&& (nI 1)) = (k_s (((nI 500) + p1)).toNatClampNeg) then (if (nI 1) = 0 then (if (k_s (((nI 520) + p1)).toNatClampNeg) = (-1) then (nI 0) else (if ((p2 >>> ((k_s (((nI 520) + p1)).toNatClampNeg) &&& 31)) &&& (nI 1)) = (k_s (((nI 540) + p1)).toNatClampNeg) then (nI 1) else (nI 0))) else (nI 1)) else (if (nI 0) = 0 then (if (k_s (((nI 520) + p1)).toNatClampNeg) = (-1) then (nI 0) else (if ((p2 >>> ((k_s (((nI 520) + p1)).toNatClampNeg) &&& 31)) &&& (nI 1)) = (k_s (((nI 540) + p1)).toNatClampNeg) then (nI 1) else (nI 0))) else (nI 1)))
def ok_X12_isTrue (k_s : Nat → Int32) (p1 : Int32) (p2 : Int32) : Prop := vp_in ((nI 480) + p1) 6700 ∧ vp_in ((nI 500) + p1) 6700 ∧ ((¬ ((p2 >>> ((k_s (((nI 480) + p1)).toNatClampNeg) &&& 31)) &&& (nI 1)) = (k_s (((nI 500) + p1)).toNatClampNeg) → (((nI 0) = 0 → (vp_in ((nI 520) + p1) 6700 ∧ (¬ (k_s (((nI 520) + p1)).toNatClampNeg) = (-1) → (vp_in ((nI 520) + p1) 6700 ∧ vp_in ((nI 540) + p1) 6700)))))) ∧ (((p2 >>> ((k_s (((nI 480) + p1)).toNatClampNeg) &&& 31)) &&& (nI 1)) = (k_s (((nI 500) + p1)).toNatClampNeg) → (((nI 1) = 0 → (vp_in ((nI 520) + p1) 6700 ∧ (¬ (k_s (((nI 520) + p1)).toNatClampNeg) = (-1) → (vp_in ((nI 520) + p1) 6700 ∧ vp_in ((nI 540) + p1) 6700)))))))
theorem z_X12_isTrue (k_s : Nat → Int32) (p1 : Int32) (p2 : Int32) : zb (f_X12_isTrue k_s p1 p2) := by
  unfold f_X12_isTrue
  exact (zb_ite (zb_ite (zb_ite zb0 (zb_ite zb1 zb0)) zb1) (zb_ite (zb_ite zb0 (zb_ite zb1 zb0)) zb1))
set_option maxHeartbeats 4000000 in
set_option maxRecDepth 100000 in
theorem c_X12_isTrue {l : Launch} {D : va_G} {cI cZ cJ : ClassId} {h : Nat} {ad : Nat → Nat} {sz : Nat} {k_thrown : Int32} {k_s : Nat → Int32} {k_image : Nat → Int32} {k_hasImage : Int32} {k_steps : Nat → Int32} {k_read : Int32} {k_spot : Int32} {k_isWrong : Int32} {k_open : Int32} {k_act : Int32} {k_letBy : Nat → Int32} {k_letStamp : Nat → Int32} {k_stamp : Int32} {k_fallen : Nat → Int32} {k_held : Nat → Int32} {k_stands : Nat → Int32} {k_falling : Nat → Int32} {k_away : Nat → Int32} {k_round : Nat → Int32} {k_rests : Nat → Int64} {k_may : Nat → Int32} {k_next : Nat → Int32} {k_could : Nat → Int32} {k_couldNight : Nat → Int32} {k_night : Int32} {k_seats : Nat → Int32} {p1 : Int32} {p2 : Int32} (hw : ok_X12_isTrue k_s p1 p2) : Met l yX12_isTrue (Cond.code yX12_isTrue cX12_isTrue 4 (some .boolean) :: wsG) ({ frames := 0, cells := 0, slots := 0, locals := 0 } : Room) (preW D (tyM cI cZ cJ) (wM cI cZ cJ h ad k_thrown k_s k_image k_hasImage k_steps k_read k_spot k_isWrong k_open k_act k_letBy k_letStamp k_stamp k_fallen k_held k_stands k_falling k_away k_round k_rests k_may k_next k_could k_couldNight k_night k_seats) sz [.ref h, .int p1, .int p2]) (qi0 D (tyM cI cZ cJ) (va_A (wM cI cZ cJ h ad k_thrown k_s k_image k_hasImage k_steps k_read k_spot k_isWrong k_open k_act k_letBy k_letStamp k_stamp k_fallen k_held k_stands k_falling k_away k_round k_rests k_may k_next k_could k_couldNight k_night k_seats) sz) (fun r => r = f_X12_isTrue k_s p1 p2) (wM cI cZ cJ h ad k_thrown k_s k_image k_hasImage k_steps k_read k_spot k_isWrong k_open k_act k_letBy k_letStamp k_stamp k_fallen k_held k_stands k_falling k_away k_round k_rests k_may k_next k_could k_couldNight k_night k_seats)) 0 0 (va_A (wM cI cZ cJ h ad k_thrown k_s k_image k_hasImage k_steps k_read k_spot k_isWrong k_open k_act k_letBy k_letStamp k_stamp k_fallen k_held k_stands k_falling k_away k_round k_rests k_may k_next k_could k_couldNight k_night k_seats) sz) := by
  refine st_met (cc := cX12_isTrue) (maxL := 4) (ret := (some .boolean)) (lv := [(0, .ref h), (1, .int p1), (2, .int p2)]) (Qc := fun A => qi0 D (tyM cI cZ cJ) A (fun r => r = f_X12_isTrue k_s p1 p2) (wM cI cZ cJ h ad k_thrown k_s k_image k_hasImage k_steps k_read k_spot k_isWrong k_open k_act k_letBy k_letStamp k_stamp k_fallen k_held k_stands k_falling k_away k_round k_rests k_may k_next k_could k_couldNight k_night k_seats)) (by decide) rfl (Nat.le_of_ble_eq_true rfl) rfl ?_
  intro p e s m below meth c ls A R args QQ H locs C hr hlk hnm hK hX hsz hl hO hR hQQ
  have hx := C.1
  have hb := C.2.1
  have hown := C.2.2.2.1
  have hts := C.2.2.2.2
  have hin : ∀ w ∈ u_ws RX12 TX12 26, w ∈ (Cond.code yX12_isTrue cX12_isTrue 4 (some .boolean) :: wsG) := fun w h9 => List.mem_cons_of_mem _ (inG12 w h9)
  have lk_s := hts (Cond.fieldLink RX12 7 "FreeCityModel" "s" "[I") (List.mem_cons_of_mem _ qw5_207)
  unfold ok_X12_isTrue at hw
  have hs := hw
  obtain ⟨o_10, o_23, hs⟩ := hs
  refine lv_iload_n hx hb dX12_isTrue_0 rfl (lv_at hl 2 rfl) ?_
  refine lv_aload_n hx hb dX12_isTrue_1 rfl (lv_at hl 0 rfl) ?_
  refine gM_s C hin hK lk_s hO dX12_isTrue_2 ?_
  refine lv_sipush (v := (nI 480)) hx hb dX12_isTrue_5 (by decide) ?_
  refine lv_iload_n hx hb dX12_isTrue_8 rfl (lv_at hl 1 rfl) ?_
  refine lv_iadd hx hb dX12_isTrue_9 ?_
  refine ldM_s C hK hO o_10 rfl dX12_isTrue_10 ?_
  refine lv_ishr hx hb dX12_isTrue_11 ?_
  refine lv_iconst (v := (nI 1)) hx hb dX12_isTrue_12 (by decide) ?_
  refine lv_iand hx hb dX12_isTrue_13 ?_
  refine lv_aload_n hx hb dX12_isTrue_14 rfl (lv_at hl 0 rfl) ?_
  refine gM_s C hin hK lk_s hO dX12_isTrue_15 ?_
  refine lv_sipush (v := (nI 500)) hx hb dX12_isTrue_18 (by decide) ?_
  refine lv_iload_n hx hb dX12_isTrue_21 rfl (lv_at hl 1 rfl) ?_
  refine lv_iadd hx hb dX12_isTrue_22 ?_
  refine ldM_s C hK hO o_23 rfl dX12_isTrue_23 ?_
  refine lv_icmp_ne (tgt := 31) hx hb dX12_isTrue_24 (by decide) (fun q_24 => ?_) (fun q_24 => ?_)
  · have hs := hs.1 q_24
    refine lv_iconst (v := (nI 0)) hx hb dX12_isTrue_31 (by decide) ?_
    refine lv_istore_n (lv' := [(3, .int (nI 0)), (0, .ref h), (1, .int p1), (2, .int p2)]) hx hb dX12_isTrue_32 rfl hl (by decide) rfl (fun ls hl => ?_)
    refine lv_iload_n hx hb dX12_isTrue_33 rfl (lv_at hl 0 rfl) ?_
    refine lv_if_ne (tgt := 78) hx hb dX12_isTrue_34 (by decide) (fun q_34 => ?_) (fun q_34 => ?_)
    · refine lv_iconst (v := (nI 1)) hx hb dX12_isTrue_78 (by decide) ?_
      refine lv_goto (tgt := 83) hx hb dX12_isTrue_79 (by decide) ?_
      exact rz0 hQQ hx hb hr hlk hK hO zb1 (by unfold f_X12_isTrue; rw [if_neg q_24, if_neg q_34]) dX12_isTrue_83
    · have hs := hs q_34
      obtain ⟨o_46, hs⟩ := hs
      refine lv_aload_n hx hb dX12_isTrue_37 rfl (lv_at hl 1 rfl) ?_
      refine gM_s C hin hK lk_s hO dX12_isTrue_38 ?_
      refine lv_sipush (v := (nI 520)) hx hb dX12_isTrue_41 (by decide) ?_
      refine lv_iload_n hx hb dX12_isTrue_44 rfl (lv_at hl 2 rfl) ?_
      refine lv_iadd hx hb dX12_isTrue_45 ?_
      refine ldM_s C hK hO o_46 rfl dX12_isTrue_46 ?_
      refine lv_iconst (v := (-1)) hx hb dX12_isTrue_47 (by decide) ?_
      refine lv_icmp_eq (tgt := 82) hx hb dX12_isTrue_48 (by decide) (fun q_48 => ?_) (fun q_48 => ?_)
      · refine lv_iconst (v := (nI 0)) hx hb dX12_isTrue_82 (by decide) ?_
        exact rz0 hQQ hx hb hr hlk hK hO zb0 (by unfold f_X12_isTrue; rw [if_neg q_24, if_pos q_34, if_pos q_48]) dX12_isTrue_83
      · have hs := hs q_48
        obtain ⟨o_61, o_74⟩ := hs
        refine lv_iload_n hx hb dX12_isTrue_51 rfl (lv_at hl 3 rfl) ?_
        refine lv_aload_n hx hb dX12_isTrue_52 rfl (lv_at hl 1 rfl) ?_
        refine gM_s C hin hK lk_s hO dX12_isTrue_53 ?_
        refine lv_sipush (v := (nI 520)) hx hb dX12_isTrue_56 (by decide) ?_
        refine lv_iload_n hx hb dX12_isTrue_59 rfl (lv_at hl 2 rfl) ?_
        refine lv_iadd hx hb dX12_isTrue_60 ?_
        refine ldM_s C hK hO o_61 rfl dX12_isTrue_61 ?_
        refine lv_ishr hx hb dX12_isTrue_62 ?_
        refine lv_iconst (v := (nI 1)) hx hb dX12_isTrue_63 (by decide) ?_
        refine lv_iand hx hb dX12_isTrue_64 ?_
        refine lv_aload_n hx hb dX12_isTrue_65 rfl (lv_at hl 1 rfl) ?_
        refine gM_s C hin hK lk_s hO dX12_isTrue_66 ?_
        refine lv_sipush (v := (nI 540)) hx hb dX12_isTrue_69 (by decide) ?_
        refine lv_iload_n hx hb dX12_isTrue_72 rfl (lv_at hl 2 rfl) ?_
        refine lv_iadd hx hb dX12_isTrue_73 ?_
        refine ldM_s C hK hO o_74 rfl dX12_isTrue_74 ?_
        refine lv_icmp_ne (tgt := 82) hx hb dX12_isTrue_75 (by decide) (fun q_75 => ?_) (fun q_75 => ?_)
        · refine lv_iconst (v := (nI 0)) hx hb dX12_isTrue_82 (by decide) ?_
          exact rz0 hQQ hx hb hr hlk hK hO zb0 (by unfold f_X12_isTrue; rw [if_neg q_24, if_pos q_34, if_neg q_48, if_neg q_75]) dX12_isTrue_83
        · refine lv_iconst (v := (nI 1)) hx hb dX12_isTrue_78 (by decide) ?_
          refine lv_goto (tgt := 83) hx hb dX12_isTrue_79 (by decide) ?_
          exact rz0 hQQ hx hb hr hlk hK hO zb1 (by unfold f_X12_isTrue; rw [if_neg q_24, if_pos q_34, if_neg q_48, if_pos q_75]) dX12_isTrue_83
  · have hs := hs.2 q_24
    refine lv_iconst (v := (nI 1)) hx hb dX12_isTrue_27 (by decide) ?_
    refine lv_goto (tgt := 32) hx hb dX12_isTrue_28 (by decide) ?_
    refine lv_istore_n (lv' := [(3, .int (nI 1)), (0, .ref h), (1, .int p1), (2, .int p2)]) hx hb dX12_isTrue_32 rfl hl (by decide) rfl (fun ls hl => ?_)
    refine lv_iload_n hx hb dX12_isTrue_33 rfl (lv_at hl 0 rfl) ?_
    refine lv_if_ne (tgt := 78) hx hb dX12_isTrue_34 (by decide) (fun q_34 => ?_) (fun q_34 => ?_)
    · refine lv_iconst (v := (nI 1)) hx hb dX12_isTrue_78 (by decide) ?_
      refine lv_goto (tgt := 83) hx hb dX12_isTrue_79 (by decide) ?_
      exact rz0 hQQ hx hb hr hlk hK hO zb1 (by unfold f_X12_isTrue; rw [if_pos q_24, if_neg q_34]) dX12_isTrue_83
    · have hs := hs q_34
      obtain ⟨o_46, hs⟩ := hs
      refine lv_aload_n hx hb dX12_isTrue_37 rfl (lv_at hl 1 rfl) ?_
      refine gM_s C hin hK lk_s hO dX12_isTrue_38 ?_
      refine lv_sipush (v := (nI 520)) hx hb dX12_isTrue_41 (by decide) ?_
      refine lv_iload_n hx hb dX12_isTrue_44 rfl (lv_at hl 2 rfl) ?_
      refine lv_iadd hx hb dX12_isTrue_45 ?_
      refine ldM_s C hK hO o_46 rfl dX12_isTrue_46 ?_
      refine lv_iconst (v := (-1)) hx hb dX12_isTrue_47 (by decide) ?_
      refine lv_icmp_eq (tgt := 82) hx hb dX12_isTrue_48 (by decide) (fun q_48 => ?_) (fun q_48 => ?_)
      · refine lv_iconst (v := (nI 0)) hx hb dX12_isTrue_82 (by decide) ?_
        exact rz0 hQQ hx hb hr hlk hK hO zb0 (by unfold f_X12_isTrue; rw [if_pos q_24, if_pos q_34, if_pos q_48]) dX12_isTrue_83
      · have hs := hs q_48
        obtain ⟨o_61, o_74⟩ := hs
        refine lv_iload_n hx hb dX12_isTrue_51 rfl (lv_at hl 3 rfl) ?_
        refine lv_aload_n hx hb dX12_isTrue_52 rfl (lv_at hl 1 rfl) ?_
        refine gM_s C hin hK lk_s hO dX12_isTrue_53 ?_
        refine lv_sipush (v := (nI 520)) hx hb dX12_isTrue_56 (by decide) ?_
        refine lv_iload_n hx hb dX12_isTrue_59 rfl (lv_at hl 2 rfl) ?_
        refine lv_iadd hx hb dX12_isTrue_60 ?_
        refine ldM_s C hK hO o_61 rfl dX12_isTrue_61 ?_
        refine lv_ishr hx hb dX12_isTrue_62 ?_
        refine lv_iconst (v := (nI 1)) hx hb dX12_isTrue_63 (by decide) ?_
        refine lv_iand hx hb dX12_isTrue_64 ?_
        refine lv_aload_n hx hb dX12_isTrue_65 rfl (lv_at hl 1 rfl) ?_
        refine gM_s C hin hK lk_s hO dX12_isTrue_66 ?_
        refine lv_sipush (v := (nI 540)) hx hb dX12_isTrue_69 (by decide) ?_
        refine lv_iload_n hx hb dX12_isTrue_72 rfl (lv_at hl 2 rfl) ?_
        refine lv_iadd hx hb dX12_isTrue_73 ?_
        refine ldM_s C hK hO o_74 rfl dX12_isTrue_74 ?_
        refine lv_icmp_ne (tgt := 82) hx hb dX12_isTrue_75 (by decide) (fun q_75 => ?_) (fun q_75 => ?_)
        · refine lv_iconst (v := (nI 0)) hx hb dX12_isTrue_82 (by decide) ?_
          exact rz0 hQQ hx hb hr hlk hK hO zb0 (by unfold f_X12_isTrue; rw [if_pos q_24, if_pos q_34, if_neg q_48, if_neg q_75]) dX12_isTrue_83
        · refine lv_iconst (v := (nI 1)) hx hb dX12_isTrue_78 (by decide) ?_
          refine lv_goto (tgt := 83) hx hb dX12_isTrue_79 (by decide) ?_
          exact rz0 hQQ hx hb hr hlk hK hO zb1 (by unfold f_X12_isTrue; rw [if_pos q_24, if_pos q_34, if_neg q_48, if_pos q_75]) dX12_isTrue_83
theorem gd_X12_249 {a : Cond} : GoodIn (a :: wsG) (wsV RX12 249 RX12 yX12_isTrue (Cond.code yX12_isTrue cX12_isTrue 4 (some .boolean) :: wsG)) := gdV qw7_145 qw7_147 qs_69 qw1_12 qw7_148
theorem hd_X12_isTrue : yX12_isTrue.cls = RX12 ∧ yX12_isTrue.cls ≠ "java/lang/invoke/MethodHandle" ∧ yX12_isTrue.cls ≠ "java/lang/invoke/VarHandle" ∧ (parseMethodDescriptor yX12_isTrue.desc).map (fun d => d.parameters.length) = some 2 := by decide +kernel
def wb_X12_hold_43 (p1 : Int32) (k_s : Nat → Int32) (v3_29 : Int32) (v4_29 : Int32) (v5_29 : Int32) (L_29 : Int32 → Int32 → Int32 → Prop) (L_43 : Int32 → Int32 → Prop) (v6_43 : Int32) (v7_43 : Int32) : Prop := (((k_s 7) ≤ v7_43 → (∀ y0_110 : Int32, y0_110 = (if v6_43 ≤ v3_29 then v4_29 else v5_29) → (∀ y0_124 : Int32, y0_124 = (if v6_43 ≤ v3_29 then v3_29 else v6_43) → (L_29 y0_124 y0_110 (v5_29 + (nI 1)))))) ∧ (¬ (k_s 7) ≤ v7_43 → (vp_in ((nI 460) + v7_43) 6700 ∧ (((¬ p1 < (k_s (((nI 460) + v7_43)).toNatClampNeg) → (ok_X12_isTrue k_s v7_43 v5_29))) ∧ (∀ y1_88 : Int32, y1_88 = (if p1 < (k_s (((nI 460) + v7_43)).toNatClampNeg) then (nI 0) else (if (f_X12_isTrue k_s v7_43 v5_29) = 0 then (nI 0) else (nI 1))) → (L_43 (v6_43 + y1_88) (v7_43 + (nI 1))))))))
def wl_X12_hold_43 (p1 : Int32) (k_s : Nat → Int32) (v3_29 : Int32) (v4_29 : Int32) (v5_29 : Int32) (L_29 : Int32 → Int32 → Int32 → Prop) : Nat → Int32 → Int32 → Prop
  | 0, _, _ => False
  | n + 1, v6_43, v7_43 => wb_X12_hold_43 p1 k_s v3_29 v4_29 v5_29 L_29 (wl_X12_hold_43 p1 k_s v3_29 v4_29 v5_29 L_29 n) v6_43 v7_43
def wb_X12_hold_29 (p1 : Int32) (p2 : Int32) (k_s : Nat → Int32) (Q : Int32 → Prop) (L_29 : Int32 → Int32 → Int32 → Prop) (v3_29 : Int32) (v4_29 : Int32) (v5_29 : Int32) : Prop := (((nI 256) ≤ v5_29 → (∀ y0_141 : Int32, y0_141 = (if p2 = 0 then v3_29 else v4_29) → (Q y0_141))) ∧ (¬ (nI 256) ≤ v5_29 → (∃ n, wl_X12_hold_43 p1 k_s v3_29 v4_29 v5_29 L_29 n (nI 0) (nI 0))))
def wl_X12_hold_29 (p1 : Int32) (p2 : Int32) (k_s : Nat → Int32) (Q : Int32 → Prop) : Nat → Int32 → Int32 → Int32 → Prop
  | 0, _, _, _ => False
  | n + 1, v3_29, v4_29, v5_29 => wb_X12_hold_29 p1 p2 k_s Q (wl_X12_hold_29 p1 p2 k_s Q n) v3_29 v4_29 v5_29
def wp_X12_hold (p1 : Int32) (p2 : Int32) (k_s : Nat → Int32) (Q : Int32 → Prop) : Prop := ((¬ (f_X12_in p2 (nI 0) (nI 1)) = 0 → ((¬ (f_X12_isDay p1) = 0 → (∃ n, wl_X12_hold_29 p1 p2 k_s Q n (-1) (nI 0) (nI 0))) ∧ ((f_X12_isDay p1) = 0 → (Q (-2))))) ∧ ((f_X12_in p2 (nI 0) (nI 1)) = 0 → (Q (-1))))
set_option maxHeartbeats 4000000 in
set_option maxRecDepth 100000 in
theorem c_X12_hold {l : Launch} {D : va_G} {cI cZ cJ : ClassId} {h : Nat} {ad : Nat → Nat} {sz : Nat} {k_thrown : Int32} {k_s : Nat → Int32} {k_image : Nat → Int32} {k_hasImage : Int32} {k_steps : Nat → Int32} {k_read : Int32} {k_spot : Int32} {k_isWrong : Int32} {k_open : Int32} {k_act : Int32} {k_letBy : Nat → Int32} {k_letStamp : Nat → Int32} {k_stamp : Int32} {k_fallen : Nat → Int32} {k_held : Nat → Int32} {k_stands : Nat → Int32} {k_falling : Nat → Int32} {k_away : Nat → Int32} {k_round : Nat → Int32} {k_rests : Nat → Int64} {k_may : Nat → Int32} {k_next : Nat → Int32} {k_could : Nat → Int32} {k_couldNight : Nat → Int32} {k_night : Int32} {k_seats : Nat → Int32} {p1 : Int32} {p2 : Int32} {Q : Int32 → Prop} (hw : wp_X12_hold p1 p2 k_s Q) : Met l yX12_hold (Cond.code yX12_hold cX12_hold 8 (some .int) :: wsG) ({ frames := 2, cells := 0, slots := 0, locals := 42 } : Room) (preW D (tyM cI cZ cJ) (wM cI cZ cJ h ad k_thrown k_s k_image k_hasImage k_steps k_read k_spot k_isWrong k_open k_act k_letBy k_letStamp k_stamp k_fallen k_held k_stands k_falling k_away k_round k_rests k_may k_next k_could k_couldNight k_night k_seats) sz [.ref h, .int p1, .int p2]) (qi0 D (tyM cI cZ cJ) (va_A (wM cI cZ cJ h ad k_thrown k_s k_image k_hasImage k_steps k_read k_spot k_isWrong k_open k_act k_letBy k_letStamp k_stamp k_fallen k_held k_stands k_falling k_away k_round k_rests k_may k_next k_could k_couldNight k_night k_seats) sz) Q (wM cI cZ cJ h ad k_thrown k_s k_image k_hasImage k_steps k_read k_spot k_isWrong k_open k_act k_letBy k_letStamp k_stamp k_fallen k_held k_stands k_falling k_away k_round k_rests k_may k_next k_could k_couldNight k_night k_seats)) 0 0 (va_A (wM cI cZ cJ h ad k_thrown k_s k_image k_hasImage k_steps k_read k_spot k_isWrong k_open k_act k_letBy k_letStamp k_stamp k_fallen k_held k_stands k_falling k_away k_round k_rests k_may k_next k_could k_couldNight k_night k_seats) sz) := by
  refine st_met (cc := cX12_hold) (maxL := 8) (ret := (some .int)) (lv := [(0, .ref h), (1, .int p1), (2, .int p2)]) (Qc := fun A => qi0 D (tyM cI cZ cJ) A Q (wM cI cZ cJ h ad k_thrown k_s k_image k_hasImage k_steps k_read k_spot k_isWrong k_open k_act k_letBy k_letStamp k_stamp k_fallen k_held k_stands k_falling k_away k_round k_rests k_may k_next k_could k_couldNight k_night k_seats)) (by decide) rfl (Nat.le_of_ble_eq_true rfl) rfl ?_
  intro p e s m below meth c ls A R args QQ H locs C hr hlk hnm hK hX hsz hl hO hR hQQ
  have hx := C.1
  have hb := C.2.1
  have hown := C.2.2.2.1
  have hts := C.2.2.2.2
  have hin : ∀ w ∈ u_ws RX12 TX12 26, w ∈ (Cond.code yX12_hold cX12_hold 8 (some .int) :: wsG) := fun w h9 => List.mem_cons_of_mem _ (inG12 w h9)
  have lk_s := hts (Cond.fieldLink RX12 7 "FreeCityModel" "s" "[I") (List.mem_cons_of_mem _ qw5_207)
  unfold wp_X12_hold at hw
  refine lv_iload_n hx hb dX12_hold_0 rfl (lv_at hl 2 rfl) ?_
  refine lv_iconst (v := (nI 0)) hx hb dX12_hold_1 (by decide) ?_
  refine lv_iconst (v := (nI 1)) hx hb dX12_hold_2 (by decide) ?_
  refine cSi0 (As := [.int p2, .int (nI 0), .int (nI 1)]) (rest := []) C hK hX hO (c_X12_in (l := l)) (va_cwS 3 hts gd_X12_74 rfl rfl rfl hd_X12_in (rok hR (Nat.le_of_ble_eq_true rfl) (Nat.le_of_ble_eq_true rfl))) rfl hl.1 rfl (Nat.le_of_ble_eq_true rfl) dX12_hold_3 ⟨Nat.zero_le _, Nat.zero_le _⟩ (fun r_3 H locs e_3 hO => ?_)
  subst e_3
  refine lv_if_ne (tgt := 11) hx hb dX12_hold_6 (by decide) (fun q_6 => ?_) (fun q_6 => ?_)
  · have hw := hw.1 q_6
    refine lv_iload_n hx hb dX12_hold_11 rfl (lv_at hl 1 rfl) ?_
    refine cSi0 (As := [.int p1]) (rest := []) C hK hX hO (c_X12_isDay (l := l)) (va_cwS 1 hts gd_X12_148 rfl rfl rfl hd_X12_isDay (rok hR (Nat.le_of_ble_eq_true rfl) (Nat.le_of_ble_eq_true rfl))) rfl hl.1 rfl (Nat.le_of_ble_eq_true rfl) dX12_hold_12 ⟨Nat.zero_le _, Nat.zero_le _⟩ (fun r_12 H locs e_12 hO => ?_)
    subst e_12
    refine lv_if_ne (tgt := 21) hx hb dX12_hold_15 (by decide) (fun q_15 => ?_) (fun q_15 => ?_)
    · have hw := hw.1 q_15
      refine lv_iconst (v := (-1)) hx hb dX12_hold_21 (by decide) ?_
      refine lv_istore_n (lv' := [(3, .int (-1)), (0, .ref h), (1, .int p1), (2, .int p2)]) hx hb dX12_hold_22 rfl hl (by decide) rfl (fun ls hl => ?_)
      refine lv_iconst (v := (nI 0)) hx hb dX12_hold_23 (by decide) ?_
      refine lv_istore (lv' := [(4, .int (nI 0)), (3, .int (-1)), (0, .ref h), (1, .int p1), (2, .int p2)]) hx hb dX12_hold_24 hl (by decide) rfl (fun ls hl => ?_)
      refine lv_iconst (v := (nI 0)) hx hb dX12_hold_26 (by decide) ?_
      refine lv_istore (lv' := [(5, .int (nI 0)), (4, .int (nI 0)), (3, .int (-1)), (0, .ref h), (1, .int p1), (2, .int p2)]) hx hb dX12_hold_27 hl (by decide) rfl (fun ls hl => ?_)
      obtain ⟨n_29, hw⟩ := hw
      have b_29 : ∀ (L_29 : Int32 → Int32 → Int32 → Prop) (ih_29 : ∀ (v3_29 : Int32) (v4_29 : Int32) (v5_29 : Int32) (H : Heap) (locs : List Loc) (ls : Array Slot), okW D A s.heap H locs (wM cI cZ cJ h ad k_thrown k_s k_image k_hasImage k_steps k_read k_spot k_isWrong k_open k_act k_letBy k_letStamp k_stamp k_fallen k_held k_stands k_falling k_away k_round k_rests k_may k_next k_could k_couldNight k_night k_seats) → lv_has ls 8 [(0, .ref h), (1, .int p1), (2, .int p2), (3, .int v3_29), (4, .int v4_29), (5, .int v5_29)] → L_29 v3_29 v4_29 v5_29 → W p l e R s m args below meth c H locs 0 0 QQ (F0 m 29 ls [])) (v3_29 : Int32) (v4_29 : Int32) (v5_29 : Int32) (H : Heap) (locs : List Loc) (ls : Array Slot), okW D A s.heap H locs (wM cI cZ cJ h ad k_thrown k_s k_image k_hasImage k_steps k_read k_spot k_isWrong k_open k_act k_letBy k_letStamp k_stamp k_fallen k_held k_stands k_falling k_away k_round k_rests k_may k_next k_could k_couldNight k_night k_seats) → lv_has ls 8 [(0, .ref h), (1, .int p1), (2, .int p2), (3, .int v3_29), (4, .int v4_29), (5, .int v5_29)] → wb_X12_hold_29 p1 p2 k_s Q L_29 v3_29 v4_29 v5_29 → W p l e R s m args below meth c H locs 0 0 QQ (F0 m 29 ls []) := by
        intro L_29 ih_29 v3_29 v4_29 v5_29 H locs ls hO hl hw
        unfold wb_X12_hold_29 at hw
        refine lv_iload hx hb dX12_hold_29 (lv_at hl 5 rfl) ?_
        refine lv_sipush (v := (nI 256)) hx hb dX12_hold_31 (by decide) ?_
        refine lv_icmp_ge (tgt := 131) hx hb dX12_hold_34 (by decide) (fun q_34 => ?_) (fun q_34 => ?_)
        · have hw := hw.1 q_34
          refine lv_iload_n hx hb dX12_hold_131 rfl (lv_at hl 2 rfl) ?_
          have m_141 : ∀ (y0_141 : Int32) (H : Heap) (locs : List Loc) (ls : Array Slot), y0_141 = (if p2 = 0 then v3_29 else v4_29) → okW D A s.heap H locs (wM cI cZ cJ h ad k_thrown k_s k_image k_hasImage k_steps k_read k_spot k_isWrong k_open k_act k_letBy k_letStamp k_stamp k_fallen k_held k_stands k_falling k_away k_round k_rests k_may k_next k_could k_couldNight k_night k_seats) → lv_has ls 8 [] → W p l e R s m args below meth c H locs 0 0 QQ (F0 m 141 ls [.int y0_141]) := by
            intro y0_141 H locs ls ey0_141 hO hl
            have hw := hw y0_141 ey0_141
            exact ri0 hQQ hx hb hr hlk hK hO hw dX12_hold_141
          refine lv_if_ne (tgt := 139) hx hb dX12_hold_132 (by decide) (fun q_132 => ?_) (fun q_132 => ?_)
          · refine lv_iload hx hb dX12_hold_139 (lv_at hl 4 rfl) ?_
            have hl := lv_sub hl [] rfl (l' := [])
            exact m_141 _ _ _ _ (by rw [if_neg q_132]) hO hl
          · refine lv_iload_n hx hb dX12_hold_135 rfl (lv_at hl 3 rfl) ?_
            refine lv_goto (tgt := 141) hx hb dX12_hold_136 (by decide) ?_
            have hl := lv_sub hl [] rfl (l' := [])
            exact m_141 _ _ _ _ (by rw [if_pos q_132]) hO hl
        · have hw := hw.2 q_34
          refine lv_iconst (v := (nI 0)) hx hb dX12_hold_37 (by decide) ?_
          refine lv_istore (lv' := [(6, .int (nI 0)), (0, .ref h), (1, .int p1), (2, .int p2), (3, .int v3_29), (4, .int v4_29), (5, .int v5_29)]) hx hb dX12_hold_38 hl (by decide) rfl (fun ls hl => ?_)
          refine lv_iconst (v := (nI 0)) hx hb dX12_hold_40 (by decide) ?_
          refine lv_istore (lv' := [(7, .int (nI 0)), (6, .int (nI 0)), (0, .ref h), (1, .int p1), (2, .int p2), (3, .int v3_29), (4, .int v4_29), (5, .int v5_29)]) hx hb dX12_hold_41 hl (by decide) rfl (fun ls hl => ?_)
          obtain ⟨n_43, hw⟩ := hw
          have b_43 : ∀ (L_43 : Int32 → Int32 → Prop) (ih_43 : ∀ (v6_43 : Int32) (v7_43 : Int32) (H : Heap) (locs : List Loc) (ls : Array Slot), okW D A s.heap H locs (wM cI cZ cJ h ad k_thrown k_s k_image k_hasImage k_steps k_read k_spot k_isWrong k_open k_act k_letBy k_letStamp k_stamp k_fallen k_held k_stands k_falling k_away k_round k_rests k_may k_next k_could k_couldNight k_night k_seats) → lv_has ls 8 [(0, .ref h), (1, .int p1), (2, .int p2), (3, .int v3_29), (4, .int v4_29), (5, .int v5_29), (6, .int v6_43), (7, .int v7_43)] → L_43 v6_43 v7_43 → W p l e R s m args below meth c H locs 0 0 QQ (F0 m 43 ls [])) (v6_43 : Int32) (v7_43 : Int32) (H : Heap) (locs : List Loc) (ls : Array Slot), okW D A s.heap H locs (wM cI cZ cJ h ad k_thrown k_s k_image k_hasImage k_steps k_read k_spot k_isWrong k_open k_act k_letBy k_letStamp k_stamp k_fallen k_held k_stands k_falling k_away k_round k_rests k_may k_next k_could k_couldNight k_night k_seats) → lv_has ls 8 [(0, .ref h), (1, .int p1), (2, .int p2), (3, .int v3_29), (4, .int v4_29), (5, .int v5_29), (6, .int v6_43), (7, .int v7_43)] → wb_X12_hold_43 p1 k_s v3_29 v4_29 v5_29 L_29 L_43 v6_43 v7_43 → W p l e R s m args below meth c H locs 0 0 QQ (F0 m 43 ls []) := by
            intro L_43 ih_43 v6_43 v7_43 H locs ls hO hl hw
            unfold wb_X12_hold_43 at hw
            refine lv_iload hx hb dX12_hold_43 (lv_at hl 7 rfl) ?_
            refine lv_aload_n hx hb dX12_hold_45 rfl (lv_at hl 0 rfl) ?_
            refine gM_s C hin hK lk_s hO dX12_hold_46 ?_
            refine lv_bipush (v := (nI 7)) hx hb dX12_hold_49 (by decide) ?_
            refine ldM_s C hK hO (inK 7 6700 (by decide) (by decide)) (clK 7 (by decide)) dX12_hold_51 ?_
            refine lv_icmp_ge (tgt := 97) hx hb dX12_hold_52 (by decide) (fun q_52 => ?_) (fun q_52 => ?_)
            · have hw := hw.1 q_52
              refine lv_iload hx hb dX12_hold_97 (lv_at hl 6 rfl) ?_
              refine lv_iload_n hx hb dX12_hold_99 rfl (lv_at hl 3 rfl) ?_
              have m_110 : ∀ (y0_110 : Int32) (H : Heap) (locs : List Loc) (ls : Array Slot), y0_110 = (if v6_43 ≤ v3_29 then v4_29 else v5_29) → okW D A s.heap H locs (wM cI cZ cJ h ad k_thrown k_s k_image k_hasImage k_steps k_read k_spot k_isWrong k_open k_act k_letBy k_letStamp k_stamp k_fallen k_held k_stands k_falling k_away k_round k_rests k_may k_next k_could k_couldNight k_night k_seats) → lv_has ls 8 [(0, .ref h), (1, .int p1), (2, .int p2), (3, .int v3_29), (5, .int v5_29), (6, .int v6_43)] → W p l e R s m args below meth c H locs 0 0 QQ (F0 m 110 ls [.int y0_110]) := by
                intro y0_110 H locs ls ey0_110 hO hl
                have hw := hw y0_110 ey0_110
                refine lv_istore (lv' := [(4, .int y0_110), (0, .ref h), (1, .int p1), (2, .int p2), (3, .int v3_29), (5, .int v5_29), (6, .int v6_43)]) hx hb dX12_hold_110 hl (by decide) rfl (fun ls hl => ?_)
                refine lv_iload hx hb dX12_hold_112 (lv_at hl 6 rfl) ?_
                refine lv_iload_n hx hb dX12_hold_114 rfl (lv_at hl 4 rfl) ?_
                have m_124 : ∀ (y0_124 : Int32) (H : Heap) (locs : List Loc) (ls : Array Slot), y0_124 = (if v6_43 ≤ v3_29 then v3_29 else v6_43) → okW D A s.heap H locs (wM cI cZ cJ h ad k_thrown k_s k_image k_hasImage k_steps k_read k_spot k_isWrong k_open k_act k_letBy k_letStamp k_stamp k_fallen k_held k_stands k_falling k_away k_round k_rests k_may k_next k_could k_couldNight k_night k_seats) → lv_has ls 8 [(0, .ref h), (1, .int p1), (2, .int p2), (4, .int y0_110), (5, .int v5_29)] → W p l e R s m args below meth c H locs 0 0 QQ (F0 m 124 ls [.int y0_124]) := by
                  intro y0_124 H locs ls ey0_124 hO hl
                  have hw := hw y0_124 ey0_124
                  refine lv_istore_n (lv' := [(3, .int y0_124), (0, .ref h), (1, .int p1), (2, .int p2), (4, .int y0_110), (5, .int v5_29)]) hx hb dX12_hold_124 rfl hl (by decide) rfl (fun ls hl => ?_)
                  refine lv_iinc (v := (v5_29 + (nI 1))) (lv' := [(5, .int (v5_29 + (nI 1))), (3, .int y0_124), (0, .ref h), (1, .int p1), (2, .int p2), (4, .int y0_110)]) hx hb dX12_hold_125 hl (k := 5) rfl (iinc_1 _) (by decide) rfl (fun ls hl => ?_)
                  refine lv_goto (tgt := 29) hx hb dX12_hold_128 (by decide) ?_
                  exact ih_29 y0_124 y0_110 (v5_29 + (nI 1)) _ _ _ hO (lv_sub hl [2, 3, 4, 1, 5, 0] rfl) hw
                refine lv_icmp_le (tgt := 123) hx hb dX12_hold_115 (by decide) (fun q_115 => ?_) (fun q_115 => ?_)
                · refine lv_iload_n hx hb dX12_hold_123 rfl (lv_at hl 4 rfl) ?_
                  have hl := lv_sub hl [1, 2, 3, 0, 5] rfl (l' := [(0, .ref h), (1, .int p1), (2, .int p2), (4, .int y0_110), (5, .int v5_29)])
                  exact m_124 _ _ _ _ (by rw [if_pos q_115]) hO hl
                · refine lv_iload hx hb dX12_hold_118 (lv_at hl 6 rfl) ?_
                  refine lv_goto (tgt := 124) hx hb dX12_hold_120 (by decide) ?_
                  have hl := lv_sub hl [1, 2, 3, 0, 5] rfl (l' := [(0, .ref h), (1, .int p1), (2, .int p2), (4, .int y0_110), (5, .int v5_29)])
                  exact m_124 _ _ _ _ (by rw [if_neg q_115]) hO hl
              refine lv_icmp_le (tgt := 108) hx hb dX12_hold_100 (by decide) (fun q_100 => ?_) (fun q_100 => ?_)
              · refine lv_iload hx hb dX12_hold_108 (lv_at hl 4 rfl) ?_
                have hl := lv_sub hl [0, 1, 2, 3, 5, 6] rfl (l' := [(0, .ref h), (1, .int p1), (2, .int p2), (3, .int v3_29), (5, .int v5_29), (6, .int v6_43)])
                exact m_110 _ _ _ _ (by rw [if_pos q_100]) hO hl
              · refine lv_iload hx hb dX12_hold_103 (lv_at hl 5 rfl) ?_
                refine lv_goto (tgt := 110) hx hb dX12_hold_105 (by decide) ?_
                have hl := lv_sub hl [0, 1, 2, 3, 5, 6] rfl (l' := [(0, .ref h), (1, .int p1), (2, .int p2), (3, .int v3_29), (5, .int v5_29), (6, .int v6_43)])
                exact m_110 _ _ _ _ (by rw [if_neg q_100]) hO hl
            · have hw := hw.2 q_52
              refine lv_iload hx hb dX12_hold_55 (lv_at hl 6 rfl) ?_
              refine lv_aload_n hx hb dX12_hold_57 rfl (lv_at hl 0 rfl) ?_
              refine gM_s C hin hK lk_s hO dX12_hold_58 ?_
              refine lv_sipush (v := (nI 460)) hx hb dX12_hold_61 (by decide) ?_
              refine lv_iload hx hb dX12_hold_64 (lv_at hl 7 rfl) ?_
              refine lv_iadd hx hb dX12_hold_66 ?_
              obtain ⟨o_67, hw⟩ := hw
              refine ldM_s C hK hO o_67 rfl dX12_hold_67 ?_
              refine lv_iload_n hx hb dX12_hold_68 rfl (lv_at hl 1 rfl) ?_
              obtain ⟨hs, hw⟩ := hw
              have m_88 : ∀ (y1_88 : Int32) (H : Heap) (locs : List Loc) (ls : Array Slot), y1_88 = (if p1 < (k_s (((nI 460) + v7_43)).toNatClampNeg) then (nI 0) else (if (f_X12_isTrue k_s v7_43 v5_29) = 0 then (nI 0) else (nI 1))) → okW D A s.heap H locs (wM cI cZ cJ h ad k_thrown k_s k_image k_hasImage k_steps k_read k_spot k_isWrong k_open k_act k_letBy k_letStamp k_stamp k_fallen k_held k_stands k_falling k_away k_round k_rests k_may k_next k_could k_couldNight k_night k_seats) → lv_has ls 8 [(0, .ref h), (1, .int p1), (2, .int p2), (3, .int v3_29), (4, .int v4_29), (5, .int v5_29), (7, .int v7_43)] → W p l e R s m args below meth c H locs 0 0 QQ (F0 m 88 ls [.int y1_88, .int v6_43]) := by
                intro y1_88 H locs ls ey1_88 hO hl
                have hw := hw y1_88 ey1_88
                refine lv_iadd hx hb dX12_hold_88 ?_
                refine lv_istore (lv' := [(6, .int (v6_43 + y1_88)), (0, .ref h), (1, .int p1), (2, .int p2), (3, .int v3_29), (4, .int v4_29), (5, .int v5_29), (7, .int v7_43)]) hx hb dX12_hold_89 hl (by decide) rfl (fun ls hl => ?_)
                refine lv_iinc (v := (v7_43 + (nI 1))) (lv' := [(7, .int (v7_43 + (nI 1))), (6, .int (v6_43 + y1_88)), (0, .ref h), (1, .int p1), (2, .int p2), (3, .int v3_29), (4, .int v4_29), (5, .int v5_29)]) hx hb dX12_hold_91 hl (k := 7) rfl (iinc_1 _) (by decide) rfl (fun ls hl => ?_)
                refine lv_goto (tgt := 43) hx hb dX12_hold_94 (by decide) ?_
                exact ih_43 (v6_43 + y1_88) (v7_43 + (nI 1)) _ _ _ hO (lv_sub hl [2, 3, 4, 5, 6, 7, 1, 0] rfl) hw
              refine lv_icmp_gt (tgt := 87) hx hb dX12_hold_69 (by decide) (fun q_69 => ?_) (fun q_69 => ?_)
              · refine lv_iconst (v := (nI 0)) hx hb dX12_hold_87 (by decide) ?_
                have hl := lv_sub hl [0, 1, 2, 3, 4, 5, 7] rfl (l' := [(0, .ref h), (1, .int p1), (2, .int p2), (3, .int v3_29), (4, .int v4_29), (5, .int v5_29), (7, .int v7_43)])
                exact m_88 _ _ _ _ (by rw [if_pos q_69]) hO hl
              · have hs := hs q_69
                have o_77 := hs
                refine lv_aload_n hx hb dX12_hold_72 rfl (lv_at hl 0 rfl) ?_
                refine lv_iload hx hb dX12_hold_73 (lv_at hl 7 rfl) ?_
                refine lv_iload hx hb dX12_hold_75 (lv_at hl 5 rfl) ?_
                refine cVi0 (As := [.int v7_43, .int v5_29]) (rest := [.int v6_43]) C hK hX hO (c_X12_isTrue (l := l) o_77) (cwV 2 hts gd_X12_249 rfl rfl rfl hd_X12_isTrue (rok hR (Nat.le_of_ble_eq_true rfl) (Nat.le_of_ble_eq_true rfl))) (ci := 12) (q0 := 0) rfl rfl rfl rfl hl.1 rfl (Nat.le_of_ble_eq_true rfl) dX12_hold_77 ⟨Nat.zero_le _, Nat.zero_le _⟩ (fun r_77 H locs e_77 hO => ?_)
                subst e_77
                refine lv_if_eq (tgt := 87) hx hb dX12_hold_80 (by decide) (fun q_80 => ?_) (fun q_80 => ?_)
                · refine lv_iconst (v := (nI 0)) hx hb dX12_hold_87 (by decide) ?_
                  have hl := lv_sub hl [0, 1, 2, 3, 4, 5, 7] rfl (l' := [(0, .ref h), (1, .int p1), (2, .int p2), (3, .int v3_29), (4, .int v4_29), (5, .int v5_29), (7, .int v7_43)])
                  exact m_88 _ _ _ _ (by rw [if_neg q_69, if_pos q_80]) hO hl
                · refine lv_iconst (v := (nI 1)) hx hb dX12_hold_83 (by decide) ?_
                  refine lv_goto (tgt := 88) hx hb dX12_hold_84 (by decide) ?_
                  have hl := lv_sub hl [0, 1, 2, 3, 4, 5, 7] rfl (l' := [(0, .ref h), (1, .int p1), (2, .int p2), (3, .int v3_29), (4, .int v4_29), (5, .int v5_29), (7, .int v7_43)])
                  exact m_88 _ _ _ _ (by rw [if_neg q_69, if_neg q_80]) hO hl
          have l_43 : ∀ (n : Nat) (v6_43 : Int32) (v7_43 : Int32) (H : Heap) (locs : List Loc) (ls : Array Slot), okW D A s.heap H locs (wM cI cZ cJ h ad k_thrown k_s k_image k_hasImage k_steps k_read k_spot k_isWrong k_open k_act k_letBy k_letStamp k_stamp k_fallen k_held k_stands k_falling k_away k_round k_rests k_may k_next k_could k_couldNight k_night k_seats) → lv_has ls 8 [(0, .ref h), (1, .int p1), (2, .int p2), (3, .int v3_29), (4, .int v4_29), (5, .int v5_29), (6, .int v6_43), (7, .int v7_43)] → wl_X12_hold_43 p1 k_s v3_29 v4_29 v5_29 L_29 n v6_43 v7_43 → W p l e R s m args below meth c H locs 0 0 QQ (F0 m 43 ls []) := by
            intro n
            induction n with
            | zero => intro v6_43 v7_43 H locs ls hO hl hw; exact False.elim hw
            | succ n ih => exact b_43 _ ih
          exact l_43 n_43 (nI 0) (nI 0) _ _ _ hO (lv_sub hl [2, 3, 4, 5, 6, 7, 1, 0] rfl) hw
      have l_29 : ∀ (n : Nat) (v3_29 : Int32) (v4_29 : Int32) (v5_29 : Int32) (H : Heap) (locs : List Loc) (ls : Array Slot), okW D A s.heap H locs (wM cI cZ cJ h ad k_thrown k_s k_image k_hasImage k_steps k_read k_spot k_isWrong k_open k_act k_letBy k_letStamp k_stamp k_fallen k_held k_stands k_falling k_away k_round k_rests k_may k_next k_could k_couldNight k_night k_seats) → lv_has ls 8 [(0, .ref h), (1, .int p1), (2, .int p2), (3, .int v3_29), (4, .int v4_29), (5, .int v5_29)] → wl_X12_hold_29 p1 p2 k_s Q n v3_29 v4_29 v5_29 → W p l e R s m args below meth c H locs 0 0 QQ (F0 m 29 ls []) := by
        intro n
        induction n with
        | zero => intro v3_29 v4_29 v5_29 H locs ls hO hl hw; exact False.elim hw
        | succ n ih => exact b_29 _ ih
      exact l_29 n_29 (-1) (nI 0) (nI 0) _ _ _ hO (lv_sub hl [3, 4, 5, 2, 1, 0] rfl) hw
    · have hw := hw.2 q_15
      refine lv_bipush (v := (-2)) hx hb dX12_hold_18 (by decide) ?_
      exact ri0 hQQ hx hb hr hlk hK hO hw dX12_hold_20
  · have hw := hw.2 q_6
    refine lv_iconst (v := (-1)) hx hb dX12_hold_9 (by decide) ?_
    exact ri0 hQQ hx hb hr hlk hK hO hw dX12_hold_10
