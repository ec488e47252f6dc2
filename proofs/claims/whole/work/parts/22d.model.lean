theorem gd_X12_163 {a : Cond} : GoodIn (a :: wsG) (wsV RX12 163 RX12 yX12_rulingOf (Cond.code yX12_rulingOf cX12_rulingOf 4 (some .int) :: wsG)) := gdV qw6_150 qw6_152 qs_48 qw1_12 qw6_153
theorem hd_X12_rulingOf : yX12_rulingOf.cls = RX12 ∧ yX12_rulingOf.cls ≠ "java/lang/invoke/MethodHandle" ∧ yX12_rulingOf.cls ≠ "java/lang/invoke/VarHandle" ∧ (parseMethodDescriptor yX12_rulingOf.desc).map (fun d => d.parameters.length) = some 1 := by decide +kernel
theorem gd_X12_166 {a : Cond} : GoodIn (a :: wsG) (wsV RX12 166 RX12 yX12_letsBy (Cond.code yX12_letsBy cX12_letsBy 5 (some .boolean) :: wsG)) := gdV qw6_154 qw6_156 qs_49 qw1_12 qw6_157
theorem hd_X12_letsBy : yX12_letsBy.cls = RX12 ∧ yX12_letsBy.cls ≠ "java/lang/invoke/MethodHandle" ∧ yX12_letsBy.cls ≠ "java/lang/invoke/VarHandle" ∧ (parseMethodDescriptor yX12_letsBy.desc).map (fun d => d.parameters.length) = some 3 := by decide +kernel
def wb_X12_lets_37 (p1 : Int32) (p2 : Int32) (k_s : Nat → Int32) (k_stamp : Int32) (Q : Int32 → (Int32) → (Int32) → (Int32) → (Int32) → (Int32) → (Nat → Int32) → (Nat → Int32) → Prop) (L_37 : Int32 → Int32 → Int32 → Int32 → Int32 → Int32 → Int32 → (Nat → Int32) → (Nat → Int32) → Prop) (v4_37 : Int32) (v5_37 : Int32) (read_37 : Int32) (spot_37 : Int32) (isWrong_37 : Int32) (open_37 : Int32) (act_37 : Int32) (letBy_37 : Nat → Int32) (letStamp_37 : Nat → Int32) : Prop := (((nI 3) ≤ v5_37 → (∀ y0_81 : Int32, y0_81 = (if v4_37 ≤ (nI 1) then (nI 0) else (nI 1)) → (Q y0_81 read_37 spot_37 isWrong_37 open_37 act_37 letBy_37 letStamp_37))) ∧ (¬ (nI 3) ≤ v5_37 → (wp_X12_letsBy v5_37 p1 p2 k_s read_37 spot_37 isWrong_37 open_37 act_37 letBy_37 letStamp_37 k_stamp (fun (r_50 : Int32) (read_50 : Int32) (spot_50 : Int32) (isWrong_50 : Int32) (open_50 : Int32) (act_50 : Int32) (letBy_50 : Nat → Int32) (letStamp_50 : Nat → Int32) => (∀ y1_61 : Int32, y1_61 = (if r_50 = 0 then (nI 0) else (nI 1)) → (L_37 (v4_37 + y1_61) (v5_37 + (nI 1)) read_50 spot_50 isWrong_50 open_50 act_50 letBy_50 letStamp_50))))))
def wl_X12_lets_37 (p1 : Int32) (p2 : Int32) (k_s : Nat → Int32) (k_stamp : Int32) (Q : Int32 → (Int32) → (Int32) → (Int32) → (Int32) → (Int32) → (Nat → Int32) → (Nat → Int32) → Prop) : Nat → Int32 → Int32 → Int32 → Int32 → Int32 → Int32 → Int32 → (Nat → Int32) → (Nat → Int32) → Prop
  | 0, _, _, _, _, _, _, _, _, _ => False
  | n + 1, v4_37, v5_37, read_37, spot_37, isWrong_37, open_37, act_37, letBy_37, letStamp_37 => wb_X12_lets_37 p1 p2 k_s k_stamp Q (wl_X12_lets_37 p1 p2 k_s k_stamp Q n) v4_37 v5_37 read_37 spot_37 isWrong_37 open_37 act_37 letBy_37 letStamp_37
def wp_X12_lets (p1 : Int32) (p2 : Int32) (k_s : Nat → Int32) (k_read : Int32) (k_spot : Int32) (k_isWrong : Int32) (k_open : Int32) (k_act : Int32) (k_letBy : Nat → Int32) (k_letStamp : Nat → Int32) (k_stamp : Int32) (k_stands : Nat → Int32) (Q : Int32 → (Int32) → (Int32) → (Int32) → (Int32) → (Int32) → (Nat → Int32) → (Nat → Int32) → Prop) : Prop := (wp_X12_rulingOf p1 k_s k_stands (fun (r_2 : Int32) => ((r_2 = (-1) → (∃ n, wl_X12_lets_37 p1 p2 k_s k_stamp Q n (nI 0) (nI 0) k_read k_spot k_isWrong k_open k_act k_letBy k_letStamp)) ∧ (¬ r_2 = (-1) → (vp_in ((nI 1560) + r_2) 6700 ∧ (∀ y0_30 : Int32, y0_30 = (if (k_s (((nI 1560) + r_2)).toNatClampNeg) = (nI 1) then (nI 1) else (nI 0)) → (Q y0_30 k_read k_spot k_isWrong k_open k_act k_letBy k_letStamp)))))))
set_option maxHeartbeats 4000000 in
set_option maxRecDepth 100000 in
theorem c_X12_lets {l : Launch} {D : va_G} {cI cZ cJ : ClassId} {h : Nat} {ad : Nat → Nat} {sz : Nat} {k_thrown : Int32} {k_s : Nat → Int32} {k_image : Nat → Int32} {k_hasImage : Int32} {k_steps : Nat → Int32} {k_read : Int32} {k_spot : Int32} {k_isWrong : Int32} {k_open : Int32} {k_act : Int32} {k_letBy : Nat → Int32} {k_letStamp : Nat → Int32} {k_stamp : Int32} {k_fallen : Nat → Int32} {k_held : Nat → Int32} {k_stands : Nat → Int32} {k_falling : Nat → Int32} {k_away : Nat → Int32} {k_round : Nat → Int32} {k_rests : Nat → Int64} {k_may : Nat → Int32} {k_next : Nat → Int32} {k_could : Nat → Int32} {k_couldNight : Nat → Int32} {k_night : Int32} {k_seats : Nat → Int32} {p1 : Int32} {p2 : Int32} {Q : Int32 → (Int32) → (Int32) → (Int32) → (Int32) → (Int32) → (Nat → Int32) → (Nat → Int32) → Prop} (hw : wp_X12_lets p1 p2 k_s k_read k_spot k_isWrong k_open k_act k_letBy k_letStamp k_stamp k_stands Q) : Met l yX12_lets (Cond.code yX12_lets cX12_lets 6 (some .boolean) :: wsG) ({ frames := 34, cells := 0, slots := 0, locals := 774 } : Room) (preW D (tyM cI cZ cJ) (wM cI cZ cJ h ad k_thrown k_s k_image k_hasImage k_steps k_read k_spot k_isWrong k_open k_act k_letBy k_letStamp k_stamp k_fallen k_held k_stands k_falling k_away k_round k_rests k_may k_next k_could k_couldNight k_night k_seats) sz [.ref h, .int p1, .int p2]) (qi7 D (tyM cI cZ cJ) (va_A (wM cI cZ cJ h ad k_thrown k_s k_image k_hasImage k_steps k_read k_spot k_isWrong k_open k_act k_letBy k_letStamp k_stamp k_fallen k_held k_stands k_falling k_away k_round k_rests k_may k_next k_could k_couldNight k_night k_seats) sz) Q (fun k_read' k_spot' k_isWrong' k_open' k_act' k_letBy' k_letStamp' => (wM cI cZ cJ h ad k_thrown k_s k_image k_hasImage k_steps k_read' k_spot' k_isWrong' k_open' k_act' k_letBy' k_letStamp' k_stamp k_fallen k_held k_stands k_falling k_away k_round k_rests k_may k_next k_could k_couldNight k_night k_seats))) 0 0 (va_A (wM cI cZ cJ h ad k_thrown k_s k_image k_hasImage k_steps k_read k_spot k_isWrong k_open k_act k_letBy k_letStamp k_stamp k_fallen k_held k_stands k_falling k_away k_round k_rests k_may k_next k_could k_couldNight k_night k_seats) sz) := by
  refine st_met (cc := cX12_lets) (maxL := 6) (ret := (some .boolean)) (lv := [(0, .ref h), (1, .int p1), (2, .int p2)]) (Qc := fun A => qi7 D (tyM cI cZ cJ) A Q (fun k_read' k_spot' k_isWrong' k_open' k_act' k_letBy' k_letStamp' => (wM cI cZ cJ h ad k_thrown k_s k_image k_hasImage k_steps k_read' k_spot' k_isWrong' k_open' k_act' k_letBy' k_letStamp' k_stamp k_fallen k_held k_stands k_falling k_away k_round k_rests k_may k_next k_could k_couldNight k_night k_seats))) (by decide) rfl (Nat.le_of_ble_eq_true rfl) rfl ?_
  intro p e s m below meth c ls A R args QQ H locs C hr hlk hnm hK hX hsz hl hO hR hQQ
  have hx := C.1
  have hb := C.2.1
  have hown := C.2.2.2.1
  have hts := C.2.2.2.2
  have hin : ∀ w ∈ u_ws RX12 TX12 26, w ∈ (Cond.code yX12_lets cX12_lets 6 (some .boolean) :: wsG) := fun w h9 => List.mem_cons_of_mem _ (inG12 w h9)
  have lk_s := hts (Cond.fieldLink RX12 7 "FreeCityModel" "s" "[I") (List.mem_cons_of_mem _ qw5_207)
  unfold wp_X12_lets at hw
  refine lv_aload_n hx hb dX12_lets_0 rfl (lv_at hl 0 rfl) ?_
  refine lv_iload_n hx hb dX12_lets_1 rfl (lv_at hl 1 rfl) ?_
  refine cVi0 (As := [.int p1]) (rest := []) C hK hX hO (c_X12_rulingOf (l := l) hw) (cwV 1 hts gd_X12_163 rfl rfl rfl hd_X12_rulingOf (rok hR (Nat.le_of_ble_eq_true rfl) (Nat.le_of_ble_eq_true rfl))) (ci := 12) (q0 := 0) rfl rfl rfl rfl hl.1 rfl (Nat.le_of_ble_eq_true rfl) dX12_lets_2 ⟨Nat.zero_le _, Nat.zero_le _⟩ (fun r_2 H locs hw hO => ?_)
  refine lv_istore_n (lv' := [(3, .int r_2), (0, .ref h), (1, .int p1), (2, .int p2)]) hx hb dX12_lets_5 rfl hl (by decide) rfl (fun ls hl => ?_)
  refine lv_iload_n hx hb dX12_lets_6 rfl (lv_at hl 0 rfl) ?_
  refine lv_iconst (v := (-1)) hx hb dX12_lets_7 (by decide) ?_
  refine lv_icmp_eq (tgt := 31) hx hb dX12_lets_8 (by decide) (fun q_8 => ?_) (fun q_8 => ?_)
  · have hw := hw.1 q_8
    refine lv_iconst (v := (nI 0)) hx hb dX12_lets_31 (by decide) ?_
    refine lv_istore (lv' := [(4, .int (nI 0)), (3, .int r_2), (0, .ref h), (1, .int p1), (2, .int p2)]) hx hb dX12_lets_32 hl (by decide) rfl (fun ls hl => ?_)
    refine lv_iconst (v := (nI 0)) hx hb dX12_lets_34 (by decide) ?_
    refine lv_istore (lv' := [(5, .int (nI 0)), (4, .int (nI 0)), (3, .int r_2), (0, .ref h), (1, .int p1), (2, .int p2)]) hx hb dX12_lets_35 hl (by decide) rfl (fun ls hl => ?_)
    obtain ⟨n_37, hw⟩ := hw
    have b_37 : ∀ (L_37 : Int32 → Int32 → Int32 → Int32 → Int32 → Int32 → Int32 → (Nat → Int32) → (Nat → Int32) → Prop) (ih_37 : ∀ (v4_37 : Int32) (v5_37 : Int32) (read_37 : Int32) (spot_37 : Int32) (isWrong_37 : Int32) (open_37 : Int32) (act_37 : Int32) (letBy_37 : Nat → Int32) (letStamp_37 : Nat → Int32) (H : Heap) (locs : List Loc) (ls : Array Slot), okW D A s.heap H locs (wM cI cZ cJ h ad k_thrown k_s k_image k_hasImage k_steps read_37 spot_37 isWrong_37 open_37 act_37 letBy_37 letStamp_37 k_stamp k_fallen k_held k_stands k_falling k_away k_round k_rests k_may k_next k_could k_couldNight k_night k_seats) → lv_has ls 6 [(0, .ref h), (1, .int p1), (2, .int p2), (4, .int v4_37), (5, .int v5_37)] → L_37 v4_37 v5_37 read_37 spot_37 isWrong_37 open_37 act_37 letBy_37 letStamp_37 → W p l e R s m args below meth c H locs 0 0 QQ (F0 m 37 ls [])) (v4_37 : Int32) (v5_37 : Int32) (read_37 : Int32) (spot_37 : Int32) (isWrong_37 : Int32) (open_37 : Int32) (act_37 : Int32) (letBy_37 : Nat → Int32) (letStamp_37 : Nat → Int32) (H : Heap) (locs : List Loc) (ls : Array Slot), okW D A s.heap H locs (wM cI cZ cJ h ad k_thrown k_s k_image k_hasImage k_steps read_37 spot_37 isWrong_37 open_37 act_37 letBy_37 letStamp_37 k_stamp k_fallen k_held k_stands k_falling k_away k_round k_rests k_may k_next k_could k_couldNight k_night k_seats) → lv_has ls 6 [(0, .ref h), (1, .int p1), (2, .int p2), (4, .int v4_37), (5, .int v5_37)] → wb_X12_lets_37 p1 p2 k_s k_stamp Q L_37 v4_37 v5_37 read_37 spot_37 isWrong_37 open_37 act_37 letBy_37 letStamp_37 → W p l e R s m args below meth c H locs 0 0 QQ (F0 m 37 ls []) := by
      intro L_37 ih_37 v4_37 v5_37 read_37 spot_37 isWrong_37 open_37 act_37 letBy_37 letStamp_37 H locs ls hO hl hw
      unfold wb_X12_lets_37 at hw
      refine lv_iload hx hb dX12_lets_37 (lv_at hl 4 rfl) ?_
      refine lv_iconst (v := (nI 3)) hx hb dX12_lets_39 (by decide) ?_
      refine lv_icmp_ge (tgt := 70) hx hb dX12_lets_40 (by decide) (fun q_40 => ?_) (fun q_40 => ?_)
      · have hw := hw.1 q_40
        refine lv_iload hx hb dX12_lets_70 (lv_at hl 3 rfl) ?_
        refine lv_iconst (v := (nI 1)) hx hb dX12_lets_72 (by decide) ?_
        have m_81 : ∀ (y0_81 : Int32) (H : Heap) (locs : List Loc) (ls : Array Slot), y0_81 = (if v4_37 ≤ (nI 1) then (nI 0) else (nI 1)) → okW D A s.heap H locs (wM cI cZ cJ h ad k_thrown k_s k_image k_hasImage k_steps read_37 spot_37 isWrong_37 open_37 act_37 letBy_37 letStamp_37 k_stamp k_fallen k_held k_stands k_falling k_away k_round k_rests k_may k_next k_could k_couldNight k_night k_seats) → lv_has ls 6 [] → W p l e R s m args below meth c H locs 0 0 QQ (F0 m 81 ls [.int y0_81]) := by
          intro y0_81 H locs ls ey0_81 hO hl
          have hw := hw y0_81 ey0_81
          exact rz7 hQQ hx hb hr hlk hK hO (by rw [ey0_81]; exact (zb_ite zb0 zb1)) hw dX12_lets_81
        refine lv_icmp_le (tgt := 80) hx hb dX12_lets_73 (by decide) (fun q_73 => ?_) (fun q_73 => ?_)
        · refine lv_iconst (v := (nI 0)) hx hb dX12_lets_80 (by decide) ?_
          have hl := lv_sub hl [] rfl (l' := [])
          exact m_81 _ _ _ _ (by rw [if_pos q_73]) hO hl
        · refine lv_iconst (v := (nI 1)) hx hb dX12_lets_76 (by decide) ?_
          refine lv_goto (tgt := 81) hx hb dX12_lets_77 (by decide) ?_
          have hl := lv_sub hl [] rfl (l' := [])
          exact m_81 _ _ _ _ (by rw [if_neg q_73]) hO hl
      · have hw := hw.2 q_40
        refine lv_iload hx hb dX12_lets_43 (lv_at hl 3 rfl) ?_
        refine lv_aload_n hx hb dX12_lets_45 rfl (lv_at hl 0 rfl) ?_
        refine lv_iload hx hb dX12_lets_46 (lv_at hl 4 rfl) ?_
        refine lv_iload_n hx hb dX12_lets_48 rfl (lv_at hl 1 rfl) ?_
        refine lv_iload_n hx hb dX12_lets_49 rfl (lv_at hl 2 rfl) ?_
        refine cVi7 (As := [.int v5_37, .int p1, .int p2]) (rest := [.int v4_37]) C hK hX hO (c_X12_letsBy (l := l) hw) (cwV 3 hts gd_X12_166 rfl rfl rfl hd_X12_letsBy (rok hR (Nat.le_of_ble_eq_true rfl) (Nat.le_of_ble_eq_true rfl))) (ci := 12) (q0 := 0) rfl rfl rfl rfl hl.1 rfl (Nat.le_of_ble_eq_true rfl) dX12_lets_50 ⟨Nat.zero_le _, Nat.zero_le _⟩ (fun r_50 read_50 spot_50 isWrong_50 open_50 act_50 letBy_50 letStamp_50 H locs hw hO => ?_)
        have m_61 : ∀ (y1_61 : Int32) (H : Heap) (locs : List Loc) (ls : Array Slot), y1_61 = (if r_50 = 0 then (nI 0) else (nI 1)) → okW D A s.heap H locs (wM cI cZ cJ h ad k_thrown k_s k_image k_hasImage k_steps read_50 spot_50 isWrong_50 open_50 act_50 letBy_50 letStamp_50 k_stamp k_fallen k_held k_stands k_falling k_away k_round k_rests k_may k_next k_could k_couldNight k_night k_seats) → lv_has ls 6 [(0, .ref h), (1, .int p1), (2, .int p2), (5, .int v5_37)] → W p l e R s m args below meth c H locs 0 0 QQ (F0 m 61 ls [.int y1_61, .int v4_37]) := by
          intro y1_61 H locs ls ey1_61 hO hl
          have hw := hw y1_61 ey1_61
          refine lv_iadd hx hb dX12_lets_61 ?_
          refine lv_istore (lv' := [(4, .int (v4_37 + y1_61)), (0, .ref h), (1, .int p1), (2, .int p2), (5, .int v5_37)]) hx hb dX12_lets_62 hl (by decide) rfl (fun ls hl => ?_)
          refine lv_iinc (v := (v5_37 + (nI 1))) (lv' := [(5, .int (v5_37 + (nI 1))), (4, .int (v4_37 + y1_61)), (0, .ref h), (1, .int p1), (2, .int p2)]) hx hb dX12_lets_64 hl (k := 4) rfl (iinc_1 _) (by decide) rfl (fun ls hl => ?_)
          refine lv_goto (tgt := 37) hx hb dX12_lets_67 (by decide) ?_
          exact ih_37 (v4_37 + y1_61) (v5_37 + (nI 1)) read_50 spot_50 isWrong_50 open_50 act_50 letBy_50 letStamp_50 _ _ _ hO (lv_sub hl [2, 3, 4, 1, 0] rfl) hw
        refine lv_if_eq (tgt := 60) hx hb dX12_lets_53 (by decide) (fun q_53 => ?_) (fun q_53 => ?_)
        · refine lv_iconst (v := (nI 0)) hx hb dX12_lets_60 (by decide) ?_
          have hl := lv_sub hl [0, 1, 2, 4] rfl (l' := [(0, .ref h), (1, .int p1), (2, .int p2), (5, .int v5_37)])
          exact m_61 _ _ _ _ (by rw [if_pos q_53]) hO hl
        · refine lv_iconst (v := (nI 1)) hx hb dX12_lets_56 (by decide) ?_
          refine lv_goto (tgt := 61) hx hb dX12_lets_57 (by decide) ?_
          have hl := lv_sub hl [0, 1, 2, 4] rfl (l' := [(0, .ref h), (1, .int p1), (2, .int p2), (5, .int v5_37)])
          exact m_61 _ _ _ _ (by rw [if_neg q_53]) hO hl
    have l_37 : ∀ (n : Nat) (v4_37 : Int32) (v5_37 : Int32) (read_37 : Int32) (spot_37 : Int32) (isWrong_37 : Int32) (open_37 : Int32) (act_37 : Int32) (letBy_37 : Nat → Int32) (letStamp_37 : Nat → Int32) (H : Heap) (locs : List Loc) (ls : Array Slot), okW D A s.heap H locs (wM cI cZ cJ h ad k_thrown k_s k_image k_hasImage k_steps read_37 spot_37 isWrong_37 open_37 act_37 letBy_37 letStamp_37 k_stamp k_fallen k_held k_stands k_falling k_away k_round k_rests k_may k_next k_could k_couldNight k_night k_seats) → lv_has ls 6 [(0, .ref h), (1, .int p1), (2, .int p2), (4, .int v4_37), (5, .int v5_37)] → wl_X12_lets_37 p1 p2 k_s k_stamp Q n v4_37 v5_37 read_37 spot_37 isWrong_37 open_37 act_37 letBy_37 letStamp_37 → W p l e R s m args below meth c H locs 0 0 QQ (F0 m 37 ls []) := by
      intro n
      induction n with
      | zero => intro v4_37 v5_37 read_37 spot_37 isWrong_37 open_37 act_37 letBy_37 letStamp_37 H locs ls hO hl hw; exact False.elim hw
      | succ n ih => exact b_37 _ ih
    exact l_37 n_37 (nI 0) (nI 0) k_read k_spot k_isWrong k_open k_act k_letBy k_letStamp _ _ _ hO (lv_sub hl [3, 4, 5, 1, 0] rfl) hw
  · have hw := hw.2 q_8
    refine lv_aload_n hx hb dX12_lets_11 rfl (lv_at hl 1 rfl) ?_
    refine gM_s C hin hK lk_s hO dX12_lets_12 ?_
    refine lv_sipush (v := (nI 1560)) hx hb dX12_lets_15 (by decide) ?_
    refine lv_iload_n hx hb dX12_lets_18 rfl (lv_at hl 0 rfl) ?_
    refine lv_iadd hx hb dX12_lets_19 ?_
    obtain ⟨o_20, hw⟩ := hw
    refine ldM_s C hK hO o_20 rfl dX12_lets_20 ?_
    refine lv_iconst (v := (nI 1)) hx hb dX12_lets_21 (by decide) ?_
    have m_30 : ∀ (y0_30 : Int32) (H : Heap) (locs : List Loc) (ls : Array Slot), y0_30 = (if (k_s (((nI 1560) + r_2)).toNatClampNeg) = (nI 1) then (nI 1) else (nI 0)) → okW D A s.heap H locs (wM cI cZ cJ h ad k_thrown k_s k_image k_hasImage k_steps k_read k_spot k_isWrong k_open k_act k_letBy k_letStamp k_stamp k_fallen k_held k_stands k_falling k_away k_round k_rests k_may k_next k_could k_couldNight k_night k_seats) → lv_has ls 6 [] → W p l e R s m args below meth c H locs 0 0 QQ (F0 m 30 ls [.int y0_30]) := by
      intro y0_30 H locs ls ey0_30 hO hl
      have hw := hw y0_30 ey0_30
      exact rz7 hQQ hx hb hr hlk hK hO (by rw [ey0_30]; exact (zb_ite zb1 zb0)) hw dX12_lets_30
    refine lv_icmp_ne (tgt := 29) hx hb dX12_lets_22 (by decide) (fun q_22 => ?_) (fun q_22 => ?_)
    · refine lv_iconst (v := (nI 0)) hx hb dX12_lets_29 (by decide) ?_
      have hl := lv_sub hl [] rfl (l' := [])
      exact m_30 _ _ _ _ (by rw [if_neg q_22]) hO hl
    · refine lv_iconst (v := (nI 1)) hx hb dX12_lets_25 (by decide) ?_
      refine lv_goto (tgt := 30) hx hb dX12_lets_26 (by decide) ?_
      have hl := lv_sub hl [] rfl (l' := [])
      exact m_30 _ _ _ _ (by rw [if_pos q_22]) hO hl
def f_X12_leans (k_s : Nat → Int32) (p1 : Int32) (p2 : Int32) : Int32 := (if (k_s ((((nI 1910) + ((nI 50) * p1)) + p2)).toNatClampNeg) = (nI 1) then (nI 1) else (nI 0))
def ok_X12_leans (k_s : Nat → Int32) (p1 : Int32) (p2 : Int32) : Prop := vp_in (((nI 1910) + ((nI 50) * p1)) + p2) 6700
theorem z_X12_leans (k_s : Nat → Int32) (p1 : Int32) (p2 : Int32) : zb (f_X12_leans k_s p1 p2) := by
  unfold f_X12_leans
  exact (zb_ite zb1 zb0)
set_option maxHeartbeats 4000000 in
set_option maxRecDepth 100000 in
theorem c_X12_leans {l : Launch} {D : va_G} {cI cZ cJ : ClassId} {h : Nat} {ad : Nat → Nat} {sz : Nat} {k_thrown : Int32} {k_s : Nat → Int32} {k_image : Nat → Int32} {k_hasImage : Int32} {k_steps : Nat → Int32} {k_read : Int32} {k_spot : Int32} {k_isWrong : Int32} {k_open : Int32} {k_act : Int32} {k_letBy : Nat → Int32} {k_letStamp : Nat → Int32} {k_stamp : Int32} {k_fallen : Nat → Int32} {k_held : Nat → Int32} {k_stands : Nat → Int32} {k_falling : Nat → Int32} {k_away : Nat → Int32} {k_round : Nat → Int32} {k_rests : Nat → Int64} {k_may : Nat → Int32} {k_next : Nat → Int32} {k_could : Nat → Int32} {k_couldNight : Nat → Int32} {k_night : Int32} {k_seats : Nat → Int32} {p1 : Int32} {p2 : Int32} (hw : ok_X12_leans k_s p1 p2) : Met l yX12_leans (Cond.code yX12_leans cX12_leans 3 (some .boolean) :: wsG) ({ frames := 0, cells := 0, slots := 0, locals := 0 } : Room) (preW D (tyM cI cZ cJ) (wM cI cZ cJ h ad k_thrown k_s k_image k_hasImage k_steps k_read k_spot k_isWrong k_open k_act k_letBy k_letStamp k_stamp k_fallen k_held k_stands k_falling k_away k_round k_rests k_may k_next k_could k_couldNight k_night k_seats) sz [.ref h, .int p1, .int p2]) (qi0 D (tyM cI cZ cJ) (va_A (wM cI cZ cJ h ad k_thrown k_s k_image k_hasImage k_steps k_read k_spot k_isWrong k_open k_act k_letBy k_letStamp k_stamp k_fallen k_held k_stands k_falling k_away k_round k_rests k_may k_next k_could k_couldNight k_night k_seats) sz) (fun r => r = f_X12_leans k_s p1 p2) (wM cI cZ cJ h ad k_thrown k_s k_image k_hasImage k_steps k_read k_spot k_isWrong k_open k_act k_letBy k_letStamp k_stamp k_fallen k_held k_stands k_falling k_away k_round k_rests k_may k_next k_could k_couldNight k_night k_seats)) 0 0 (va_A (wM cI cZ cJ h ad k_thrown k_s k_image k_hasImage k_steps k_read k_spot k_isWrong k_open k_act k_letBy k_letStamp k_stamp k_fallen k_held k_stands k_falling k_away k_round k_rests k_may k_next k_could k_couldNight k_night k_seats) sz) := by
  refine st_met (cc := cX12_leans) (maxL := 3) (ret := (some .boolean)) (lv := [(0, .ref h), (1, .int p1), (2, .int p2)]) (Qc := fun A => qi0 D (tyM cI cZ cJ) A (fun r => r = f_X12_leans k_s p1 p2) (wM cI cZ cJ h ad k_thrown k_s k_image k_hasImage k_steps k_read k_spot k_isWrong k_open k_act k_letBy k_letStamp k_stamp k_fallen k_held k_stands k_falling k_away k_round k_rests k_may k_next k_could k_couldNight k_night k_seats)) (by decide) rfl (Nat.le_of_ble_eq_true rfl) rfl ?_
  intro p e s m below meth c ls A R args QQ H locs C hr hlk hnm hK hX hsz hl hO hR hQQ
  have hx := C.1
  have hb := C.2.1
  have hown := C.2.2.2.1
  have hts := C.2.2.2.2
  have hin : ∀ w ∈ u_ws RX12 TX12 26, w ∈ (Cond.code yX12_leans cX12_leans 3 (some .boolean) :: wsG) := fun w h9 => List.mem_cons_of_mem _ (inG12 w h9)
  have lk_s := hts (Cond.fieldLink RX12 7 "FreeCityModel" "s" "[I") (List.mem_cons_of_mem _ qw5_207)
  unfold ok_X12_leans at hw
  have hs := hw
  have o_14 := hs
  refine lv_aload_n hx hb dX12_leans_0 rfl (lv_at hl 0 rfl) ?_
  refine gM_s C hin hK lk_s hO dX12_leans_1 ?_
  refine lv_sipush (v := (nI 1910)) hx hb dX12_leans_4 (by decide) ?_
  refine lv_bipush (v := (nI 50)) hx hb dX12_leans_7 (by decide) ?_
  refine lv_iload_n hx hb dX12_leans_9 rfl (lv_at hl 1 rfl) ?_
  refine lv_imul hx hb dX12_leans_10 ?_
  refine lv_iadd hx hb dX12_leans_11 ?_
  refine lv_iload_n hx hb dX12_leans_12 rfl (lv_at hl 2 rfl) ?_
  refine lv_iadd hx hb dX12_leans_13 ?_
  refine ldM_s C hK hO o_14 rfl dX12_leans_14 ?_
  refine lv_iconst (v := (nI 1)) hx hb dX12_leans_15 (by decide) ?_
  refine lv_icmp_ne (tgt := 23) hx hb dX12_leans_16 (by decide) (fun q_16 => ?_) (fun q_16 => ?_)
  · refine lv_iconst (v := (nI 0)) hx hb dX12_leans_23 (by decide) ?_
    exact rz0 hQQ hx hb hr hlk hK hO zb0 (by unfold f_X12_leans; rw [if_neg q_16]) dX12_leans_24
  · refine lv_iconst (v := (nI 1)) hx hb dX12_leans_19 (by decide) ?_
    refine lv_goto (tgt := 24) hx hb dX12_leans_20 (by decide) ?_
    exact rz0 hQQ hx hb hr hlk hK hO zb1 (by unfold f_X12_leans; rw [if_pos q_16]) dX12_leans_24
theorem gd_X12_190 {a : Cond} : GoodIn (a :: wsG) (wsV RX12 190 RX12 yX12_leans (Cond.code yX12_leans cX12_leans 3 (some .boolean) :: wsG)) := gdV qw6_142 qw6_144 qs_46 qw1_12 qw6_145
theorem hd_X12_leans : yX12_leans.cls = RX12 ∧ yX12_leans.cls ≠ "java/lang/invoke/MethodHandle" ∧ yX12_leans.cls ≠ "java/lang/invoke/VarHandle" ∧ (parseMethodDescriptor yX12_leans.desc).map (fun d => d.parameters.length) = some 2 := by decide +kernel
def wb_X12_spreads_fallen_23 (k_s : Nat → Int32) (v3_10 : Int32) (L_10 : Int32 → Int32 → (Nat → Int32) → Prop) (L_23 : Int32 → Int32 → (Nat → Int32) → Prop) (v2_23 : Int32) (v4_23 : Int32) (fallen_23 : Nat → Int32) : Prop := (((k_s 2) ≤ v4_23 → (L_10 v2_23 (v3_10 + (nI 1)) fallen_23)) ∧ (¬ (k_s 2) ≤ v4_23 → (vp_in v3_10 50 ∧ ((((fallen_23 (v3_10).toNatClampNeg) = 0 → (vp_in v4_23 50 ∧ (¬ (fallen_23 (v4_23).toNatClampNeg) = 0 → (ok_X12_leans k_s v3_10 v4_23))))) ∧ ((((fallen_23 (v3_10).toNatClampNeg) = 0 ∧ (¬ (fallen_23 (v4_23).toNatClampNeg) = 0 ∧ ¬ (f_X12_leans k_s v3_10 v4_23) = 0)) → (vp_in v3_10 50 ∧ (L_23 (nI 1) (v4_23 + (nI 1)) (upd fallen_23 ((v3_10).toNatClampNeg) (vp_nar .boolean (nI 1)))))) ∧ (¬ (((fallen_23 (v3_10).toNatClampNeg) = 0 ∧ (¬ (fallen_23 (v4_23).toNatClampNeg) = 0 ∧ ¬ (f_X12_leans k_s v3_10 v4_23) = 0))) → (L_23 v2_23 (v4_23 + (nI 1)) fallen_23)))))))
def wl_X12_spreads_fallen_23 (k_s : Nat → Int32) (v3_10 : Int32) (L_10 : Int32 → Int32 → (Nat → Int32) → Prop) : Nat → Int32 → Int32 → (Nat → Int32) → Prop
  | 0, _, _, _ => False
  | n + 1, v2_23, v4_23, fallen_23 => wb_X12_spreads_fallen_23 k_s v3_10 L_10 (wl_X12_spreads_fallen_23 k_s v3_10 L_10 n) v2_23 v4_23 fallen_23
def wb_X12_spreads_fallen_10 (k_s : Nat → Int32) (L_2 : Int32 → (Nat → Int32) → Prop) (L_10 : Int32 → Int32 → (Nat → Int32) → Prop) (v2_10 : Int32) (v3_10 : Int32) (fallen_10 : Nat → Int32) : Prop := (((k_s 2) ≤ v3_10 → (L_2 v2_10 fallen_10)) ∧ (¬ (k_s 2) ≤ v3_10 → (∃ n, wl_X12_spreads_fallen_23 k_s v3_10 L_10 n v2_10 (nI 0) fallen_10)))
def wl_X12_spreads_fallen_10 (k_s : Nat → Int32) (L_2 : Int32 → (Nat → Int32) → Prop) : Nat → Int32 → Int32 → (Nat → Int32) → Prop
  | 0, _, _, _ => False
  | n + 1, v2_10, v3_10, fallen_10 => wb_X12_spreads_fallen_10 k_s L_2 (wl_X12_spreads_fallen_10 k_s L_2 n) v2_10 v3_10 fallen_10
def wb_X12_spreads_fallen_2 (k_s : Nat → Int32) (Q : (Nat → Int32) → Prop) (L_2 : Int32 → (Nat → Int32) → Prop) (v2_2 : Int32) (fallen_2 : Nat → Int32) : Prop := ((v2_2 = 0 → (Q fallen_2)) ∧ (¬ v2_2 = 0 → (∃ n, wl_X12_spreads_fallen_10 k_s L_2 n (nI 0) (nI 0) fallen_2)))
def wl_X12_spreads_fallen_2 (k_s : Nat → Int32) (Q : (Nat → Int32) → Prop) : Nat → Int32 → (Nat → Int32) → Prop
  | 0, _, _ => False
  | n + 1, v2_2, fallen_2 => wb_X12_spreads_fallen_2 k_s Q (wl_X12_spreads_fallen_2 k_s Q n) v2_2 fallen_2
def wp_X12_spreads_fallen  (k_s : Nat → Int32) (k_fallen : Nat → Int32) (Q : (Nat → Int32) → Prop) : Prop := (∃ n, wl_X12_spreads_fallen_2 k_s Q n (nI 1) k_fallen)
set_option maxHeartbeats 4000000 in
set_option maxRecDepth 100000 in
theorem c_X12_spreads_fallen {l : Launch} {D : va_G} {cI cZ cJ : ClassId} {h : Nat} {ad : Nat → Nat} {sz : Nat} {k_thrown : Int32} {k_s : Nat → Int32} {k_image : Nat → Int32} {k_hasImage : Int32} {k_steps : Nat → Int32} {k_read : Int32} {k_spot : Int32} {k_isWrong : Int32} {k_open : Int32} {k_act : Int32} {k_letBy : Nat → Int32} {k_letStamp : Nat → Int32} {k_stamp : Int32} {k_fallen : Nat → Int32} {k_held : Nat → Int32} {k_stands : Nat → Int32} {k_falling : Nat → Int32} {k_away : Nat → Int32} {k_round : Nat → Int32} {k_rests : Nat → Int64} {k_may : Nat → Int32} {k_next : Nat → Int32} {k_could : Nat → Int32} {k_couldNight : Nat → Int32} {k_night : Int32} {k_seats : Nat → Int32}  {Q : (Nat → Int32) → Prop} (hw : wp_X12_spreads_fallen k_s k_fallen Q) : Met l yX12_spreads (Cond.code yX12_spreads cX12_spreads 5 none :: wsG) ({ frames := 1, cells := 0, slots := 0, locals := 22 } : Room) (preW D (tyM cI cZ cJ) (wM cI cZ cJ h ad k_thrown k_s k_image k_hasImage k_steps k_read k_spot k_isWrong k_open k_act k_letBy k_letStamp k_stamp k_fallen k_held k_stands k_falling k_away k_round k_rests k_may k_next k_could k_couldNight k_night k_seats) sz [.ref h, .ref (ad 13)]) (qv1 D (tyM cI cZ cJ) (va_A (wM cI cZ cJ h ad k_thrown k_s k_image k_hasImage k_steps k_read k_spot k_isWrong k_open k_act k_letBy k_letStamp k_stamp k_fallen k_held k_stands k_falling k_away k_round k_rests k_may k_next k_could k_couldNight k_night k_seats) sz) Q (fun k_fallen' => (wM cI cZ cJ h ad k_thrown k_s k_image k_hasImage k_steps k_read k_spot k_isWrong k_open k_act k_letBy k_letStamp k_stamp k_fallen' k_held k_stands k_falling k_away k_round k_rests k_may k_next k_could k_couldNight k_night k_seats))) 0 0 (va_A (wM cI cZ cJ h ad k_thrown k_s k_image k_hasImage k_steps k_read k_spot k_isWrong k_open k_act k_letBy k_letStamp k_stamp k_fallen k_held k_stands k_falling k_away k_round k_rests k_may k_next k_could k_couldNight k_night k_seats) sz) := by
  refine st_met (cc := cX12_spreads) (maxL := 5) (ret := none) (lv := [(0, .ref h), (1, .ref (ad 13))]) (Qc := fun A => qv1 D (tyM cI cZ cJ) A Q (fun k_fallen' => (wM cI cZ cJ h ad k_thrown k_s k_image k_hasImage k_steps k_read k_spot k_isWrong k_open k_act k_letBy k_letStamp k_stamp k_fallen' k_held k_stands k_falling k_away k_round k_rests k_may k_next k_could k_couldNight k_night k_seats))) (by decide) rfl (Nat.le_of_ble_eq_true rfl) rfl ?_
  intro p e s m below meth c ls A R args QQ H locs C hr hlk hnm hK hX hsz hl hO hR hQQ
  have hx := C.1
  have hb := C.2.1
  have hown := C.2.2.2.1
  have hts := C.2.2.2.2
  have hin : ∀ w ∈ u_ws RX12 TX12 26, w ∈ (Cond.code yX12_spreads cX12_spreads 5 none :: wsG) := fun w h9 => List.mem_cons_of_mem _ (inG12 w h9)
  have lk_s := hts (Cond.fieldLink RX12 7 "FreeCityModel" "s" "[I") (List.mem_cons_of_mem _ qw5_207)
  unfold wp_X12_spreads_fallen at hw
  refine lv_iconst (v := (nI 1)) hx hb dX12_spreads_0 (by decide) ?_
  refine lv_istore_n (lv' := [(2, .int (nI 1)), (0, .ref h), (1, .ref (ad 13))]) hx hb dX12_spreads_1 rfl hl (by decide) rfl (fun ls hl => ?_)
  obtain ⟨n_2, hw⟩ := hw
  have b_2 : ∀ (L_2 : Int32 → (Nat → Int32) → Prop) (ih_2 : ∀ (v2_2 : Int32) (fallen_2 : Nat → Int32) (H : Heap) (locs : List Loc) (ls : Array Slot), okW D A s.heap H locs (wM cI cZ cJ h ad k_thrown k_s k_image k_hasImage k_steps k_read k_spot k_isWrong k_open k_act k_letBy k_letStamp k_stamp fallen_2 k_held k_stands k_falling k_away k_round k_rests k_may k_next k_could k_couldNight k_night k_seats) → lv_has ls 5 [(0, .ref h), (1, .ref (ad 13)), (2, .int v2_2)] → L_2 v2_2 fallen_2 → W p l e R s m args below meth c H locs 0 0 QQ (F0 m 2 ls [])) (v2_2 : Int32) (fallen_2 : Nat → Int32) (H : Heap) (locs : List Loc) (ls : Array Slot), okW D A s.heap H locs (wM cI cZ cJ h ad k_thrown k_s k_image k_hasImage k_steps k_read k_spot k_isWrong k_open k_act k_letBy k_letStamp k_stamp fallen_2 k_held k_stands k_falling k_away k_round k_rests k_may k_next k_could k_couldNight k_night k_seats) → lv_has ls 5 [(0, .ref h), (1, .ref (ad 13)), (2, .int v2_2)] → wb_X12_spreads_fallen_2 k_s Q L_2 v2_2 fallen_2 → W p l e R s m args below meth c H locs 0 0 QQ (F0 m 2 ls []) := by
    intro L_2 ih_2 v2_2 fallen_2 H locs ls hO hl hw
    unfold wb_X12_spreads_fallen_2 at hw
    refine lv_iload_n hx hb dX12_spreads_2 rfl (lv_at hl 2 rfl) ?_
    refine lv_if_eq (tgt := 78) hx hb dX12_spreads_3 (by decide) (fun q_3 => ?_) (fun q_3 => ?_)
    · have hw := hw.1 q_3
      exact rv1 hQQ hx hb hr hlk hK hO hw dX12_spreads_78
    · have hw := hw.2 q_3
      refine lv_iconst (v := (nI 0)) hx hb dX12_spreads_6 (by decide) ?_
      refine lv_istore_n (lv' := [(2, .int (nI 0)), (0, .ref h), (1, .ref (ad 13))]) hx hb dX12_spreads_7 rfl hl (by decide) rfl (fun ls hl => ?_)
      refine lv_iconst (v := (nI 0)) hx hb dX12_spreads_8 (by decide) ?_
      refine lv_istore_n (lv' := [(3, .int (nI 0)), (2, .int (nI 0)), (0, .ref h), (1, .ref (ad 13))]) hx hb dX12_spreads_9 rfl hl (by decide) rfl (fun ls hl => ?_)
      obtain ⟨n_10, hw⟩ := hw
      have b_10 : ∀ (L_10 : Int32 → Int32 → (Nat → Int32) → Prop) (ih_10 : ∀ (v2_10 : Int32) (v3_10 : Int32) (fallen_10 : Nat → Int32) (H : Heap) (locs : List Loc) (ls : Array Slot), okW D A s.heap H locs (wM cI cZ cJ h ad k_thrown k_s k_image k_hasImage k_steps k_read k_spot k_isWrong k_open k_act k_letBy k_letStamp k_stamp fallen_10 k_held k_stands k_falling k_away k_round k_rests k_may k_next k_could k_couldNight k_night k_seats) → lv_has ls 5 [(0, .ref h), (1, .ref (ad 13)), (2, .int v2_10), (3, .int v3_10)] → L_10 v2_10 v3_10 fallen_10 → W p l e R s m args below meth c H locs 0 0 QQ (F0 m 10 ls [])) (v2_10 : Int32) (v3_10 : Int32) (fallen_10 : Nat → Int32) (H : Heap) (locs : List Loc) (ls : Array Slot), okW D A s.heap H locs (wM cI cZ cJ h ad k_thrown k_s k_image k_hasImage k_steps k_read k_spot k_isWrong k_open k_act k_letBy k_letStamp k_stamp fallen_10 k_held k_stands k_falling k_away k_round k_rests k_may k_next k_could k_couldNight k_night k_seats) → lv_has ls 5 [(0, .ref h), (1, .ref (ad 13)), (2, .int v2_10), (3, .int v3_10)] → wb_X12_spreads_fallen_10 k_s L_2 L_10 v2_10 v3_10 fallen_10 → W p l e R s m args below meth c H locs 0 0 QQ (F0 m 10 ls []) := by
        intro L_10 ih_10 v2_10 v3_10 fallen_10 H locs ls hO hl hw
        unfold wb_X12_spreads_fallen_10 at hw
        refine lv_iload_n hx hb dX12_spreads_10 rfl (lv_at hl 3 rfl) ?_
        refine lv_aload_n hx hb dX12_spreads_11 rfl (lv_at hl 0 rfl) ?_
        refine gM_s C hin hK lk_s hO dX12_spreads_12 ?_
        refine lv_iconst (v := (nI 2)) hx hb dX12_spreads_15 (by decide) ?_
        refine ldM_s C hK hO (inK 2 6700 (by decide) (by decide)) (clK 2 (by decide)) dX12_spreads_16 ?_
        refine lv_icmp_ge (tgt := 75) hx hb dX12_spreads_17 (by decide) (fun q_17 => ?_) (fun q_17 => ?_)
        · have hw := hw.1 q_17
          refine lv_goto (tgt := 2) hx hb dX12_spreads_75 (by decide) ?_
          exact ih_2 v2_10 fallen_10 _ _ _ hO (lv_sub hl [0, 1, 2] rfl) hw
        · have hw := hw.2 q_17
          refine lv_iconst (v := (nI 0)) hx hb dX12_spreads_20 (by decide) ?_
          refine lv_istore (lv' := [(4, .int (nI 0)), (0, .ref h), (1, .ref (ad 13)), (2, .int v2_10), (3, .int v3_10)]) hx hb dX12_spreads_21 hl (by decide) rfl (fun ls hl => ?_)
          obtain ⟨n_23, hw⟩ := hw
          have b_23 : ∀ (L_23 : Int32 → Int32 → (Nat → Int32) → Prop) (ih_23 : ∀ (v2_23 : Int32) (v4_23 : Int32) (fallen_23 : Nat → Int32) (H : Heap) (locs : List Loc) (ls : Array Slot), okW D A s.heap H locs (wM cI cZ cJ h ad k_thrown k_s k_image k_hasImage k_steps k_read k_spot k_isWrong k_open k_act k_letBy k_letStamp k_stamp fallen_23 k_held k_stands k_falling k_away k_round k_rests k_may k_next k_could k_couldNight k_night k_seats) → lv_has ls 5 [(0, .ref h), (1, .ref (ad 13)), (2, .int v2_23), (3, .int v3_10), (4, .int v4_23)] → L_23 v2_23 v4_23 fallen_23 → W p l e R s m args below meth c H locs 0 0 QQ (F0 m 23 ls [])) (v2_23 : Int32) (v4_23 : Int32) (fallen_23 : Nat → Int32) (H : Heap) (locs : List Loc) (ls : Array Slot), okW D A s.heap H locs (wM cI cZ cJ h ad k_thrown k_s k_image k_hasImage k_steps k_read k_spot k_isWrong k_open k_act k_letBy k_letStamp k_stamp fallen_23 k_held k_stands k_falling k_away k_round k_rests k_may k_next k_could k_couldNight k_night k_seats) → lv_has ls 5 [(0, .ref h), (1, .ref (ad 13)), (2, .int v2_23), (3, .int v3_10), (4, .int v4_23)] → wb_X12_spreads_fallen_23 k_s v3_10 L_10 L_23 v2_23 v4_23 fallen_23 → W p l e R s m args below meth c H locs 0 0 QQ (F0 m 23 ls []) := by
            intro L_23 ih_23 v2_23 v4_23 fallen_23 H locs ls hO hl hw
            unfold wb_X12_spreads_fallen_23 at hw
            refine lv_iload hx hb dX12_spreads_23 (lv_at hl 4 rfl) ?_
            refine lv_aload_n hx hb dX12_spreads_25 rfl (lv_at hl 0 rfl) ?_
            refine gM_s C hin hK lk_s hO dX12_spreads_26 ?_
            refine lv_iconst (v := (nI 2)) hx hb dX12_spreads_29 (by decide) ?_
            refine ldM_s C hK hO (inK 2 6700 (by decide) (by decide)) (clK 2 (by decide)) dX12_spreads_30 ?_
            refine lv_icmp_ge (tgt := 69) hx hb dX12_spreads_31 (by decide) (fun q_31 => ?_) (fun q_31 => ?_)
            · have hw := hw.1 q_31
              refine lv_iinc (v := (v3_10 + (nI 1))) (lv' := [(3, .int (v3_10 + (nI 1))), (0, .ref h), (1, .ref (ad 13)), (2, .int v2_23), (4, .int v4_23)]) hx hb dX12_spreads_69 hl (k := 3) rfl (iinc_1 _) (by decide) rfl (fun ls hl => ?_)
              refine lv_goto (tgt := 10) hx hb dX12_spreads_72 (by decide) ?_
              exact ih_10 v2_23 (v3_10 + (nI 1)) fallen_23 _ _ _ hO (lv_sub hl [1, 2, 3, 0] rfl) hw
            · have hw := hw.2 q_31
              refine lv_aload_n hx hb dX12_spreads_34 rfl (lv_at hl 1 rfl) ?_
              refine lv_iload_n hx hb dX12_spreads_35 rfl (lv_at hl 3 rfl) ?_
              obtain ⟨o_36, hw⟩ := hw
              refine ldM_fallen C hK hO o_36 rfl dX12_spreads_36 ?_
              obtain ⟨hs, hw⟩ := hw
              have a_57 : ((fallen_23 (v3_10).toNatClampNeg) = 0 ∧ (¬ (fallen_23 (v4_23).toNatClampNeg) = 0 ∧ ¬ (f_X12_leans k_s v3_10 v4_23) = 0)) → ∀ (H : Heap) (locs : List Loc) (ls : Array Slot), okW D A s.heap H locs (wM cI cZ cJ h ad k_thrown k_s k_image k_hasImage k_steps k_read k_spot k_isWrong k_open k_act k_letBy k_letStamp k_stamp fallen_23 k_held k_stands k_falling k_away k_round k_rests k_may k_next k_could k_couldNight k_night k_seats) → lv_has ls 5 [(0, .ref h), (1, .ref (ad 13)), (3, .int v3_10), (4, .int v4_23)] → W p l e R s m args below meth c H locs 0 0 QQ (F0 m 57 ls []) := by
                intro cf H locs ls hO hl
                have hw := hw.1 cf
                refine lv_aload_n hx hb dX12_spreads_57 rfl (lv_at hl 1 rfl) ?_
                refine lv_iload_n hx hb dX12_spreads_58 rfl (lv_at hl 2 rfl) ?_
                refine lv_iconst (v := (nI 1)) hx hb dX12_spreads_59 (by decide) ?_
                obtain ⟨o_60, hw⟩ := hw
                refine stM_fallen C hK hO o_60 rfl dX12_spreads_60 (fun H locs hO => ?_)
                refine lv_iconst (v := (nI 1)) hx hb dX12_spreads_61 (by decide) ?_
                refine lv_istore_n (lv' := [(2, .int (nI 1)), (0, .ref h), (1, .ref (ad 13)), (3, .int v3_10), (4, .int v4_23)]) hx hb dX12_spreads_62 rfl hl (by decide) rfl (fun ls hl => ?_)
                refine lv_iinc (v := (v4_23 + (nI 1))) (lv' := [(4, .int (v4_23 + (nI 1))), (2, .int (nI 1)), (0, .ref h), (1, .ref (ad 13)), (3, .int v3_10)]) hx hb dX12_spreads_63 hl (k := 4) rfl (iinc_1 _) (by decide) rfl (fun ls hl => ?_)
                refine lv_goto (tgt := 23) hx hb dX12_spreads_66 (by decide) ?_
                exact ih_23 (nI 1) (v4_23 + (nI 1)) (upd fallen_23 ((v3_10).toNatClampNeg) (vp_nar .boolean (nI 1))) _ _ _ hO (lv_sub hl [2, 3, 1, 4, 0] rfl) hw
              have a_63 : ¬ (((fallen_23 (v3_10).toNatClampNeg) = 0 ∧ (¬ (fallen_23 (v4_23).toNatClampNeg) = 0 ∧ ¬ (f_X12_leans k_s v3_10 v4_23) = 0))) → ∀ (H : Heap) (locs : List Loc) (ls : Array Slot), okW D A s.heap H locs (wM cI cZ cJ h ad k_thrown k_s k_image k_hasImage k_steps k_read k_spot k_isWrong k_open k_act k_letBy k_letStamp k_stamp fallen_23 k_held k_stands k_falling k_away k_round k_rests k_may k_next k_could k_couldNight k_night k_seats) → lv_has ls 5 [(0, .ref h), (1, .ref (ad 13)), (2, .int v2_23), (3, .int v3_10), (4, .int v4_23)] → W p l e R s m args below meth c H locs 0 0 QQ (F0 m 63 ls []) := by
                intro cf H locs ls hO hl
                have hw := hw.2 cf
                refine lv_iinc (v := (v4_23 + (nI 1))) (lv' := [(4, .int (v4_23 + (nI 1))), (0, .ref h), (1, .ref (ad 13)), (2, .int v2_23), (3, .int v3_10)]) hx hb dX12_spreads_63 hl (k := 4) rfl (iinc_1 _) (by decide) rfl (fun ls hl => ?_)
                refine lv_goto (tgt := 23) hx hb dX12_spreads_66 (by decide) ?_
                exact ih_23 v2_23 (v4_23 + (nI 1)) fallen_23 _ _ _ hO (lv_sub hl [1, 2, 3, 4, 0] rfl) hw
              refine lv_if_ne (tgt := 63) hx hb dX12_spreads_37 (by decide) (fun q_37 => ?_) (fun q_37 => ?_)
              · have hl := lv_sub hl [0, 1, 2, 3, 4] rfl (l' := [(0, .ref h), (1, .ref (ad 13)), (2, .int v2_23), (3, .int v3_10), (4, .int v4_23)])
                exact a_63 (fun h => q_37 h.1) _ _ _ hO hl
              · have hs := hs q_37
                obtain ⟨o_43, hs⟩ := hs
                refine lv_aload_n hx hb dX12_spreads_40 rfl (lv_at hl 1 rfl) ?_
                refine lv_iload hx hb dX12_spreads_41 (lv_at hl 4 rfl) ?_
                refine ldM_fallen C hK hO o_43 rfl dX12_spreads_43 ?_
                refine lv_if_eq (tgt := 63) hx hb dX12_spreads_44 (by decide) (fun q_44 => ?_) (fun q_44 => ?_)
                · have hl := lv_sub hl [0, 1, 2, 3, 4] rfl (l' := [(0, .ref h), (1, .ref (ad 13)), (2, .int v2_23), (3, .int v3_10), (4, .int v4_23)])
                  exact a_63 (fun h => ((fun h => h.1 q_44)) h.2) _ _ _ hO hl
                · have hs := hs q_44
                  have o_51 := hs
                  refine lv_aload_n hx hb dX12_spreads_47 rfl (lv_at hl 0 rfl) ?_
                  refine lv_iload_n hx hb dX12_spreads_48 rfl (lv_at hl 3 rfl) ?_
                  refine lv_iload hx hb dX12_spreads_49 (lv_at hl 4 rfl) ?_
                  refine cVi0 (As := [.int v3_10, .int v4_23]) (rest := []) C hK hX hO (c_X12_leans (l := l) o_51) (cwV 2 hts gd_X12_190 rfl rfl rfl hd_X12_leans (rok hR (Nat.le_of_ble_eq_true rfl) (Nat.le_of_ble_eq_true rfl))) (ci := 12) (q0 := 0) rfl rfl rfl rfl hl.1 rfl (Nat.le_of_ble_eq_true rfl) dX12_spreads_51 ⟨Nat.zero_le _, Nat.zero_le _⟩ (fun r_51 H locs e_51 hO => ?_)
                  subst e_51
                  refine lv_if_eq (tgt := 63) hx hb dX12_spreads_54 (by decide) (fun q_54 => ?_) (fun q_54 => ?_)
                  · have hl := lv_sub hl [0, 1, 2, 3, 4] rfl (l' := [(0, .ref h), (1, .ref (ad 13)), (2, .int v2_23), (3, .int v3_10), (4, .int v4_23)])
                    exact a_63 (fun h => ((fun h => ((fun h => h q_54)) h.2)) h.2) _ _ _ hO hl
                  · have hl := lv_sub hl [0, 1, 3, 4] rfl (l' := [(0, .ref h), (1, .ref (ad 13)), (3, .int v3_10), (4, .int v4_23)])
                    exact a_57 ⟨q_37, ⟨q_44, q_54⟩⟩ _ _ _ hO hl
          have l_23 : ∀ (n : Nat) (v2_23 : Int32) (v4_23 : Int32) (fallen_23 : Nat → Int32) (H : Heap) (locs : List Loc) (ls : Array Slot), okW D A s.heap H locs (wM cI cZ cJ h ad k_thrown k_s k_image k_hasImage k_steps k_read k_spot k_isWrong k_open k_act k_letBy k_letStamp k_stamp fallen_23 k_held k_stands k_falling k_away k_round k_rests k_may k_next k_could k_couldNight k_night k_seats) → lv_has ls 5 [(0, .ref h), (1, .ref (ad 13)), (2, .int v2_23), (3, .int v3_10), (4, .int v4_23)] → wl_X12_spreads_fallen_23 k_s v3_10 L_10 n v2_23 v4_23 fallen_23 → W p l e R s m args below meth c H locs 0 0 QQ (F0 m 23 ls []) := by
            intro n
            induction n with
            | zero => intro v2_23 v4_23 fallen_23 H locs ls hO hl hw; exact False.elim hw
            | succ n ih => exact b_23 _ ih
          exact l_23 n_23 v2_10 (nI 0) fallen_10 _ _ _ hO (lv_sub hl [1, 2, 3, 4, 0] rfl) hw
      have l_10 : ∀ (n : Nat) (v2_10 : Int32) (v3_10 : Int32) (fallen_10 : Nat → Int32) (H : Heap) (locs : List Loc) (ls : Array Slot), okW D A s.heap H locs (wM cI cZ cJ h ad k_thrown k_s k_image k_hasImage k_steps k_read k_spot k_isWrong k_open k_act k_letBy k_letStamp k_stamp fallen_10 k_held k_stands k_falling k_away k_round k_rests k_may k_next k_could k_couldNight k_night k_seats) → lv_has ls 5 [(0, .ref h), (1, .ref (ad 13)), (2, .int v2_10), (3, .int v3_10)] → wl_X12_spreads_fallen_10 k_s L_2 n v2_10 v3_10 fallen_10 → W p l e R s m args below meth c H locs 0 0 QQ (F0 m 10 ls []) := by
        intro n
        induction n with
        | zero => intro v2_10 v3_10 fallen_10 H locs ls hO hl hw; exact False.elim hw
        | succ n ih => exact b_10 _ ih
      exact l_10 n_10 (nI 0) (nI 0) fallen_2 _ _ _ hO (lv_sub hl [2, 3, 1, 0] rfl) hw
  have l_2 : ∀ (n : Nat) (v2_2 : Int32) (fallen_2 : Nat → Int32) (H : Heap) (locs : List Loc) (ls : Array Slot), okW D A s.heap H locs (wM cI cZ cJ h ad k_thrown k_s k_image k_hasImage k_steps k_read k_spot k_isWrong k_open k_act k_letBy k_letStamp k_stamp fallen_2 k_held k_stands k_falling k_away k_round k_rests k_may k_next k_could k_couldNight k_night k_seats) → lv_has ls 5 [(0, .ref h), (1, .ref (ad 13)), (2, .int v2_2)] → wl_X12_spreads_fallen_2 k_s Q n v2_2 fallen_2 → W p l e R s m args below meth c H locs 0 0 QQ (F0 m 2 ls []) := by
    intro n
    induction n with
    | zero => intro v2_2 fallen_2 H locs ls hO hl hw; exact False.elim hw
    | succ n ih => exact b_2 _ ih
  exact l_2 n_2 (nI 1) k_fallen _ _ _ hO (lv_sub hl [1, 2, 0] rfl) hw
def wb_X12_spreads_held_23 (k_s : Nat → Int32) (v3_10 : Int32) (L_10 : Int32 → Int32 → (Nat → Int32) → Prop) (L_23 : Int32 → Int32 → (Nat → Int32) → Prop) (v2_23 : Int32) (v4_23 : Int32) (held_23 : Nat → Int32) : Prop := (((k_s 2) ≤ v4_23 → (L_10 v2_23 (v3_10 + (nI 1)) held_23)) ∧ (¬ (k_s 2) ≤ v4_23 → (vp_in v3_10 50 ∧ ((((held_23 (v3_10).toNatClampNeg) = 0 → (vp_in v4_23 50 ∧ (¬ (held_23 (v4_23).toNatClampNeg) = 0 → (ok_X12_leans k_s v3_10 v4_23))))) ∧ ((((held_23 (v3_10).toNatClampNeg) = 0 ∧ (¬ (held_23 (v4_23).toNatClampNeg) = 0 ∧ ¬ (f_X12_leans k_s v3_10 v4_23) = 0)) → (vp_in v3_10 50 ∧ (L_23 (nI 1) (v4_23 + (nI 1)) (upd held_23 ((v3_10).toNatClampNeg) (vp_nar .boolean (nI 1)))))) ∧ (¬ (((held_23 (v3_10).toNatClampNeg) = 0 ∧ (¬ (held_23 (v4_23).toNatClampNeg) = 0 ∧ ¬ (f_X12_leans k_s v3_10 v4_23) = 0))) → (L_23 v2_23 (v4_23 + (nI 1)) held_23)))))))
def wl_X12_spreads_held_23 (k_s : Nat → Int32) (v3_10 : Int32) (L_10 : Int32 → Int32 → (Nat → Int32) → Prop) : Nat → Int32 → Int32 → (Nat → Int32) → Prop
  | 0, _, _, _ => False
  | n + 1, v2_23, v4_23, held_23 => wb_X12_spreads_held_23 k_s v3_10 L_10 (wl_X12_spreads_held_23 k_s v3_10 L_10 n) v2_23 v4_23 held_23
def wb_X12_spreads_held_10 (k_s : Nat → Int32) (L_2 : Int32 → (Nat → Int32) → Prop) (L_10 : Int32 → Int32 → (Nat → Int32) → Prop) (v2_10 : Int32) (v3_10 : Int32) (held_10 : Nat → Int32) : Prop := (((k_s 2) ≤ v3_10 → (L_2 v2_10 held_10)) ∧ (¬ (k_s 2) ≤ v3_10 → (∃ n, wl_X12_spreads_held_23 k_s v3_10 L_10 n v2_10 (nI 0) held_10)))
def wl_X12_spreads_held_10 (k_s : Nat → Int32) (L_2 : Int32 → (Nat → Int32) → Prop) : Nat → Int32 → Int32 → (Nat → Int32) → Prop
  | 0, _, _, _ => False
  | n + 1, v2_10, v3_10, held_10 => wb_X12_spreads_held_10 k_s L_2 (wl_X12_spreads_held_10 k_s L_2 n) v2_10 v3_10 held_10
def wb_X12_spreads_held_2 (k_s : Nat → Int32) (Q : (Nat → Int32) → Prop) (L_2 : Int32 → (Nat → Int32) → Prop) (v2_2 : Int32) (held_2 : Nat → Int32) : Prop := ((v2_2 = 0 → (Q held_2)) ∧ (¬ v2_2 = 0 → (∃ n, wl_X12_spreads_held_10 k_s L_2 n (nI 0) (nI 0) held_2)))
def wl_X12_spreads_held_2 (k_s : Nat → Int32) (Q : (Nat → Int32) → Prop) : Nat → Int32 → (Nat → Int32) → Prop
  | 0, _, _ => False
  | n + 1, v2_2, held_2 => wb_X12_spreads_held_2 k_s Q (wl_X12_spreads_held_2 k_s Q n) v2_2 held_2
def wp_X12_spreads_held  (k_s : Nat → Int32) (k_held : Nat → Int32) (Q : (Nat → Int32) → Prop) : Prop := (∃ n, wl_X12_spreads_held_2 k_s Q n (nI 1) k_held)
set_option maxHeartbeats 4000000 in
set_option maxRecDepth 100000 in
theorem c_X12_spreads_held {l : Launch} {D : va_G} {cI cZ cJ : ClassId} {h : Nat} {ad : Nat → Nat} {sz : Nat} {k_thrown : Int32} {k_s : Nat → Int32} {k_image : Nat → Int32} {k_hasImage : Int32} {k_steps : Nat → Int32} {k_read : Int32} {k_spot : Int32} {k_isWrong : Int32} {k_open : Int32} {k_act : Int32} {k_letBy : Nat → Int32} {k_letStamp : Nat → Int32} {k_stamp : Int32} {k_fallen : Nat → Int32} {k_held : Nat → Int32} {k_stands : Nat → Int32} {k_falling : Nat → Int32} {k_away : Nat → Int32} {k_round : Nat → Int32} {k_rests : Nat → Int64} {k_may : Nat → Int32} {k_next : Nat → Int32} {k_could : Nat → Int32} {k_couldNight : Nat → Int32} {k_night : Int32} {k_seats : Nat → Int32}  {Q : (Nat → Int32) → Prop} (hw : wp_X12_spreads_held k_s k_held Q) : Met l yX12_spreads (Cond.code yX12_spreads cX12_spreads 5 none :: wsG) ({ frames := 1, cells := 0, slots := 0, locals := 22 } : Room) (preW D (tyM cI cZ cJ) (wM cI cZ cJ h ad k_thrown k_s k_image k_hasImage k_steps k_read k_spot k_isWrong k_open k_act k_letBy k_letStamp k_stamp k_fallen k_held k_stands k_falling k_away k_round k_rests k_may k_next k_could k_couldNight k_night k_seats) sz [.ref h, .ref (ad 14)]) (qv1 D (tyM cI cZ cJ) (va_A (wM cI cZ cJ h ad k_thrown k_s k_image k_hasImage k_steps k_read k_spot k_isWrong k_open k_act k_letBy k_letStamp k_stamp k_fallen k_held k_stands k_falling k_away k_round k_rests k_may k_next k_could k_couldNight k_night k_seats) sz) Q (fun k_held' => (wM cI cZ cJ h ad k_thrown k_s k_image k_hasImage k_steps k_read k_spot k_isWrong k_open k_act k_letBy k_letStamp k_stamp k_fallen k_held' k_stands k_falling k_away k_round k_rests k_may k_next k_could k_couldNight k_night k_seats))) 0 0 (va_A (wM cI cZ cJ h ad k_thrown k_s k_image k_hasImage k_steps k_read k_spot k_isWrong k_open k_act k_letBy k_letStamp k_stamp k_fallen k_held k_stands k_falling k_away k_round k_rests k_may k_next k_could k_couldNight k_night k_seats) sz) := by
  refine st_met (cc := cX12_spreads) (maxL := 5) (ret := none) (lv := [(0, .ref h), (1, .ref (ad 14))]) (Qc := fun A => qv1 D (tyM cI cZ cJ) A Q (fun k_held' => (wM cI cZ cJ h ad k_thrown k_s k_image k_hasImage k_steps k_read k_spot k_isWrong k_open k_act k_letBy k_letStamp k_stamp k_fallen k_held' k_stands k_falling k_away k_round k_rests k_may k_next k_could k_couldNight k_night k_seats))) (by decide) rfl (Nat.le_of_ble_eq_true rfl) rfl ?_
  intro p e s m below meth c ls A R args QQ H locs C hr hlk hnm hK hX hsz hl hO hR hQQ
  have hx := C.1
  have hb := C.2.1
  have hown := C.2.2.2.1
  have hts := C.2.2.2.2
  have hin : ∀ w ∈ u_ws RX12 TX12 26, w ∈ (Cond.code yX12_spreads cX12_spreads 5 none :: wsG) := fun w h9 => List.mem_cons_of_mem _ (inG12 w h9)
  have lk_s := hts (Cond.fieldLink RX12 7 "FreeCityModel" "s" "[I") (List.mem_cons_of_mem _ qw5_207)
  unfold wp_X12_spreads_held at hw
  refine lv_iconst (v := (nI 1)) hx hb dX12_spreads_0 (by decide) ?_
  refine lv_istore_n (lv' := [(2, .int (nI 1)), (0, .ref h), (1, .ref (ad 14))]) hx hb dX12_spreads_1 rfl hl (by decide) rfl (fun ls hl => ?_)
  obtain ⟨n_2, hw⟩ := hw
  have b_2 : ∀ (L_2 : Int32 → (Nat → Int32) → Prop) (ih_2 : ∀ (v2_2 : Int32) (held_2 : Nat → Int32) (H : Heap) (locs : List Loc) (ls : Array Slot), okW D A s.heap H locs (wM cI cZ cJ h ad k_thrown k_s k_image k_hasImage k_steps k_read k_spot k_isWrong k_open k_act k_letBy k_letStamp k_stamp k_fallen held_2 k_stands k_falling k_away k_round k_rests k_may k_next k_could k_couldNight k_night k_seats) → lv_has ls 5 [(0, .ref h), (1, .ref (ad 14)), (2, .int v2_2)] → L_2 v2_2 held_2 → W p l e R s m args below meth c H locs 0 0 QQ (F0 m 2 ls [])) (v2_2 : Int32) (held_2 : Nat → Int32) (H : Heap) (locs : List Loc) (ls : Array Slot), okW D A s.heap H locs (wM cI cZ cJ h ad k_thrown k_s k_image k_hasImage k_steps k_read k_spot k_isWrong k_open k_act k_letBy k_letStamp k_stamp k_fallen held_2 k_stands k_falling k_away k_round k_rests k_may k_next k_could k_couldNight k_night k_seats) → lv_has ls 5 [(0, .ref h), (1, .ref (ad 14)), (2, .int v2_2)] → wb_X12_spreads_held_2 k_s Q L_2 v2_2 held_2 → W p l e R s m args below meth c H locs 0 0 QQ (F0 m 2 ls []) := by
    intro L_2 ih_2 v2_2 held_2 H locs ls hO hl hw
    unfold wb_X12_spreads_held_2 at hw
    refine lv_iload_n hx hb dX12_spreads_2 rfl (lv_at hl 2 rfl) ?_
    refine lv_if_eq (tgt := 78) hx hb dX12_spreads_3 (by decide) (fun q_3 => ?_) (fun q_3 => ?_)
    · have hw := hw.1 q_3
      exact rv1 hQQ hx hb hr hlk hK hO hw dX12_spreads_78
    · have hw := hw.2 q_3
      refine lv_iconst (v := (nI 0)) hx hb dX12_spreads_6 (by decide) ?_
      refine lv_istore_n (lv' := [(2, .int (nI 0)), (0, .ref h), (1, .ref (ad 14))]) hx hb dX12_spreads_7 rfl hl (by decide) rfl (fun ls hl => ?_)
      refine lv_iconst (v := (nI 0)) hx hb dX12_spreads_8 (by decide) ?_
      refine lv_istore_n (lv' := [(3, .int (nI 0)), (2, .int (nI 0)), (0, .ref h), (1, .ref (ad 14))]) hx hb dX12_spreads_9 rfl hl (by decide) rfl (fun ls hl => ?_)
      obtain ⟨n_10, hw⟩ := hw
      have b_10 : ∀ (L_10 : Int32 → Int32 → (Nat → Int32) → Prop) (ih_10 : ∀ (v2_10 : Int32) (v3_10 : Int32) (held_10 : Nat → Int32) (H : Heap) (locs : List Loc) (ls : Array Slot), okW D A s.heap H locs (wM cI cZ cJ h ad k_thrown k_s k_image k_hasImage k_steps k_read k_spot k_isWrong k_open k_act k_letBy k_letStamp k_stamp k_fallen held_10 k_stands k_falling k_away k_round k_rests k_may k_next k_could k_couldNight k_night k_seats) → lv_has ls 5 [(0, .ref h), (1, .ref (ad 14)), (2, .int v2_10), (3, .int v3_10)] → L_10 v2_10 v3_10 held_10 → W p l e R s m args below meth c H locs 0 0 QQ (F0 m 10 ls [])) (v2_10 : Int32) (v3_10 : Int32) (held_10 : Nat → Int32) (H : Heap) (locs : List Loc) (ls : Array Slot), okW D A s.heap H locs (wM cI cZ cJ h ad k_thrown k_s k_image k_hasImage k_steps k_read k_spot k_isWrong k_open k_act k_letBy k_letStamp k_stamp k_fallen held_10 k_stands k_falling k_away k_round k_rests k_may k_next k_could k_couldNight k_night k_seats) → lv_has ls 5 [(0, .ref h), (1, .ref (ad 14)), (2, .int v2_10), (3, .int v3_10)] → wb_X12_spreads_held_10 k_s L_2 L_10 v2_10 v3_10 held_10 → W p l e R s m args below meth c H locs 0 0 QQ (F0 m 10 ls []) := by
        intro L_10 ih_10 v2_10 v3_10 held_10 H locs ls hO hl hw
        unfold wb_X12_spreads_held_10 at hw
        refine lv_iload_n hx hb dX12_spreads_10 rfl (lv_at hl 3 rfl) ?_
        refine lv_aload_n hx hb dX12_spreads_11 rfl (lv_at hl 0 rfl) ?_
        refine gM_s C hin hK lk_s hO dX12_spreads_12 ?_
        refine lv_iconst (v := (nI 2)) hx hb dX12_spreads_15 (by decide) ?_
        refine ldM_s C hK hO (inK 2 6700 (by decide) (by decide)) (clK 2 (by decide)) dX12_spreads_16 ?_
        refine lv_icmp_ge (tgt := 75) hx hb dX12_spreads_17 (by decide) (fun q_17 => ?_) (fun q_17 => ?_)
        · have hw := hw.1 q_17
          refine lv_goto (tgt := 2) hx hb dX12_spreads_75 (by decide) ?_
          exact ih_2 v2_10 held_10 _ _ _ hO (lv_sub hl [0, 1, 2] rfl) hw
        · have hw := hw.2 q_17
          refine lv_iconst (v := (nI 0)) hx hb dX12_spreads_20 (by decide) ?_
          refine lv_istore (lv' := [(4, .int (nI 0)), (0, .ref h), (1, .ref (ad 14)), (2, .int v2_10), (3, .int v3_10)]) hx hb dX12_spreads_21 hl (by decide) rfl (fun ls hl => ?_)
          obtain ⟨n_23, hw⟩ := hw
          have b_23 : ∀ (L_23 : Int32 → Int32 → (Nat → Int32) → Prop) (ih_23 : ∀ (v2_23 : Int32) (v4_23 : Int32) (held_23 : Nat → Int32) (H : Heap) (locs : List Loc) (ls : Array Slot), okW D A s.heap H locs (wM cI cZ cJ h ad k_thrown k_s k_image k_hasImage k_steps k_read k_spot k_isWrong k_open k_act k_letBy k_letStamp k_stamp k_fallen held_23 k_stands k_falling k_away k_round k_rests k_may k_next k_could k_couldNight k_night k_seats) → lv_has ls 5 [(0, .ref h), (1, .ref (ad 14)), (2, .int v2_23), (3, .int v3_10), (4, .int v4_23)] → L_23 v2_23 v4_23 held_23 → W p l e R s m args below meth c H locs 0 0 QQ (F0 m 23 ls [])) (v2_23 : Int32) (v4_23 : Int32) (held_23 : Nat → Int32) (H : Heap) (locs : List Loc) (ls : Array Slot), okW D A s.heap H locs (wM cI cZ cJ h ad k_thrown k_s k_image k_hasImage k_steps k_read k_spot k_isWrong k_open k_act k_letBy k_letStamp k_stamp k_fallen held_23 k_stands k_falling k_away k_round k_rests k_may k_next k_could k_couldNight k_night k_seats) → lv_has ls 5 [(0, .ref h), (1, .ref (ad 14)), (2, .int v2_23), (3, .int v3_10), (4, .int v4_23)] → wb_X12_spreads_held_23 k_s v3_10 L_10 L_23 v2_23 v4_23 held_23 → W p l e R s m args below meth c H locs 0 0 QQ (F0 m 23 ls []) := by
            intro L_23 ih_23 v2_23 v4_23 held_23 H locs ls hO hl hw
            unfold wb_X12_spreads_held_23 at hw
            refine lv_iload hx hb dX12_spreads_23 (lv_at hl 4 rfl) ?_
            refine lv_aload_n hx hb dX12_spreads_25 rfl (lv_at hl 0 rfl) ?_
            refine gM_s C hin hK lk_s hO dX12_spreads_26 ?_
            refine lv_iconst (v := (nI 2)) hx hb dX12_spreads_29 (by decide) ?_
            refine ldM_s C hK hO (inK 2 6700 (by decide) (by decide)) (clK 2 (by decide)) dX12_spreads_30 ?_
            refine lv_icmp_ge (tgt := 69) hx hb dX12_spreads_31 (by decide) (fun q_31 => ?_) (fun q_31 => ?_)
            · have hw := hw.1 q_31
              refine lv_iinc (v := (v3_10 + (nI 1))) (lv' := [(3, .int (v3_10 + (nI 1))), (0, .ref h), (1, .ref (ad 14)), (2, .int v2_23), (4, .int v4_23)]) hx hb dX12_spreads_69 hl (k := 3) rfl (iinc_1 _) (by decide) rfl (fun ls hl => ?_)
              refine lv_goto (tgt := 10) hx hb dX12_spreads_72 (by decide) ?_
              exact ih_10 v2_23 (v3_10 + (nI 1)) held_23 _ _ _ hO (lv_sub hl [1, 2, 3, 0] rfl) hw
            · have hw := hw.2 q_31
              refine lv_aload_n hx hb dX12_spreads_34 rfl (lv_at hl 1 rfl) ?_
              refine lv_iload_n hx hb dX12_spreads_35 rfl (lv_at hl 3 rfl) ?_
              obtain ⟨o_36, hw⟩ := hw
              refine ldM_held C hK hO o_36 rfl dX12_spreads_36 ?_
              obtain ⟨hs, hw⟩ := hw
              have a_57 : ((held_23 (v3_10).toNatClampNeg) = 0 ∧ (¬ (held_23 (v4_23).toNatClampNeg) = 0 ∧ ¬ (f_X12_leans k_s v3_10 v4_23) = 0)) → ∀ (H : Heap) (locs : List Loc) (ls : Array Slot), okW D A s.heap H locs (wM cI cZ cJ h ad k_thrown k_s k_image k_hasImage k_steps k_read k_spot k_isWrong k_open k_act k_letBy k_letStamp k_stamp k_fallen held_23 k_stands k_falling k_away k_round k_rests k_may k_next k_could k_couldNight k_night k_seats) → lv_has ls 5 [(0, .ref h), (1, .ref (ad 14)), (3, .int v3_10), (4, .int v4_23)] → W p l e R s m args below meth c H locs 0 0 QQ (F0 m 57 ls []) := by
                intro cf H locs ls hO hl
                have hw := hw.1 cf
                refine lv_aload_n hx hb dX12_spreads_57 rfl (lv_at hl 1 rfl) ?_
                refine lv_iload_n hx hb dX12_spreads_58 rfl (lv_at hl 2 rfl) ?_
                refine lv_iconst (v := (nI 1)) hx hb dX12_spreads_59 (by decide) ?_
                obtain ⟨o_60, hw⟩ := hw
                refine stM_held C hK hO o_60 rfl dX12_spreads_60 (fun H locs hO => ?_)
                refine lv_iconst (v := (nI 1)) hx hb dX12_spreads_61 (by decide) ?_
                refine lv_istore_n (lv' := [(2, .int (nI 1)), (0, .ref h), (1, .ref (ad 14)), (3, .int v3_10), (4, .int v4_23)]) hx hb dX12_spreads_62 rfl hl (by decide) rfl (fun ls hl => ?_)
                refine lv_iinc (v := (v4_23 + (nI 1))) (lv' := [(4, .int (v4_23 + (nI 1))), (2, .int (nI 1)), (0, .ref h), (1, .ref (ad 14)), (3, .int v3_10)]) hx hb dX12_spreads_63 hl (k := 4) rfl (iinc_1 _) (by decide) rfl (fun ls hl => ?_)
                refine lv_goto (tgt := 23) hx hb dX12_spreads_66 (by decide) ?_
                exact ih_23 (nI 1) (v4_23 + (nI 1)) (upd held_23 ((v3_10).toNatClampNeg) (vp_nar .boolean (nI 1))) _ _ _ hO (lv_sub hl [2, 3, 1, 4, 0] rfl) hw
              have a_63 : ¬ (((held_23 (v3_10).toNatClampNeg) = 0 ∧ (¬ (held_23 (v4_23).toNatClampNeg) = 0 ∧ ¬ (f_X12_leans k_s v3_10 v4_23) = 0))) → ∀ (H : Heap) (locs : List Loc) (ls : Array Slot), okW D A s.heap H locs (wM cI cZ cJ h ad k_thrown k_s k_image k_hasImage k_steps k_read k_spot k_isWrong k_open k_act k_letBy k_letStamp k_stamp k_fallen held_23 k_stands k_falling k_away k_round k_rests k_may k_next k_could k_couldNight k_night k_seats) → lv_has ls 5 [(0, .ref h), (1, .ref (ad 14)), (2, .int v2_23), (3, .int v3_10), (4, .int v4_23)] → W p l e R s m args below meth c H locs 0 0 QQ (F0 m 63 ls []) := by
                intro cf H locs ls hO hl
                have hw := hw.2 cf
                refine lv_iinc (v := (v4_23 + (nI 1))) (lv' := [(4, .int (v4_23 + (nI 1))), (0, .ref h), (1, .ref (ad 14)), (2, .int v2_23), (3, .int v3_10)]) hx hb dX12_spreads_63 hl (k := 4) rfl (iinc_1 _) (by decide) rfl (fun ls hl => ?_)
                refine lv_goto (tgt := 23) hx hb dX12_spreads_66 (by decide) ?_
                exact ih_23 v2_23 (v4_23 + (nI 1)) held_23 _ _ _ hO (lv_sub hl [1, 2, 3, 4, 0] rfl) hw
              refine lv_if_ne (tgt := 63) hx hb dX12_spreads_37 (by decide) (fun q_37 => ?_) (fun q_37 => ?_)
              · have hl := lv_sub hl [0, 1, 2, 3, 4] rfl (l' := [(0, .ref h), (1, .ref (ad 14)), (2, .int v2_23), (3, .int v3_10), (4, .int v4_23)])
                exact a_63 (fun h => q_37 h.1) _ _ _ hO hl
              · have hs := hs q_37
                obtain ⟨o_43, hs⟩ := hs
                refine lv_aload_n hx hb dX12_spreads_40 rfl (lv_at hl 1 rfl) ?_
                refine lv_iload hx hb dX12_spreads_41 (lv_at hl 4 rfl) ?_
                refine ldM_held C hK hO o_43 rfl dX12_spreads_43 ?_
                refine lv_if_eq (tgt := 63) hx hb dX12_spreads_44 (by decide) (fun q_44 => ?_) (fun q_44 => ?_)
                · have hl := lv_sub hl [0, 1, 2, 3, 4] rfl (l' := [(0, .ref h), (1, .ref (ad 14)), (2, .int v2_23), (3, .int v3_10), (4, .int v4_23)])
                  exact a_63 (fun h => ((fun h => h.1 q_44)) h.2) _ _ _ hO hl
                · have hs := hs q_44
                  have o_51 := hs
                  refine lv_aload_n hx hb dX12_spreads_47 rfl (lv_at hl 0 rfl) ?_
                  refine lv_iload_n hx hb dX12_spreads_48 rfl (lv_at hl 3 rfl) ?_
                  refine lv_iload hx hb dX12_spreads_49 (lv_at hl 4 rfl) ?_
                  refine cVi0 (As := [.int v3_10, .int v4_23]) (rest := []) C hK hX hO (c_X12_leans (l := l) o_51) (cwV 2 hts gd_X12_190 rfl rfl rfl hd_X12_leans (rok hR (Nat.le_of_ble_eq_true rfl) (Nat.le_of_ble_eq_true rfl))) (ci := 12) (q0 := 0) rfl rfl rfl rfl hl.1 rfl (Nat.le_of_ble_eq_true rfl) dX12_spreads_51 ⟨Nat.zero_le _, Nat.zero_le _⟩ (fun r_51 H locs e_51 hO => ?_)
                  subst e_51
                  refine lv_if_eq (tgt := 63) hx hb dX12_spreads_54 (by decide) (fun q_54 => ?_) (fun q_54 => ?_)
                  · have hl := lv_sub hl [0, 1, 2, 3, 4] rfl (l' := [(0, .ref h), (1, .ref (ad 14)), (2, .int v2_23), (3, .int v3_10), (4, .int v4_23)])
                    exact a_63 (fun h => ((fun h => ((fun h => h q_54)) h.2)) h.2) _ _ _ hO hl
                  · have hl := lv_sub hl [0, 1, 3, 4] rfl (l' := [(0, .ref h), (1, .ref (ad 14)), (3, .int v3_10), (4, .int v4_23)])
                    exact a_57 ⟨q_37, ⟨q_44, q_54⟩⟩ _ _ _ hO hl
          have l_23 : ∀ (n : Nat) (v2_23 : Int32) (v4_23 : Int32) (held_23 : Nat → Int32) (H : Heap) (locs : List Loc) (ls : Array Slot), okW D A s.heap H locs (wM cI cZ cJ h ad k_thrown k_s k_image k_hasImage k_steps k_read k_spot k_isWrong k_open k_act k_letBy k_letStamp k_stamp k_fallen held_23 k_stands k_falling k_away k_round k_rests k_may k_next k_could k_couldNight k_night k_seats) → lv_has ls 5 [(0, .ref h), (1, .ref (ad 14)), (2, .int v2_23), (3, .int v3_10), (4, .int v4_23)] → wl_X12_spreads_held_23 k_s v3_10 L_10 n v2_23 v4_23 held_23 → W p l e R s m args below meth c H locs 0 0 QQ (F0 m 23 ls []) := by
            intro n
            induction n with
            | zero => intro v2_23 v4_23 held_23 H locs ls hO hl hw; exact False.elim hw
            | succ n ih => exact b_23 _ ih
          exact l_23 n_23 v2_10 (nI 0) held_10 _ _ _ hO (lv_sub hl [1, 2, 3, 4, 0] rfl) hw
      have l_10 : ∀ (n : Nat) (v2_10 : Int32) (v3_10 : Int32) (held_10 : Nat → Int32) (H : Heap) (locs : List Loc) (ls : Array Slot), okW D A s.heap H locs (wM cI cZ cJ h ad k_thrown k_s k_image k_hasImage k_steps k_read k_spot k_isWrong k_open k_act k_letBy k_letStamp k_stamp k_fallen held_10 k_stands k_falling k_away k_round k_rests k_may k_next k_could k_couldNight k_night k_seats) → lv_has ls 5 [(0, .ref h), (1, .ref (ad 14)), (2, .int v2_10), (3, .int v3_10)] → wl_X12_spreads_held_10 k_s L_2 n v2_10 v3_10 held_10 → W p l e R s m args below meth c H locs 0 0 QQ (F0 m 10 ls []) := by
        intro n
        induction n with
        | zero => intro v2_10 v3_10 held_10 H locs ls hO hl hw; exact False.elim hw
        | succ n ih => exact b_10 _ ih
      exact l_10 n_10 (nI 0) (nI 0) held_2 _ _ _ hO (lv_sub hl [2, 3, 1, 0] rfl) hw
  have l_2 : ∀ (n : Nat) (v2_2 : Int32) (held_2 : Nat → Int32) (H : Heap) (locs : List Loc) (ls : Array Slot), okW D A s.heap H locs (wM cI cZ cJ h ad k_thrown k_s k_image k_hasImage k_steps k_read k_spot k_isWrong k_open k_act k_letBy k_letStamp k_stamp k_fallen held_2 k_stands k_falling k_away k_round k_rests k_may k_next k_could k_couldNight k_night k_seats) → lv_has ls 5 [(0, .ref h), (1, .ref (ad 14)), (2, .int v2_2)] → wl_X12_spreads_held_2 k_s Q n v2_2 held_2 → W p l e R s m args below meth c H locs 0 0 QQ (F0 m 2 ls []) := by
    intro n
    induction n with
    | zero => intro v2_2 held_2 H locs ls hO hl hw; exact False.elim hw
    | succ n ih => exact b_2 _ ih
  exact l_2 n_2 (nI 1) k_held _ _ _ hO (lv_sub hl [1, 2, 0] rfl) hw
def wb_X12_spreads_falling_23 (k_s : Nat → Int32) (v3_10 : Int32) (L_10 : Int32 → Int32 → (Nat → Int32) → Prop) (L_23 : Int32 → Int32 → (Nat → Int32) → Prop) (v2_23 : Int32) (v4_23 : Int32) (falling_23 : Nat → Int32) : Prop := (((k_s 2) ≤ v4_23 → (L_10 v2_23 (v3_10 + (nI 1)) falling_23)) ∧ (¬ (k_s 2) ≤ v4_23 → (vp_in v3_10 50 ∧ ((((falling_23 (v3_10).toNatClampNeg) = 0 → (vp_in v4_23 50 ∧ (¬ (falling_23 (v4_23).toNatClampNeg) = 0 → (ok_X12_leans k_s v3_10 v4_23))))) ∧ ((((falling_23 (v3_10).toNatClampNeg) = 0 ∧ (¬ (falling_23 (v4_23).toNatClampNeg) = 0 ∧ ¬ (f_X12_leans k_s v3_10 v4_23) = 0)) → (vp_in v3_10 50 ∧ (L_23 (nI 1) (v4_23 + (nI 1)) (upd falling_23 ((v3_10).toNatClampNeg) (vp_nar .boolean (nI 1)))))) ∧ (¬ (((falling_23 (v3_10).toNatClampNeg) = 0 ∧ (¬ (falling_23 (v4_23).toNatClampNeg) = 0 ∧ ¬ (f_X12_leans k_s v3_10 v4_23) = 0))) → (L_23 v2_23 (v4_23 + (nI 1)) falling_23)))))))
def wl_X12_spreads_falling_23 (k_s : Nat → Int32) (v3_10 : Int32) (L_10 : Int32 → Int32 → (Nat → Int32) → Prop) : Nat → Int32 → Int32 → (Nat → Int32) → Prop
  | 0, _, _, _ => False
  | n + 1, v2_23, v4_23, falling_23 => wb_X12_spreads_falling_23 k_s v3_10 L_10 (wl_X12_spreads_falling_23 k_s v3_10 L_10 n) v2_23 v4_23 falling_23
def wb_X12_spreads_falling_10 (k_s : Nat → Int32) (L_2 : Int32 → (Nat → Int32) → Prop) (L_10 : Int32 → Int32 → (Nat → Int32) → Prop) (v2_10 : Int32) (v3_10 : Int32) (falling_10 : Nat → Int32) : Prop := (((k_s 2) ≤ v3_10 → (L_2 v2_10 falling_10)) ∧ (¬ (k_s 2) ≤ v3_10 → (∃ n, wl_X12_spreads_falling_23 k_s v3_10 L_10 n v2_10 (nI 0) falling_10)))
def wl_X12_spreads_falling_10 (k_s : Nat → Int32) (L_2 : Int32 → (Nat → Int32) → Prop) : Nat → Int32 → Int32 → (Nat → Int32) → Prop
  | 0, _, _, _ => False
  | n + 1, v2_10, v3_10, falling_10 => wb_X12_spreads_falling_10 k_s L_2 (wl_X12_spreads_falling_10 k_s L_2 n) v2_10 v3_10 falling_10
def wb_X12_spreads_falling_2 (k_s : Nat → Int32) (Q : (Nat → Int32) → Prop) (L_2 : Int32 → (Nat → Int32) → Prop) (v2_2 : Int32) (falling_2 : Nat → Int32) : Prop := ((v2_2 = 0 → (Q falling_2)) ∧ (¬ v2_2 = 0 → (∃ n, wl_X12_spreads_falling_10 k_s L_2 n (nI 0) (nI 0) falling_2)))
def wl_X12_spreads_falling_2 (k_s : Nat → Int32) (Q : (Nat → Int32) → Prop) : Nat → Int32 → (Nat → Int32) → Prop
  | 0, _, _ => False
  | n + 1, v2_2, falling_2 => wb_X12_spreads_falling_2 k_s Q (wl_X12_spreads_falling_2 k_s Q n) v2_2 falling_2
def wp_X12_spreads_falling  (k_s : Nat → Int32) (k_falling : Nat → Int32) (Q : (Nat → Int32) → Prop) : Prop := (∃ n, wl_X12_spreads_falling_2 k_s Q n (nI 1) k_falling)
set_option maxHeartbeats 4000000 in
set_option maxRecDepth 100000 in
theorem c_X12_spreads_falling {l : Launch} {D : va_G} {cI cZ cJ : ClassId} {h : Nat} {ad : Nat → Nat} {sz : Nat} {k_thrown : Int32} {k_s : Nat → Int32} {k_image : Nat → Int32} {k_hasImage : Int32} {k_steps : Nat → Int32} {k_read : Int32} {k_spot : Int32} {k_isWrong : Int32} {k_open : Int32} {k_act : Int32} {k_letBy : Nat → Int32} {k_letStamp : Nat → Int32} {k_stamp : Int32} {k_fallen : Nat → Int32} {k_held : Nat → Int32} {k_stands : Nat → Int32} {k_falling : Nat → Int32} {k_away : Nat → Int32} {k_round : Nat → Int32} {k_rests : Nat → Int64} {k_may : Nat → Int32} {k_next : Nat → Int32} {k_could : Nat → Int32} {k_couldNight : Nat → Int32} {k_night : Int32} {k_seats : Nat → Int32}  {Q : (Nat → Int32) → Prop} (hw : wp_X12_spreads_falling k_s k_falling Q) : Met l yX12_spreads (Cond.code yX12_spreads cX12_spreads 5 none :: wsG) ({ frames := 1, cells := 0, slots := 0, locals := 22 } : Room) (preW D (tyM cI cZ cJ) (wM cI cZ cJ h ad k_thrown k_s k_image k_hasImage k_steps k_read k_spot k_isWrong k_open k_act k_letBy k_letStamp k_stamp k_fallen k_held k_stands k_falling k_away k_round k_rests k_may k_next k_could k_couldNight k_night k_seats) sz [.ref h, .ref (ad 16)]) (qv1 D (tyM cI cZ cJ) (va_A (wM cI cZ cJ h ad k_thrown k_s k_image k_hasImage k_steps k_read k_spot k_isWrong k_open k_act k_letBy k_letStamp k_stamp k_fallen k_held k_stands k_falling k_away k_round k_rests k_may k_next k_could k_couldNight k_night k_seats) sz) Q (fun k_falling' => (wM cI cZ cJ h ad k_thrown k_s k_image k_hasImage k_steps k_read k_spot k_isWrong k_open k_act k_letBy k_letStamp k_stamp k_fallen k_held k_stands k_falling' k_away k_round k_rests k_may k_next k_could k_couldNight k_night k_seats))) 0 0 (va_A (wM cI cZ cJ h ad k_thrown k_s k_image k_hasImage k_steps k_read k_spot k_isWrong k_open k_act k_letBy k_letStamp k_stamp k_fallen k_held k_stands k_falling k_away k_round k_rests k_may k_next k_could k_couldNight k_night k_seats) sz) := by
  refine st_met (cc := cX12_spreads) (maxL := 5) (ret := none) (lv := [(0, .ref h), (1, .ref (ad 16))]) (Qc := fun A => qv1 D (tyM cI cZ cJ) A Q (fun k_falling' => (wM cI cZ cJ h ad k_thrown k_s k_image k_hasImage k_steps k_read k_spot k_isWrong k_open k_act k_letBy k_letStamp k_stamp k_fallen k_held k_stands k_falling' k_away k_round k_rests k_may k_next k_could k_couldNight k_night k_seats))) (by decide) rfl (Nat.le_of_ble_eq_true rfl) rfl ?_
  intro p e s m below meth c ls A R args QQ H locs C hr hlk hnm hK hX hsz hl hO hR hQQ
  have hx := C.1
  have hb := C.2.1
  have hown := C.2.2.2.1
  have hts := C.2.2.2.2
  have hin : ∀ w ∈ u_ws RX12 TX12 26, w ∈ (Cond.code yX12_spreads cX12_spreads 5 none :: wsG) := fun w h9 => List.mem_cons_of_mem _ (inG12 w h9)
  have lk_s := hts (Cond.fieldLink RX12 7 "FreeCityModel" "s" "[I") (List.mem_cons_of_mem _ qw5_207)
  unfold wp_X12_spreads_falling at hw
  refine lv_iconst (v := (nI 1)) hx hb dX12_spreads_0 (by decide) ?_
  refine lv_istore_n (lv' := [(2, .int (nI 1)), (0, .ref h), (1, .ref (ad 16))]) hx hb dX12_spreads_1 rfl hl (by decide) rfl (fun ls hl => ?_)
  obtain ⟨n_2, hw⟩ := hw
  have b_2 : ∀ (L_2 : Int32 → (Nat → Int32) → Prop) (ih_2 : ∀ (v2_2 : Int32) (falling_2 : Nat → Int32) (H : Heap) (locs : List Loc) (ls : Array Slot), okW D A s.heap H locs (wM cI cZ cJ h ad k_thrown k_s k_image k_hasImage k_steps k_read k_spot k_isWrong k_open k_act k_letBy k_letStamp k_stamp k_fallen k_held k_stands falling_2 k_away k_round k_rests k_may k_next k_could k_couldNight k_night k_seats) → lv_has ls 5 [(0, .ref h), (1, .ref (ad 16)), (2, .int v2_2)] → L_2 v2_2 falling_2 → W p l e R s m args below meth c H locs 0 0 QQ (F0 m 2 ls [])) (v2_2 : Int32) (falling_2 : Nat → Int32) (H : Heap) (locs : List Loc) (ls : Array Slot), okW D A s.heap H locs (wM cI cZ cJ h ad k_thrown k_s k_image k_hasImage k_steps k_read k_spot k_isWrong k_open k_act k_letBy k_letStamp k_stamp k_fallen k_held k_stands falling_2 k_away k_round k_rests k_may k_next k_could k_couldNight k_night k_seats) → lv_has ls 5 [(0, .ref h), (1, .ref (ad 16)), (2, .int v2_2)] → wb_X12_spreads_falling_2 k_s Q L_2 v2_2 falling_2 → W p l e R s m args below meth c H locs 0 0 QQ (F0 m 2 ls []) := by
    intro L_2 ih_2 v2_2 falling_2 H locs ls hO hl hw
    unfold wb_X12_spreads_falling_2 at hw
    refine lv_iload_n hx hb dX12_spreads_2 rfl (lv_at hl 2 rfl) ?_
    refine lv_if_eq (tgt := 78) hx hb dX12_spreads_3 (by decide) (fun q_3 => ?_) (fun q_3 => ?_)
    · have hw := hw.1 q_3
      exact rv1 hQQ hx hb hr hlk hK hO hw dX12_spreads_78
    · have hw := hw.2 q_3
      refine lv_iconst (v := (nI 0)) hx hb dX12_spreads_6 (by decide) ?_
      refine lv_istore_n (lv' := [(2, .int (nI 0)), (0, .ref h), (1, .ref (ad 16))]) hx hb dX12_spreads_7 rfl hl (by decide) rfl (fun ls hl => ?_)
      refine lv_iconst (v := (nI 0)) hx hb dX12_spreads_8 (by decide) ?_
      refine lv_istore_n (lv' := [(3, .int (nI 0)), (2, .int (nI 0)), (0, .ref h), (1, .ref (ad 16))]) hx hb dX12_spreads_9 rfl hl (by decide) rfl (fun ls hl => ?_)
      obtain ⟨n_10, hw⟩ := hw
      have b_10 : ∀ (L_10 : Int32 → Int32 → (Nat → Int32) → Prop) (ih_10 : ∀ (v2_10 : Int32) (v3_10 : Int32) (falling_10 : Nat → Int32) (H : Heap) (locs : List Loc) (ls : Array Slot), okW D A s.heap H locs (wM cI cZ cJ h ad k_thrown k_s k_image k_hasImage k_steps k_read k_spot k_isWrong k_open k_act k_letBy k_letStamp k_stamp k_fallen k_held k_stands falling_10 k_away k_round k_rests k_may k_next k_could k_couldNight k_night k_seats) → lv_has ls 5 [(0, .ref h), (1, .ref (ad 16)), (2, .int v2_10), (3, .int v3_10)] → L_10 v2_10 v3_10 falling_10 → W p l e R s m args below meth c H locs 0 0 QQ (F0 m 10 ls [])) (v2_10 : Int32) (v3_10 : Int32) (falling_10 : Nat → Int32) (H : Heap) (locs : List Loc) (ls : Array Slot), okW D A s.heap H locs (wM cI cZ cJ h ad k_thrown k_s k_image k_hasImage k_steps k_read k_spot k_isWrong k_open k_act k_letBy k_letStamp k_stamp k_fallen k_held k_stands falling_10 k_away k_round k_rests k_may k_next k_could k_couldNight k_night k_seats) → lv_has ls 5 [(0, .ref h), (1, .ref (ad 16)), (2, .int v2_10), (3, .int v3_10)] → wb_X12_spreads_falling_10 k_s L_2 L_10 v2_10 v3_10 falling_10 → W p l e R s m args below meth c H locs 0 0 QQ (F0 m 10 ls []) := by
        intro L_10 ih_10 v2_10 v3_10 falling_10 H locs ls hO hl hw
        unfold wb_X12_spreads_falling_10 at hw
        refine lv_iload_n hx hb dX12_spreads_10 rfl (lv_at hl 3 rfl) ?_
        refine lv_aload_n hx hb dX12_spreads_11 rfl (lv_at hl 0 rfl) ?_
        refine gM_s C hin hK lk_s hO dX12_spreads_12 ?_
        refine lv_iconst (v := (nI 2)) hx hb dX12_spreads_15 (by decide) ?_
        refine ldM_s C hK hO (inK 2 6700 (by decide) (by decide)) (clK 2 (by decide)) dX12_spreads_16 ?_
        refine lv_icmp_ge (tgt := 75) hx hb dX12_spreads_17 (by decide) (fun q_17 => ?_) (fun q_17 => ?_)
        · have hw := hw.1 q_17
          refine lv_goto (tgt := 2) hx hb dX12_spreads_75 (by decide) ?_
          exact ih_2 v2_10 falling_10 _ _ _ hO (lv_sub hl [0, 1, 2] rfl) hw
        · have hw := hw.2 q_17
          refine lv_iconst (v := (nI 0)) hx hb dX12_spreads_20 (by decide) ?_
          refine lv_istore (lv' := [(4, .int (nI 0)), (0, .ref h), (1, .ref (ad 16)), (2, .int v2_10), (3, .int v3_10)]) hx hb dX12_spreads_21 hl (by decide) rfl (fun ls hl => ?_)
          obtain ⟨n_23, hw⟩ := hw
          have b_23 : ∀ (L_23 : Int32 → Int32 → (Nat → Int32) → Prop) (ih_23 : ∀ (v2_23 : Int32) (v4_23 : Int32) (falling_23 : Nat → Int32) (H : Heap) (locs : List Loc) (ls : Array Slot), okW D A s.heap H locs (wM cI cZ cJ h ad k_thrown k_s k_image k_hasImage k_steps k_read k_spot k_isWrong k_open k_act k_letBy k_letStamp k_stamp k_fallen k_held k_stands falling_23 k_away k_round k_rests k_may k_next k_could k_couldNight k_night k_seats) → lv_has ls 5 [(0, .ref h), (1, .ref (ad 16)), (2, .int v2_23), (3, .int v3_10), (4, .int v4_23)] → L_23 v2_23 v4_23 falling_23 → W p l e R s m args below meth c H locs 0 0 QQ (F0 m 23 ls [])) (v2_23 : Int32) (v4_23 : Int32) (falling_23 : Nat → Int32) (H : Heap) (locs : List Loc) (ls : Array Slot), okW D A s.heap H locs (wM cI cZ cJ h ad k_thrown k_s k_image k_hasImage k_steps k_read k_spot k_isWrong k_open k_act k_letBy k_letStamp k_stamp k_fallen k_held k_stands falling_23 k_away k_round k_rests k_may k_next k_could k_couldNight k_night k_seats) → lv_has ls 5 [(0, .ref h), (1, .ref (ad 16)), (2, .int v2_23), (3, .int v3_10), (4, .int v4_23)] → wb_X12_spreads_falling_23 k_s v3_10 L_10 L_23 v2_23 v4_23 falling_23 → W p l e R s m args below meth c H locs 0 0 QQ (F0 m 23 ls []) := by
            intro L_23 ih_23 v2_23 v4_23 falling_23 H locs ls hO hl hw
            unfold wb_X12_spreads_falling_23 at hw
            refine lv_iload hx hb dX12_spreads_23 (lv_at hl 4 rfl) ?_
            refine lv_aload_n hx hb dX12_spreads_25 rfl (lv_at hl 0 rfl) ?_
            refine gM_s C hin hK lk_s hO dX12_spreads_26 ?_
            refine lv_iconst (v := (nI 2)) hx hb dX12_spreads_29 (by decide) ?_
            refine ldM_s C hK hO (inK 2 6700 (by decide) (by decide)) (clK 2 (by decide)) dX12_spreads_30 ?_
            refine lv_icmp_ge (tgt := 69) hx hb dX12_spreads_31 (by decide) (fun q_31 => ?_) (fun q_31 => ?_)
            · have hw := hw.1 q_31
              refine lv_iinc (v := (v3_10 + (nI 1))) (lv' := [(3, .int (v3_10 + (nI 1))), (0, .ref h), (1, .ref (ad 16)), (2, .int v2_23), (4, .int v4_23)]) hx hb dX12_spreads_69 hl (k := 3) rfl (iinc_1 _) (by decide) rfl (fun ls hl => ?_)
              refine lv_goto (tgt := 10) hx hb dX12_spreads_72 (by decide) ?_
              exact ih_10 v2_23 (v3_10 + (nI 1)) falling_23 _ _ _ hO (lv_sub hl [1, 2, 3, 0] rfl) hw
            · have hw := hw.2 q_31
              refine lv_aload_n hx hb dX12_spreads_34 rfl (lv_at hl 1 rfl) ?_
              refine lv_iload_n hx hb dX12_spreads_35 rfl (lv_at hl 3 rfl) ?_
              obtain ⟨o_36, hw⟩ := hw
              refine ldM_falling C hK hO o_36 rfl dX12_spreads_36 ?_
              obtain ⟨hs, hw⟩ := hw
              have a_57 : ((falling_23 (v3_10).toNatClampNeg) = 0 ∧ (¬ (falling_23 (v4_23).toNatClampNeg) = 0 ∧ ¬ (f_X12_leans k_s v3_10 v4_23) = 0)) → ∀ (H : Heap) (locs : List Loc) (ls : Array Slot), okW D A s.heap H locs (wM cI cZ cJ h ad k_thrown k_s k_image k_hasImage k_steps k_read k_spot k_isWrong k_open k_act k_letBy k_letStamp k_stamp k_fallen k_held k_stands falling_23 k_away k_round k_rests k_may k_next k_could k_couldNight k_night k_seats) → lv_has ls 5 [(0, .ref h), (1, .ref (ad 16)), (3, .int v3_10), (4, .int v4_23)] → W p l e R s m args below meth c H locs 0 0 QQ (F0 m 57 ls []) := by
                intro cf H locs ls hO hl
                have hw := hw.1 cf
                refine lv_aload_n hx hb dX12_spreads_57 rfl (lv_at hl 1 rfl) ?_
                refine lv_iload_n hx hb dX12_spreads_58 rfl (lv_at hl 2 rfl) ?_
                refine lv_iconst (v := (nI 1)) hx hb dX12_spreads_59 (by decide) ?_
                obtain ⟨o_60, hw⟩ := hw
                refine stM_falling C hK hO o_60 rfl dX12_spreads_60 (fun H locs hO => ?_)
                refine lv_iconst (v := (nI 1)) hx hb dX12_spreads_61 (by decide) ?_
                refine lv_istore_n (lv' := [(2, .int (nI 1)), (0, .ref h), (1, .ref (ad 16)), (3, .int v3_10), (4, .int v4_23)]) hx hb dX12_spreads_62 rfl hl (by decide) rfl (fun ls hl => ?_)
                refine lv_iinc (v := (v4_23 + (nI 1))) (lv' := [(4, .int (v4_23 + (nI 1))), (2, .int (nI 1)), (0, .ref h), (1, .ref (ad 16)), (3, .int v3_10)]) hx hb dX12_spreads_63 hl (k := 4) rfl (iinc_1 _) (by decide) rfl (fun ls hl => ?_)
                refine lv_goto (tgt := 23) hx hb dX12_spreads_66 (by decide) ?_
                exact ih_23 (nI 1) (v4_23 + (nI 1)) (upd falling_23 ((v3_10).toNatClampNeg) (vp_nar .boolean (nI 1))) _ _ _ hO (lv_sub hl [2, 3, 1, 4, 0] rfl) hw
              have a_63 : ¬ (((falling_23 (v3_10).toNatClampNeg) = 0 ∧ (¬ (falling_23 (v4_23).toNatClampNeg) = 0 ∧ ¬ (f_X12_leans k_s v3_10 v4_23) = 0))) → ∀ (H : Heap) (locs : List Loc) (ls : Array Slot), okW D A s.heap H locs (wM cI cZ cJ h ad k_thrown k_s k_image k_hasImage k_steps k_read k_spot k_isWrong k_open k_act k_letBy k_letStamp k_stamp k_fallen k_held k_stands falling_23 k_away k_round k_rests k_may k_next k_could k_couldNight k_night k_seats) → lv_has ls 5 [(0, .ref h), (1, .ref (ad 16)), (2, .int v2_23), (3, .int v3_10), (4, .int v4_23)] → W p l e R s m args below meth c H locs 0 0 QQ (F0 m 63 ls []) := by
                intro cf H locs ls hO hl
                have hw := hw.2 cf
                refine lv_iinc (v := (v4_23 + (nI 1))) (lv' := [(4, .int (v4_23 + (nI 1))), (0, .ref h), (1, .ref (ad 16)), (2, .int v2_23), (3, .int v3_10)]) hx hb dX12_spreads_63 hl (k := 4) rfl (iinc_1 _) (by decide) rfl (fun ls hl => ?_)
                refine lv_goto (tgt := 23) hx hb dX12_spreads_66 (by decide) ?_
                exact ih_23 v2_23 (v4_23 + (nI 1)) falling_23 _ _ _ hO (lv_sub hl [1, 2, 3, 4, 0] rfl) hw
              refine lv_if_ne (tgt := 63) hx hb dX12_spreads_37 (by decide) (fun q_37 => ?_) (fun q_37 => ?_)
              · have hl := lv_sub hl [0, 1, 2, 3, 4] rfl (l' := [(0, .ref h), (1, .ref (ad 16)), (2, .int v2_23), (3, .int v3_10), (4, .int v4_23)])
                exact a_63 (fun h => q_37 h.1) _ _ _ hO hl
              · have hs := hs q_37
                obtain ⟨o_43, hs⟩ := hs
                refine lv_aload_n hx hb dX12_spreads_40 rfl (lv_at hl 1 rfl) ?_
                refine lv_iload hx hb dX12_spreads_41 (lv_at hl 4 rfl) ?_
                refine ldM_falling C hK hO o_43 rfl dX12_spreads_43 ?_
                refine lv_if_eq (tgt := 63) hx hb dX12_spreads_44 (by decide) (fun q_44 => ?_) (fun q_44 => ?_)
                · have hl := lv_sub hl [0, 1, 2, 3, 4] rfl (l' := [(0, .ref h), (1, .ref (ad 16)), (2, .int v2_23), (3, .int v3_10), (4, .int v4_23)])
                  exact a_63 (fun h => ((fun h => h.1 q_44)) h.2) _ _ _ hO hl
                · have hs := hs q_44
                  have o_51 := hs
                  refine lv_aload_n hx hb dX12_spreads_47 rfl (lv_at hl 0 rfl) ?_
                  refine lv_iload_n hx hb dX12_spreads_48 rfl (lv_at hl 3 rfl) ?_
                  refine lv_iload hx hb dX12_spreads_49 (lv_at hl 4 rfl) ?_
                  refine cVi0 (As := [.int v3_10, .int v4_23]) (rest := []) C hK hX hO (c_X12_leans (l := l) o_51) (cwV 2 hts gd_X12_190 rfl rfl rfl hd_X12_leans (rok hR (Nat.le_of_ble_eq_true rfl) (Nat.le_of_ble_eq_true rfl))) (ci := 12) (q0 := 0) rfl rfl rfl rfl hl.1 rfl (Nat.le_of_ble_eq_true rfl) dX12_spreads_51 ⟨Nat.zero_le _, Nat.zero_le _⟩ (fun r_51 H locs e_51 hO => ?_)
                  subst e_51
                  refine lv_if_eq (tgt := 63) hx hb dX12_spreads_54 (by decide) (fun q_54 => ?_) (fun q_54 => ?_)
                  · have hl := lv_sub hl [0, 1, 2, 3, 4] rfl (l' := [(0, .ref h), (1, .ref (ad 16)), (2, .int v2_23), (3, .int v3_10), (4, .int v4_23)])
                    exact a_63 (fun h => ((fun h => ((fun h => h q_54)) h.2)) h.2) _ _ _ hO hl
                  · have hl := lv_sub hl [0, 1, 3, 4] rfl (l' := [(0, .ref h), (1, .ref (ad 16)), (3, .int v3_10), (4, .int v4_23)])
                    exact a_57 ⟨q_37, ⟨q_44, q_54⟩⟩ _ _ _ hO hl
          have l_23 : ∀ (n : Nat) (v2_23 : Int32) (v4_23 : Int32) (falling_23 : Nat → Int32) (H : Heap) (locs : List Loc) (ls : Array Slot), okW D A s.heap H locs (wM cI cZ cJ h ad k_thrown k_s k_image k_hasImage k_steps k_read k_spot k_isWrong k_open k_act k_letBy k_letStamp k_stamp k_fallen k_held k_stands falling_23 k_away k_round k_rests k_may k_next k_could k_couldNight k_night k_seats) → lv_has ls 5 [(0, .ref h), (1, .ref (ad 16)), (2, .int v2_23), (3, .int v3_10), (4, .int v4_23)] → wl_X12_spreads_falling_23 k_s v3_10 L_10 n v2_23 v4_23 falling_23 → W p l e R s m args below meth c H locs 0 0 QQ (F0 m 23 ls []) := by
            intro n
            induction n with
            | zero => intro v2_23 v4_23 falling_23 H locs ls hO hl hw; exact False.elim hw
            | succ n ih => exact b_23 _ ih
          exact l_23 n_23 v2_10 (nI 0) falling_10 _ _ _ hO (lv_sub hl [1, 2, 3, 4, 0] rfl) hw
      have l_10 : ∀ (n : Nat) (v2_10 : Int32) (v3_10 : Int32) (falling_10 : Nat → Int32) (H : Heap) (locs : List Loc) (ls : Array Slot), okW D A s.heap H locs (wM cI cZ cJ h ad k_thrown k_s k_image k_hasImage k_steps k_read k_spot k_isWrong k_open k_act k_letBy k_letStamp k_stamp k_fallen k_held k_stands falling_10 k_away k_round k_rests k_may k_next k_could k_couldNight k_night k_seats) → lv_has ls 5 [(0, .ref h), (1, .ref (ad 16)), (2, .int v2_10), (3, .int v3_10)] → wl_X12_spreads_falling_10 k_s L_2 n v2_10 v3_10 falling_10 → W p l e R s m args below meth c H locs 0 0 QQ (F0 m 10 ls []) := by
        intro n
        induction n with
        | zero => intro v2_10 v3_10 falling_10 H locs ls hO hl hw; exact False.elim hw
        | succ n ih => exact b_10 _ ih
      exact l_10 n_10 (nI 0) (nI 0) falling_2 _ _ _ hO (lv_sub hl [2, 3, 1, 0] rfl) hw
  have l_2 : ∀ (n : Nat) (v2_2 : Int32) (falling_2 : Nat → Int32) (H : Heap) (locs : List Loc) (ls : Array Slot), okW D A s.heap H locs (wM cI cZ cJ h ad k_thrown k_s k_image k_hasImage k_steps k_read k_spot k_isWrong k_open k_act k_letBy k_letStamp k_stamp k_fallen k_held k_stands falling_2 k_away k_round k_rests k_may k_next k_could k_couldNight k_night k_seats) → lv_has ls 5 [(0, .ref h), (1, .ref (ad 16)), (2, .int v2_2)] → wl_X12_spreads_falling_2 k_s Q n v2_2 falling_2 → W p l e R s m args below meth c H locs 0 0 QQ (F0 m 2 ls []) := by
    intro n
    induction n with
    | zero => intro v2_2 falling_2 H locs ls hO hl hw; exact False.elim hw
    | succ n ih => exact b_2 _ ih
  exact l_2 n_2 (nI 1) k_falling _ _ _ hO (lv_sub hl [1, 2, 0] rfl) hw
theorem gd_X12_193 {a : Cond} : GoodIn (a :: wsG) (wsV RX12 193 RX12 yX12_spreads (Cond.code yX12_spreads cX12_spreads 5 none :: wsG)) := gdV qw6_138 qw6_140 qs_45 qw1_12 qw6_141
theorem hd_X12_spreads : yX12_spreads.cls = RX12 ∧ yX12_spreads.cls ≠ "java/lang/invoke/MethodHandle" ∧ yX12_spreads.cls ≠ "java/lang/invoke/VarHandle" ∧ (parseMethodDescriptor yX12_spreads.desc).map (fun d => d.parameters.length) = some 1 := by decide +kernel
def wb_X12_looks_151 (k_s : Nat → Int32) (Q : (Nat → Int32) → (Nat → Int32) → (Nat → Int32) → Prop) (fallen_138 : Nat → Int32) (held_146 : Nat → Int32) (L_151 : Int32 → (Nat → Int32) → Prop) (v1_151 : Int32) (stands_151 : Nat → Int32) : Prop := (((nI 50) ≤ v1_151 → (Q fallen_138 held_146 stands_151)) ∧ (¬ (nI 50) ≤ v1_151 → (((¬ (k_s 2) ≤ v1_151 → (vp_in ((nI 1310) + v1_151) 6700 ∧ ((k_s (((nI 1310) + v1_151)).toNatClampNeg) = (nI 6) → (vp_in v1_151 50 ∧ ((fallen_138 (v1_151).toNatClampNeg) = 0 → (vp_in v1_151 50))))))) ∧ (∀ y2_210 : Int32, y2_210 = (if (k_s 2) ≤ v1_151 then (nI 0) else (if (k_s (((nI 1310) + v1_151)).toNatClampNeg) = (nI 6) then (if (fallen_138 (v1_151).toNatClampNeg) = 0 then (if (held_146 (v1_151).toNatClampNeg) = 0 then (nI 1) else (nI 0)) else (nI 0)) else (nI 0))) → (vp_in v1_151 50 ∧ (L_151 (v1_151 + (nI 1)) (upd stands_151 ((v1_151).toNatClampNeg) (vp_nar .boolean y2_210))))))))
def wl_X12_looks_151 (k_s : Nat → Int32) (Q : (Nat → Int32) → (Nat → Int32) → (Nat → Int32) → Prop) (fallen_138 : Nat → Int32) (held_146 : Nat → Int32) : Nat → Int32 → (Nat → Int32) → Prop
  | 0, _, _ => False
  | n + 1, v1_151, stands_151 => wb_X12_looks_151 k_s Q fallen_138 held_146 (wl_X12_looks_151 k_s Q fallen_138 held_146 n) v1_151 stands_151
def wb_X12_looks_73 (k_s : Nat → Int32) (k_stands : Nat → Int32) (Q : (Nat → Int32) → (Nat → Int32) → (Nat → Int32) → Prop) (fallen_2 : Nat → Int32) (L_73 : Int32 → (Nat → Int32) → Prop) (v1_73 : Int32) (held_73 : Nat → Int32) : Prop := (((k_s 2) ≤ v1_73 → (wp_X12_spreads_fallen k_s fallen_2 (fun (fallen_138 : Nat → Int32) => (wp_X12_spreads_held k_s held_73 (fun (held_146 : Nat → Int32) => (∃ n, wl_X12_looks_151 k_s Q fallen_138 held_146 n (nI 0) k_stands)))))) ∧ (¬ (k_s 2) ≤ v1_73 → (vp_in ((nI 1310) + v1_73) 6700 ∧ ((((k_s (((nI 1310) + v1_73)).toNatClampNeg) = (nI 7) → (vp_in ((nI 1760) + v1_73) 6700))) ∧ ((((k_s (((nI 1310) + v1_73)).toNatClampNeg) = (nI 7) ∧ (k_s (((nI 1760) + v1_73)).toNatClampNeg) = 0) → (vp_in ((nI 1610) + v1_73) 6700 ∧ (vp_in (k_s (((nI 1610) + v1_73)).toNatClampNeg) 50 ∧ (L_73 (v1_73 + (nI 1)) (upd held_73 (((k_s (((nI 1610) + v1_73)).toNatClampNeg)).toNatClampNeg) (vp_nar .boolean (nI 1))))))) ∧ (¬ (((k_s (((nI 1310) + v1_73)).toNatClampNeg) = (nI 7) ∧ (k_s (((nI 1760) + v1_73)).toNatClampNeg) = 0)) → (L_73 (v1_73 + (nI 1)) held_73)))))))
def wl_X12_looks_73 (k_s : Nat → Int32) (k_stands : Nat → Int32) (Q : (Nat → Int32) → (Nat → Int32) → (Nat → Int32) → Prop) (fallen_2 : Nat → Int32) : Nat → Int32 → (Nat → Int32) → Prop
  | 0, _, _ => False
  | n + 1, v1_73, held_73 => wb_X12_looks_73 k_s k_stands Q fallen_2 (wl_X12_looks_73 k_s k_stands Q fallen_2 n) v1_73 held_73
def wb_X12_looks_2 (k_s : Nat → Int32) (k_stands : Nat → Int32) (Q : (Nat → Int32) → (Nat → Int32) → (Nat → Int32) → Prop) (L_2 : Int32 → (Nat → Int32) → (Nat → Int32) → Prop) (v1_2 : Int32) (fallen_2 : Nat → Int32) (held_2 : Nat → Int32) : Prop := (((nI 50) ≤ v1_2 → (∃ n, wl_X12_looks_73 k_s k_stands Q fallen_2 n (nI 0) held_2)) ∧ (¬ (nI 50) ≤ v1_2 → (((¬ (k_s 2) ≤ v1_2 → (vp_in ((nI 1310) + v1_2) 6700 ∧ ((k_s (((nI 1310) + v1_2)).toNatClampNeg) = (nI 6) → (vp_in ((nI 1860) + v1_2) 6700))))) ∧ (∀ y2_57 : Int32, y2_57 = (if (k_s 2) ≤ v1_2 then (nI 0) else (if (k_s (((nI 1310) + v1_2)).toNatClampNeg) = (nI 6) then (if (k_s (((nI 1860) + v1_2)).toNatClampNeg) = (nI 1) then (nI 1) else (nI 0)) else (nI 0))) → (vp_in v1_2 50 ∧ (vp_in v1_2 50 ∧ (L_2 (v1_2 + (nI 1)) (upd fallen_2 ((v1_2).toNatClampNeg) (vp_nar .boolean y2_57)) (upd held_2 ((v1_2).toNatClampNeg) (vp_nar .boolean (nI 0))))))))))
def wl_X12_looks_2 (k_s : Nat → Int32) (k_stands : Nat → Int32) (Q : (Nat → Int32) → (Nat → Int32) → (Nat → Int32) → Prop) : Nat → Int32 → (Nat → Int32) → (Nat → Int32) → Prop
  | 0, _, _, _ => False
  | n + 1, v1_2, fallen_2, held_2 => wb_X12_looks_2 k_s k_stands Q (wl_X12_looks_2 k_s k_stands Q n) v1_2 fallen_2 held_2
def wp_X12_looks  (k_s : Nat → Int32) (k_fallen : Nat → Int32) (k_held : Nat → Int32) (k_stands : Nat → Int32) (Q : (Nat → Int32) → (Nat → Int32) → (Nat → Int32) → Prop) : Prop := (∃ n, wl_X12_looks_2 k_s k_stands Q n (nI 0) k_fallen k_held)
set_option maxHeartbeats 4000000 in
set_option maxRecDepth 100000 in
theorem c_X12_looks {l : Launch} {D : va_G} {cI cZ cJ : ClassId} {h : Nat} {ad : Nat → Nat} {sz : Nat} {k_thrown : Int32} {k_s : Nat → Int32} {k_image : Nat → Int32} {k_hasImage : Int32} {k_steps : Nat → Int32} {k_read : Int32} {k_spot : Int32} {k_isWrong : Int32} {k_open : Int32} {k_act : Int32} {k_letBy : Nat → Int32} {k_letStamp : Nat → Int32} {k_stamp : Int32} {k_fallen : Nat → Int32} {k_held : Nat → Int32} {k_stands : Nat → Int32} {k_falling : Nat → Int32} {k_away : Nat → Int32} {k_round : Nat → Int32} {k_rests : Nat → Int64} {k_may : Nat → Int32} {k_next : Nat → Int32} {k_could : Nat → Int32} {k_couldNight : Nat → Int32} {k_night : Int32} {k_seats : Nat → Int32}  {Q : (Nat → Int32) → (Nat → Int32) → (Nat → Int32) → Prop} (hw : wp_X12_looks k_s k_fallen k_held k_stands Q) : Met l yX12_looks (Cond.code yX12_looks cX12_looks 2 none :: wsG) ({ frames := 2, cells := 0, slots := 0, locals := 46 } : Room) (preW D (tyM cI cZ cJ) (wM cI cZ cJ h ad k_thrown k_s k_image k_hasImage k_steps k_read k_spot k_isWrong k_open k_act k_letBy k_letStamp k_stamp k_fallen k_held k_stands k_falling k_away k_round k_rests k_may k_next k_could k_couldNight k_night k_seats) sz [.ref h]) (qv3 D (tyM cI cZ cJ) (va_A (wM cI cZ cJ h ad k_thrown k_s k_image k_hasImage k_steps k_read k_spot k_isWrong k_open k_act k_letBy k_letStamp k_stamp k_fallen k_held k_stands k_falling k_away k_round k_rests k_may k_next k_could k_couldNight k_night k_seats) sz) Q (fun k_fallen' k_held' k_stands' => (wM cI cZ cJ h ad k_thrown k_s k_image k_hasImage k_steps k_read k_spot k_isWrong k_open k_act k_letBy k_letStamp k_stamp k_fallen' k_held' k_stands' k_falling k_away k_round k_rests k_may k_next k_could k_couldNight k_night k_seats))) 0 0 (va_A (wM cI cZ cJ h ad k_thrown k_s k_image k_hasImage k_steps k_read k_spot k_isWrong k_open k_act k_letBy k_letStamp k_stamp k_fallen k_held k_stands k_falling k_away k_round k_rests k_may k_next k_could k_couldNight k_night k_seats) sz) := by
  refine st_met (cc := cX12_looks) (maxL := 2) (ret := none) (lv := [(0, .ref h)]) (Qc := fun A => qv3 D (tyM cI cZ cJ) A Q (fun k_fallen' k_held' k_stands' => (wM cI cZ cJ h ad k_thrown k_s k_image k_hasImage k_steps k_read k_spot k_isWrong k_open k_act k_letBy k_letStamp k_stamp k_fallen' k_held' k_stands' k_falling k_away k_round k_rests k_may k_next k_could k_couldNight k_night k_seats))) (by decide) rfl (Nat.le_of_ble_eq_true rfl) rfl ?_
  intro p e s m below meth c ls A R args QQ H locs C hr hlk hnm hK hX hsz hl hO hR hQQ
  have hx := C.1
  have hb := C.2.1
  have hown := C.2.2.2.1
  have hts := C.2.2.2.2
  have hin : ∀ w ∈ u_ws RX12 TX12 26, w ∈ (Cond.code yX12_looks cX12_looks 2 none :: wsG) := fun w h9 => List.mem_cons_of_mem _ (inG12 w h9)
  have lk_fallen := hts (Cond.fieldLink RX12 31 "FreeCityModel" "fallen" "[Z") (List.mem_cons_of_mem _ qw5_219)
  have lk_s := hts (Cond.fieldLink RX12 7 "FreeCityModel" "s" "[I") (List.mem_cons_of_mem _ qw5_207)
  have lk_held := hts (Cond.fieldLink RX12 34 "FreeCityModel" "held" "[Z") (List.mem_cons_of_mem _ qw5_220)
  have lk_stands := hts (Cond.fieldLink RX12 37 "FreeCityModel" "stands" "[Z") (List.mem_cons_of_mem _ qw5_221)
  unfold wp_X12_looks at hw
  refine lv_iconst (v := (nI 0)) hx hb dX12_looks_0 (by decide) ?_
  refine lv_istore_n (lv' := [(1, .int (nI 0)), (0, .ref h)]) hx hb dX12_looks_1 rfl hl (by decide) rfl (fun ls hl => ?_)
  obtain ⟨n_2, hw⟩ := hw
  have b_2 : ∀ (L_2 : Int32 → (Nat → Int32) → (Nat → Int32) → Prop) (ih_2 : ∀ (v1_2 : Int32) (fallen_2 : Nat → Int32) (held_2 : Nat → Int32) (H : Heap) (locs : List Loc) (ls : Array Slot), okW D A s.heap H locs (wM cI cZ cJ h ad k_thrown k_s k_image k_hasImage k_steps k_read k_spot k_isWrong k_open k_act k_letBy k_letStamp k_stamp fallen_2 held_2 k_stands k_falling k_away k_round k_rests k_may k_next k_could k_couldNight k_night k_seats) → lv_has ls 2 [(0, .ref h), (1, .int v1_2)] → L_2 v1_2 fallen_2 held_2 → W p l e R s m args below meth c H locs 0 0 QQ (F0 m 2 ls [])) (v1_2 : Int32) (fallen_2 : Nat → Int32) (held_2 : Nat → Int32) (H : Heap) (locs : List Loc) (ls : Array Slot), okW D A s.heap H locs (wM cI cZ cJ h ad k_thrown k_s k_image k_hasImage k_steps k_read k_spot k_isWrong k_open k_act k_letBy k_letStamp k_stamp fallen_2 held_2 k_stands k_falling k_away k_round k_rests k_may k_next k_could k_couldNight k_night k_seats) → lv_has ls 2 [(0, .ref h), (1, .int v1_2)] → wb_X12_looks_2 k_s k_stands Q L_2 v1_2 fallen_2 held_2 → W p l e R s m args below meth c H locs 0 0 QQ (F0 m 2 ls []) := by
    intro L_2 ih_2 v1_2 fallen_2 held_2 H locs ls hO hl hw
    unfold wb_X12_looks_2 at hw
    refine lv_iload_n hx hb dX12_looks_2 rfl (lv_at hl 1 rfl) ?_
    refine lv_bipush (v := (nI 50)) hx hb dX12_looks_3 (by decide) ?_
    refine lv_icmp_ge (tgt := 71) hx hb dX12_looks_5 (by decide) (fun q_5 => ?_) (fun q_5 => ?_)
    · have hw := hw.1 q_5
      refine lv_iconst (v := (nI 0)) hx hb dX12_looks_71 (by decide) ?_
      refine lv_istore_n (lv' := [(1, .int (nI 0)), (0, .ref h)]) hx hb dX12_looks_72 rfl hl (by decide) rfl (fun ls hl => ?_)
      obtain ⟨n_73, hw⟩ := hw
      have b_73 : ∀ (L_73 : Int32 → (Nat → Int32) → Prop) (ih_73 : ∀ (v1_73 : Int32) (held_73 : Nat → Int32) (H : Heap) (locs : List Loc) (ls : Array Slot), okW D A s.heap H locs (wM cI cZ cJ h ad k_thrown k_s k_image k_hasImage k_steps k_read k_spot k_isWrong k_open k_act k_letBy k_letStamp k_stamp fallen_2 held_73 k_stands k_falling k_away k_round k_rests k_may k_next k_could k_couldNight k_night k_seats) → lv_has ls 2 [(0, .ref h), (1, .int v1_73)] → L_73 v1_73 held_73 → W p l e R s m args below meth c H locs 0 0 QQ (F0 m 73 ls [])) (v1_73 : Int32) (held_73 : Nat → Int32) (H : Heap) (locs : List Loc) (ls : Array Slot), okW D A s.heap H locs (wM cI cZ cJ h ad k_thrown k_s k_image k_hasImage k_steps k_read k_spot k_isWrong k_open k_act k_letBy k_letStamp k_stamp fallen_2 held_73 k_stands k_falling k_away k_round k_rests k_may k_next k_could k_couldNight k_night k_seats) → lv_has ls 2 [(0, .ref h), (1, .int v1_73)] → wb_X12_looks_73 k_s k_stands Q fallen_2 L_73 v1_73 held_73 → W p l e R s m args below meth c H locs 0 0 QQ (F0 m 73 ls []) := by
        intro L_73 ih_73 v1_73 held_73 H locs ls hO hl hw
        unfold wb_X12_looks_73 at hw
        refine lv_iload_n hx hb dX12_looks_73 rfl (lv_at hl 1 rfl) ?_
        refine lv_aload_n hx hb dX12_looks_74 rfl (lv_at hl 0 rfl) ?_
        refine gM_s C hin hK lk_s hO dX12_looks_75 ?_
        refine lv_iconst (v := (nI 2)) hx hb dX12_looks_78 (by decide) ?_
        refine ldM_s C hK hO (inK 2 6700 (by decide) (by decide)) (clK 2 (by decide)) dX12_looks_79 ?_
        refine lv_icmp_ge (tgt := 133) hx hb dX12_looks_80 (by decide) (fun q_80 => ?_) (fun q_80 => ?_)
        · have hw := hw.1 q_80
          refine lv_aload_n hx hb dX12_looks_133 rfl (lv_at hl 0 rfl) ?_
          refine lv_aload_n hx hb dX12_looks_134 rfl (lv_at hl 0 rfl) ?_
          refine gM_fallen C hin hK lk_fallen hO dX12_looks_135 ?_
          refine cVv1 (As := [.ref (ad 13)]) (rest := []) C hK hX hO (c_X12_spreads_fallen (l := l) hw) (cwV 1 hts gd_X12_193 rfl rfl rfl hd_X12_spreads (rok hR (Nat.le_of_ble_eq_true rfl) (Nat.le_of_ble_eq_true rfl))) (ci := 12) (q0 := 0) rfl rfl rfl rfl hl.1 rfl (Nat.le_of_ble_eq_true rfl) dX12_looks_138 ⟨Nat.zero_le _, Nat.zero_le _⟩ (fun fallen_138 H locs hw hO => ?_)
          refine lv_aload_n hx hb dX12_looks_141 rfl (lv_at hl 0 rfl) ?_
          refine lv_aload_n hx hb dX12_looks_142 rfl (lv_at hl 0 rfl) ?_
          refine gM_held C hin hK lk_held hO dX12_looks_143 ?_
          refine cVv1 (As := [.ref (ad 14)]) (rest := []) C hK hX hO (c_X12_spreads_held (l := l) hw) (cwV 1 hts gd_X12_193 rfl rfl rfl hd_X12_spreads (rok hR (Nat.le_of_ble_eq_true rfl) (Nat.le_of_ble_eq_true rfl))) (ci := 12) (q0 := 0) rfl rfl rfl rfl hl.1 rfl (Nat.le_of_ble_eq_true rfl) dX12_looks_146 ⟨Nat.zero_le _, Nat.zero_le _⟩ (fun held_146 H locs hw hO => ?_)
          refine lv_iconst (v := (nI 0)) hx hb dX12_looks_149 (by decide) ?_
          refine lv_istore_n (lv' := [(1, .int (nI 0)), (0, .ref h)]) hx hb dX12_looks_150 rfl hl (by decide) rfl (fun ls hl => ?_)
          obtain ⟨n_151, hw⟩ := hw
          have b_151 : ∀ (L_151 : Int32 → (Nat → Int32) → Prop) (ih_151 : ∀ (v1_151 : Int32) (stands_151 : Nat → Int32) (H : Heap) (locs : List Loc) (ls : Array Slot), okW D A s.heap H locs (wM cI cZ cJ h ad k_thrown k_s k_image k_hasImage k_steps k_read k_spot k_isWrong k_open k_act k_letBy k_letStamp k_stamp fallen_138 held_146 stands_151 k_falling k_away k_round k_rests k_may k_next k_could k_couldNight k_night k_seats) → lv_has ls 2 [(0, .ref h), (1, .int v1_151)] → L_151 v1_151 stands_151 → W p l e R s m args below meth c H locs 0 0 QQ (F0 m 151 ls [])) (v1_151 : Int32) (stands_151 : Nat → Int32) (H : Heap) (locs : List Loc) (ls : Array Slot), okW D A s.heap H locs (wM cI cZ cJ h ad k_thrown k_s k_image k_hasImage k_steps k_read k_spot k_isWrong k_open k_act k_letBy k_letStamp k_stamp fallen_138 held_146 stands_151 k_falling k_away k_round k_rests k_may k_next k_could k_couldNight k_night k_seats) → lv_has ls 2 [(0, .ref h), (1, .int v1_151)] → wb_X12_looks_151 k_s Q fallen_138 held_146 L_151 v1_151 stands_151 → W p l e R s m args below meth c H locs 0 0 QQ (F0 m 151 ls []) := by
            intro L_151 ih_151 v1_151 stands_151 H locs ls hO hl hw
            unfold wb_X12_looks_151 at hw
            refine lv_iload_n hx hb dX12_looks_151 rfl (lv_at hl 1 rfl) ?_
            refine lv_bipush (v := (nI 50)) hx hb dX12_looks_152 (by decide) ?_
            refine lv_icmp_ge (tgt := 217) hx hb dX12_looks_154 (by decide) (fun q_154 => ?_) (fun q_154 => ?_)
            · have hw := hw.1 q_154
              exact rv3 hQQ hx hb hr hlk hK hO hw dX12_looks_217
            · have hw := hw.2 q_154
              refine lv_aload_n hx hb dX12_looks_157 rfl (lv_at hl 0 rfl) ?_
              refine gM_stands C hin hK lk_stands hO dX12_looks_158 ?_
              refine lv_iload_n hx hb dX12_looks_161 rfl (lv_at hl 1 rfl) ?_
              refine lv_iload_n hx hb dX12_looks_162 rfl (lv_at hl 1 rfl) ?_
              refine lv_aload_n hx hb dX12_looks_163 rfl (lv_at hl 0 rfl) ?_
              refine gM_s C hin hK lk_s hO dX12_looks_164 ?_
              refine lv_iconst (v := (nI 2)) hx hb dX12_looks_167 (by decide) ?_
              refine ldM_s C hK hO (inK 2 6700 (by decide) (by decide)) (clK 2 (by decide)) dX12_looks_168 ?_
              obtain ⟨hs, hw⟩ := hw
              have m_210 : ∀ (y2_210 : Int32) (H : Heap) (locs : List Loc) (ls : Array Slot), y2_210 = (if (k_s 2) ≤ v1_151 then (nI 0) else (if (k_s (((nI 1310) + v1_151)).toNatClampNeg) = (nI 6) then (if (fallen_138 (v1_151).toNatClampNeg) = 0 then (if (held_146 (v1_151).toNatClampNeg) = 0 then (nI 1) else (nI 0)) else (nI 0)) else (nI 0))) → okW D A s.heap H locs (wM cI cZ cJ h ad k_thrown k_s k_image k_hasImage k_steps k_read k_spot k_isWrong k_open k_act k_letBy k_letStamp k_stamp fallen_138 held_146 stands_151 k_falling k_away k_round k_rests k_may k_next k_could k_couldNight k_night k_seats) → lv_has ls 2 [(0, .ref h), (1, .int v1_151)] → W p l e R s m args below meth c H locs 0 0 QQ (F0 m 210 ls [.int y2_210, .int v1_151, .ref (ad 15)]) := by
                intro y2_210 H locs ls ey2_210 hO hl
                have hw := hw y2_210 ey2_210
                obtain ⟨o_210, hw⟩ := hw
                refine stM_stands C hK hO o_210 rfl dX12_looks_210 (fun H locs hO => ?_)
                refine lv_iinc (v := (v1_151 + (nI 1))) (lv' := [(1, .int (v1_151 + (nI 1))), (0, .ref h)]) hx hb dX12_looks_211 hl (k := 1) rfl (iinc_1 _) (by decide) rfl (fun ls hl => ?_)
                refine lv_goto (tgt := 151) hx hb dX12_looks_214 (by decide) ?_
                exact ih_151 (v1_151 + (nI 1)) (upd stands_151 ((v1_151).toNatClampNeg) (vp_nar .boolean y2_210)) _ _ _ hO (lv_sub hl [1, 0] rfl) hw
              refine lv_icmp_ge (tgt := 209) hx hb dX12_looks_169 (by decide) (fun q_169 => ?_) (fun q_169 => ?_)
              · refine lv_iconst (v := (nI 0)) hx hb dX12_looks_209 (by decide) ?_
                have hl := lv_sub hl [0, 1] rfl (l' := [(0, .ref h), (1, .int v1_151)])
                exact m_210 _ _ _ _ (by rw [if_pos q_169]) hO hl
              · have hs := hs q_169
                obtain ⟨o_181, hs⟩ := hs
                refine lv_aload_n hx hb dX12_looks_172 rfl (lv_at hl 0 rfl) ?_
                refine gM_s C hin hK lk_s hO dX12_looks_173 ?_
                refine lv_sipush (v := (nI 1310)) hx hb dX12_looks_176 (by decide) ?_
                refine lv_iload_n hx hb dX12_looks_179 rfl (lv_at hl 1 rfl) ?_
                refine lv_iadd hx hb dX12_looks_180 ?_
                refine ldM_s C hK hO o_181 rfl dX12_looks_181 ?_
                refine lv_bipush (v := (nI 6)) hx hb dX12_looks_182 (by decide) ?_
                refine lv_icmp_ne (tgt := 209) hx hb dX12_looks_184 (by decide) (fun q_184 => ?_) (fun q_184 => ?_)
                · refine lv_iconst (v := (nI 0)) hx hb dX12_looks_209 (by decide) ?_
                  have hl := lv_sub hl [0, 1] rfl (l' := [(0, .ref h), (1, .int v1_151)])
                  exact m_210 _ _ _ _ (by rw [if_neg q_169, if_neg q_184]) hO hl
                · have hs := hs q_184
                  obtain ⟨o_192, hs⟩ := hs
                  refine lv_aload_n hx hb dX12_looks_187 rfl (lv_at hl 0 rfl) ?_
                  refine gM_fallen C hin hK lk_fallen hO dX12_looks_188 ?_
                  refine lv_iload_n hx hb dX12_looks_191 rfl (lv_at hl 1 rfl) ?_
                  refine ldM_fallen C hK hO o_192 rfl dX12_looks_192 ?_
                  refine lv_if_ne (tgt := 209) hx hb dX12_looks_193 (by decide) (fun q_193 => ?_) (fun q_193 => ?_)
                  · refine lv_iconst (v := (nI 0)) hx hb dX12_looks_209 (by decide) ?_
                    have hl := lv_sub hl [0, 1] rfl (l' := [(0, .ref h), (1, .int v1_151)])
                    exact m_210 _ _ _ _ (by rw [if_neg q_169, if_pos q_184, if_neg q_193]) hO hl
                  · have hs := hs q_193
                    have o_201 := hs
                    refine lv_aload_n hx hb dX12_looks_196 rfl (lv_at hl 0 rfl) ?_
                    refine gM_held C hin hK lk_held hO dX12_looks_197 ?_
                    refine lv_iload_n hx hb dX12_looks_200 rfl (lv_at hl 1 rfl) ?_
                    refine ldM_held C hK hO o_201 rfl dX12_looks_201 ?_
                    refine lv_if_ne (tgt := 209) hx hb dX12_looks_202 (by decide) (fun q_202 => ?_) (fun q_202 => ?_)
                    · refine lv_iconst (v := (nI 0)) hx hb dX12_looks_209 (by decide) ?_
                      have hl := lv_sub hl [0, 1] rfl (l' := [(0, .ref h), (1, .int v1_151)])
                      exact m_210 _ _ _ _ (by rw [if_neg q_169, if_pos q_184, if_pos q_193, if_neg q_202]) hO hl
                    · refine lv_iconst (v := (nI 1)) hx hb dX12_looks_205 (by decide) ?_
                      refine lv_goto (tgt := 210) hx hb dX12_looks_206 (by decide) ?_
                      have hl := lv_sub hl [0, 1] rfl (l' := [(0, .ref h), (1, .int v1_151)])
                      exact m_210 _ _ _ _ (by rw [if_neg q_169, if_pos q_184, if_pos q_193, if_pos q_202]) hO hl
          have l_151 : ∀ (n : Nat) (v1_151 : Int32) (stands_151 : Nat → Int32) (H : Heap) (locs : List Loc) (ls : Array Slot), okW D A s.heap H locs (wM cI cZ cJ h ad k_thrown k_s k_image k_hasImage k_steps k_read k_spot k_isWrong k_open k_act k_letBy k_letStamp k_stamp fallen_138 held_146 stands_151 k_falling k_away k_round k_rests k_may k_next k_could k_couldNight k_night k_seats) → lv_has ls 2 [(0, .ref h), (1, .int v1_151)] → wl_X12_looks_151 k_s Q fallen_138 held_146 n v1_151 stands_151 → W p l e R s m args below meth c H locs 0 0 QQ (F0 m 151 ls []) := by
            intro n
            induction n with
            | zero => intro v1_151 stands_151 H locs ls hO hl hw; exact False.elim hw
            | succ n ih => exact b_151 _ ih
          exact l_151 n_151 (nI 0) k_stands _ _ _ hO (lv_sub hl [1, 0] rfl) hw
        · have hw := hw.2 q_80
          refine lv_aload_n hx hb dX12_looks_83 rfl (lv_at hl 0 rfl) ?_
          refine gM_s C hin hK lk_s hO dX12_looks_84 ?_
          refine lv_sipush (v := (nI 1310)) hx hb dX12_looks_87 (by decide) ?_
          refine lv_iload_n hx hb dX12_looks_90 rfl (lv_at hl 1 rfl) ?_
          refine lv_iadd hx hb dX12_looks_91 ?_
          obtain ⟨o_92, hw⟩ := hw
          refine ldM_s C hK hO o_92 rfl dX12_looks_92 ?_
          refine lv_bipush (v := (nI 7)) hx hb dX12_looks_93 (by decide) ?_
          obtain ⟨hs, hw⟩ := hw
          have a_111 : ((k_s (((nI 1310) + v1_73)).toNatClampNeg) = (nI 7) ∧ (k_s (((nI 1760) + v1_73)).toNatClampNeg) = 0) → ∀ (H : Heap) (locs : List Loc) (ls : Array Slot), okW D A s.heap H locs (wM cI cZ cJ h ad k_thrown k_s k_image k_hasImage k_steps k_read k_spot k_isWrong k_open k_act k_letBy k_letStamp k_stamp fallen_2 held_73 k_stands k_falling k_away k_round k_rests k_may k_next k_could k_couldNight k_night k_seats) → lv_has ls 2 [(0, .ref h), (1, .int v1_73)] → W p l e R s m args below meth c H locs 0 0 QQ (F0 m 111 ls []) := by
            intro cf H locs ls hO hl
            have hw := hw.1 cf
            refine lv_aload_n hx hb dX12_looks_111 rfl (lv_at hl 0 rfl) ?_
            refine gM_held C hin hK lk_held hO dX12_looks_112 ?_
            refine lv_aload_n hx hb dX12_looks_115 rfl (lv_at hl 0 rfl) ?_
            refine gM_s C hin hK lk_s hO dX12_looks_116 ?_
            refine lv_sipush (v := (nI 1610)) hx hb dX12_looks_119 (by decide) ?_
            refine lv_iload_n hx hb dX12_looks_122 rfl (lv_at hl 1 rfl) ?_
            refine lv_iadd hx hb dX12_looks_123 ?_
            obtain ⟨o_124, hw⟩ := hw
            refine ldM_s C hK hO o_124 rfl dX12_looks_124 ?_
            refine lv_iconst (v := (nI 1)) hx hb dX12_looks_125 (by decide) ?_
            obtain ⟨o_126, hw⟩ := hw
            refine stM_held C hK hO o_126 rfl dX12_looks_126 (fun H locs hO => ?_)
            refine lv_iinc (v := (v1_73 + (nI 1))) (lv' := [(1, .int (v1_73 + (nI 1))), (0, .ref h)]) hx hb dX12_looks_127 hl (k := 1) rfl (iinc_1 _) (by decide) rfl (fun ls hl => ?_)
            refine lv_goto (tgt := 73) hx hb dX12_looks_130 (by decide) ?_
            exact ih_73 (v1_73 + (nI 1)) (upd held_73 (((k_s (((nI 1610) + v1_73)).toNatClampNeg)).toNatClampNeg) (vp_nar .boolean (nI 1))) _ _ _ hO (lv_sub hl [1, 0] rfl) hw
          have a_127 : ¬ (((k_s (((nI 1310) + v1_73)).toNatClampNeg) = (nI 7) ∧ (k_s (((nI 1760) + v1_73)).toNatClampNeg) = 0)) → ∀ (H : Heap) (locs : List Loc) (ls : Array Slot), okW D A s.heap H locs (wM cI cZ cJ h ad k_thrown k_s k_image k_hasImage k_steps k_read k_spot k_isWrong k_open k_act k_letBy k_letStamp k_stamp fallen_2 held_73 k_stands k_falling k_away k_round k_rests k_may k_next k_could k_couldNight k_night k_seats) → lv_has ls 2 [(0, .ref h), (1, .int v1_73)] → W p l e R s m args below meth c H locs 0 0 QQ (F0 m 127 ls []) := by
            intro cf H locs ls hO hl
            have hw := hw.2 cf
            refine lv_iinc (v := (v1_73 + (nI 1))) (lv' := [(1, .int (v1_73 + (nI 1))), (0, .ref h)]) hx hb dX12_looks_127 hl (k := 1) rfl (iinc_1 _) (by decide) rfl (fun ls hl => ?_)
            refine lv_goto (tgt := 73) hx hb dX12_looks_130 (by decide) ?_
            exact ih_73 (v1_73 + (nI 1)) held_73 _ _ _ hO (lv_sub hl [1, 0] rfl) hw
          refine lv_icmp_ne (tgt := 127) hx hb dX12_looks_95 (by decide) (fun q_95 => ?_) (fun q_95 => ?_)
          · have hl := lv_sub hl [0, 1] rfl (l' := [(0, .ref h), (1, .int v1_73)])
            exact a_127 (fun h => q_95 h.1) _ _ _ hO hl
          · have hs := hs q_95
            have o_107 := hs
            refine lv_aload_n hx hb dX12_looks_98 rfl (lv_at hl 0 rfl) ?_
            refine gM_s C hin hK lk_s hO dX12_looks_99 ?_
            refine lv_sipush (v := (nI 1760)) hx hb dX12_looks_102 (by decide) ?_
            refine lv_iload_n hx hb dX12_looks_105 rfl (lv_at hl 1 rfl) ?_
            refine lv_iadd hx hb dX12_looks_106 ?_
            refine ldM_s C hK hO o_107 rfl dX12_looks_107 ?_
            refine lv_if_ne (tgt := 127) hx hb dX12_looks_108 (by decide) (fun q_108 => ?_) (fun q_108 => ?_)
            · have hl := lv_sub hl [0, 1] rfl (l' := [(0, .ref h), (1, .int v1_73)])
              exact a_127 (fun h => (q_108) h.2) _ _ _ hO hl
            · have hl := lv_sub hl [0, 1] rfl (l' := [(0, .ref h), (1, .int v1_73)])
              exact a_111 ⟨q_95, q_108⟩ _ _ _ hO hl
      have l_73 : ∀ (n : Nat) (v1_73 : Int32) (held_73 : Nat → Int32) (H : Heap) (locs : List Loc) (ls : Array Slot), okW D A s.heap H locs (wM cI cZ cJ h ad k_thrown k_s k_image k_hasImage k_steps k_read k_spot k_isWrong k_open k_act k_letBy k_letStamp k_stamp fallen_2 held_73 k_stands k_falling k_away k_round k_rests k_may k_next k_could k_couldNight k_night k_seats) → lv_has ls 2 [(0, .ref h), (1, .int v1_73)] → wl_X12_looks_73 k_s k_stands Q fallen_2 n v1_73 held_73 → W p l e R s m args below meth c H locs 0 0 QQ (F0 m 73 ls []) := by
        intro n
        induction n with
        | zero => intro v1_73 held_73 H locs ls hO hl hw; exact False.elim hw
        | succ n ih => exact b_73 _ ih
      exact l_73 n_73 (nI 0) held_2 _ _ _ hO (lv_sub hl [1, 0] rfl) hw
    · have hw := hw.2 q_5
      refine lv_aload_n hx hb dX12_looks_8 rfl (lv_at hl 0 rfl) ?_
      refine gM_fallen C hin hK lk_fallen hO dX12_looks_9 ?_
      refine lv_iload_n hx hb dX12_looks_12 rfl (lv_at hl 1 rfl) ?_
      refine lv_iload_n hx hb dX12_looks_13 rfl (lv_at hl 1 rfl) ?_
      refine lv_aload_n hx hb dX12_looks_14 rfl (lv_at hl 0 rfl) ?_
      refine gM_s C hin hK lk_s hO dX12_looks_15 ?_
      refine lv_iconst (v := (nI 2)) hx hb dX12_looks_18 (by decide) ?_
      refine ldM_s C hK hO (inK 2 6700 (by decide) (by decide)) (clK 2 (by decide)) dX12_looks_19 ?_
      obtain ⟨hs, hw⟩ := hw
      have m_57 : ∀ (y2_57 : Int32) (H : Heap) (locs : List Loc) (ls : Array Slot), y2_57 = (if (k_s 2) ≤ v1_2 then (nI 0) else (if (k_s (((nI 1310) + v1_2)).toNatClampNeg) = (nI 6) then (if (k_s (((nI 1860) + v1_2)).toNatClampNeg) = (nI 1) then (nI 1) else (nI 0)) else (nI 0))) → okW D A s.heap H locs (wM cI cZ cJ h ad k_thrown k_s k_image k_hasImage k_steps k_read k_spot k_isWrong k_open k_act k_letBy k_letStamp k_stamp fallen_2 held_2 k_stands k_falling k_away k_round k_rests k_may k_next k_could k_couldNight k_night k_seats) → lv_has ls 2 [(0, .ref h), (1, .int v1_2)] → W p l e R s m args below meth c H locs 0 0 QQ (F0 m 57 ls [.int y2_57, .int v1_2, .ref (ad 13)]) := by
        intro y2_57 H locs ls ey2_57 hO hl
        have hw := hw y2_57 ey2_57
        obtain ⟨o_57, hw⟩ := hw
        refine stM_fallen C hK hO o_57 rfl dX12_looks_57 (fun H locs hO => ?_)
        refine lv_aload_n hx hb dX12_looks_58 rfl (lv_at hl 0 rfl) ?_
        refine gM_held C hin hK lk_held hO dX12_looks_59 ?_
        refine lv_iload_n hx hb dX12_looks_62 rfl (lv_at hl 1 rfl) ?_
        refine lv_iconst (v := (nI 0)) hx hb dX12_looks_63 (by decide) ?_
        obtain ⟨o_64, hw⟩ := hw
        refine stM_held C hK hO o_64 rfl dX12_looks_64 (fun H locs hO => ?_)
        refine lv_iinc (v := (v1_2 + (nI 1))) (lv' := [(1, .int (v1_2 + (nI 1))), (0, .ref h)]) hx hb dX12_looks_65 hl (k := 1) rfl (iinc_1 _) (by decide) rfl (fun ls hl => ?_)
        refine lv_goto (tgt := 2) hx hb dX12_looks_68 (by decide) ?_
        exact ih_2 (v1_2 + (nI 1)) (upd fallen_2 ((v1_2).toNatClampNeg) (vp_nar .boolean y2_57)) (upd held_2 ((v1_2).toNatClampNeg) (vp_nar .boolean (nI 0))) _ _ _ hO (lv_sub hl [1, 0] rfl) hw
      refine lv_icmp_ge (tgt := 56) hx hb dX12_looks_20 (by decide) (fun q_20 => ?_) (fun q_20 => ?_)
      · refine lv_iconst (v := (nI 0)) hx hb dX12_looks_56 (by decide) ?_
        have hl := lv_sub hl [0, 1] rfl (l' := [(0, .ref h), (1, .int v1_2)])
        exact m_57 _ _ _ _ (by rw [if_pos q_20]) hO hl
      · have hs := hs q_20
        obtain ⟨o_32, hs⟩ := hs
        refine lv_aload_n hx hb dX12_looks_23 rfl (lv_at hl 0 rfl) ?_
        refine gM_s C hin hK lk_s hO dX12_looks_24 ?_
        refine lv_sipush (v := (nI 1310)) hx hb dX12_looks_27 (by decide) ?_
        refine lv_iload_n hx hb dX12_looks_30 rfl (lv_at hl 1 rfl) ?_
        refine lv_iadd hx hb dX12_looks_31 ?_
        refine ldM_s C hK hO o_32 rfl dX12_looks_32 ?_
        refine lv_bipush (v := (nI 6)) hx hb dX12_looks_33 (by decide) ?_
        refine lv_icmp_ne (tgt := 56) hx hb dX12_looks_35 (by decide) (fun q_35 => ?_) (fun q_35 => ?_)
        · refine lv_iconst (v := (nI 0)) hx hb dX12_looks_56 (by decide) ?_
          have hl := lv_sub hl [0, 1] rfl (l' := [(0, .ref h), (1, .int v1_2)])
          exact m_57 _ _ _ _ (by rw [if_neg q_20, if_neg q_35]) hO hl
        · have hs := hs q_35
          have o_47 := hs
          refine lv_aload_n hx hb dX12_looks_38 rfl (lv_at hl 0 rfl) ?_
          refine gM_s C hin hK lk_s hO dX12_looks_39 ?_
          refine lv_sipush (v := (nI 1860)) hx hb dX12_looks_42 (by decide) ?_
          refine lv_iload_n hx hb dX12_looks_45 rfl (lv_at hl 1 rfl) ?_
          refine lv_iadd hx hb dX12_looks_46 ?_
          refine ldM_s C hK hO o_47 rfl dX12_looks_47 ?_
          refine lv_iconst (v := (nI 1)) hx hb dX12_looks_48 (by decide) ?_
          refine lv_icmp_ne (tgt := 56) hx hb dX12_looks_49 (by decide) (fun q_49 => ?_) (fun q_49 => ?_)
          · refine lv_iconst (v := (nI 0)) hx hb dX12_looks_56 (by decide) ?_
            have hl := lv_sub hl [0, 1] rfl (l' := [(0, .ref h), (1, .int v1_2)])
            exact m_57 _ _ _ _ (by rw [if_neg q_20, if_pos q_35, if_neg q_49]) hO hl
          · refine lv_iconst (v := (nI 1)) hx hb dX12_looks_52 (by decide) ?_
            refine lv_goto (tgt := 57) hx hb dX12_looks_53 (by decide) ?_
            have hl := lv_sub hl [0, 1] rfl (l' := [(0, .ref h), (1, .int v1_2)])
            exact m_57 _ _ _ _ (by rw [if_neg q_20, if_pos q_35, if_pos q_49]) hO hl
  have l_2 : ∀ (n : Nat) (v1_2 : Int32) (fallen_2 : Nat → Int32) (held_2 : Nat → Int32) (H : Heap) (locs : List Loc) (ls : Array Slot), okW D A s.heap H locs (wM cI cZ cJ h ad k_thrown k_s k_image k_hasImage k_steps k_read k_spot k_isWrong k_open k_act k_letBy k_letStamp k_stamp fallen_2 held_2 k_stands k_falling k_away k_round k_rests k_may k_next k_could k_couldNight k_night k_seats) → lv_has ls 2 [(0, .ref h), (1, .int v1_2)] → wl_X12_looks_2 k_s k_stands Q n v1_2 fallen_2 held_2 → W p l e R s m args below meth c H locs 0 0 QQ (F0 m 2 ls []) := by
    intro n
    induction n with
    | zero => intro v1_2 fallen_2 held_2 H locs ls hO hl hw; exact False.elim hw
    | succ n ih => exact b_2 _ ih
  exact l_2 n_2 (nI 0) k_fallen k_held _ _ _ hO (lv_sub hl [1, 0] rfl) hw
