def wk_X12_clause_74 (p1 : Int32) (k_s : Nat → Int32) (k_read : Int32) (k_open : Int32) (k_act : Int32) (Q : (Nat → Int32) → (Int32) → (Int32) → (Int32) → Prop) (x_14 : Int32) (y0_30 : Int32) (spot_74 : Int32) (isWrong_74 : Int32) : Prop := (wp_X12_must (nI 32) k_s k_read spot_74 isWrong_74 (fun (spot_77 : Int32) (isWrong_77 : Int32) => ((isWrong_77 = 0 → (∀ y2_106 : Int32, y2_106 = (if y0_30 = 0 then (nI 0) else (nI 1)) → (vp_in ((nI 4490) + x_14) 6700 ∧ (vp_in ((nI 4620) + x_14) 6700 ∧ (wp_X12_some (upd (upd k_s ((((nI 4490) + x_14)).toNatClampNeg) y2_106) ((((nI 4620) + x_14)).toNatClampNeg) spot_77) k_read spot_77 isWrong_77 k_open k_act (fun (r_122 : Int32) (spot_122 : Int32) (isWrong_122 : Int32) (open_122 : Int32) => (vp_in ((nI 4470) + p1) 6700 ∧ (vp_in ((nI 4470) + p1) 6700 ∧ (Q (upd (upd (upd k_s ((((nI 4490) + x_14)).toNatClampNeg) y2_106) ((((nI 4620) + x_14)).toNatClampNeg) spot_77) ((((nI 4470) + p1)).toNatClampNeg) (((upd (upd k_s ((((nI 4490) + x_14)).toNatClampNeg) y2_106) ((((nI 4620) + x_14)).toNatClampNeg) spot_77) (((nI 4470) + p1)).toNatClampNeg) + (nI 1))) spot_122 isWrong_122 open_122))))))))) ∧ (¬ isWrong_77 = 0 → (Q k_s spot_77 isWrong_77 k_open)))))
def wp_X12_clause (p1 : Int32) (k_s : Nat → Int32) (k_read : Int32) (k_spot : Int32) (k_isWrong : Int32) (k_open : Int32) (k_act : Int32) (Q : (Nat → Int32) → (Int32) → (Int32) → (Int32) → Prop) : Prop := (vp_in ((nI 4470) + p1) 6700 ∧ (∀ x_14 : Int32, x_14 = (((nI 8) * p1) + (k_s (((nI 4470) + p1)).toNatClampNeg)) → (ok_X12_here k_s k_read k_spot ∧ (∀ y0_30 : Int32, y0_30 = (if (f_X12_here k_s k_read k_spot) = (nI 108) then (nI 1) else (nI 0)) → ((y0_30 = 0 → (wp_X12_must (nI 98) k_s k_read k_spot k_isWrong (fun (spot_59 : Int32) (isWrong_59 : Int32) => (wp_X12_must (nI 97) k_s k_read spot_59 isWrong_59 (fun (spot_65 : Int32) (isWrong_65 : Int32) => (wp_X12_must (nI 114) k_s k_read spot_65 isWrong_65 (fun (spot_71 : Int32) (isWrong_71 : Int32) => (wk_X12_clause_74 p1 k_s k_read k_open k_act Q x_14 y0_30 spot_71 isWrong_71)))))))) ∧ (¬ y0_30 = 0 → (wp_X12_must (nI 108) k_s k_read k_spot k_isWrong (fun (spot_38 : Int32) (isWrong_38 : Int32) => (wp_X12_must (nI 101) k_s k_read spot_38 isWrong_38 (fun (spot_44 : Int32) (isWrong_44 : Int32) => (wp_X12_must (nI 116) k_s k_read spot_44 isWrong_44 (fun (spot_50 : Int32) (isWrong_50 : Int32) => (wk_X12_clause_74 p1 k_s k_read k_open k_act Q x_14 y0_30 spot_50 isWrong_50)))))))))))))
set_option maxHeartbeats 4000000 in
set_option maxRecDepth 100000 in
theorem c_X12_clause {l : Launch} {D : va_G} {cI cZ cJ : ClassId} {h : Nat} {ad : Nat → Nat} {sz : Nat} {k_thrown : Int32} {k_s : Nat → Int32} {k_image : Nat → Int32} {k_hasImage : Int32} {k_steps : Nat → Int32} {k_read : Int32} {k_spot : Int32} {k_isWrong : Int32} {k_open : Int32} {k_act : Int32} {k_letBy : Nat → Int32} {k_letStamp : Nat → Int32} {k_stamp : Int32} {k_fallen : Nat → Int32} {k_held : Nat → Int32} {k_stands : Nat → Int32} {k_falling : Nat → Int32} {k_away : Nat → Int32} {k_round : Nat → Int32} {k_rests : Nat → Int64} {k_may : Nat → Int32} {k_next : Nat → Int32} {k_could : Nat → Int32} {k_couldNight : Nat → Int32} {k_night : Int32} {k_seats : Nat → Int32} {p1 : Int32} {Q : (Nat → Int32) → (Int32) → (Int32) → (Int32) → Prop} (hw : wp_X12_clause p1 k_s k_read k_spot k_isWrong k_open k_act Q) : Met l yX12_clause (Cond.code yX12_clause cX12_clause 5 none :: wsG) ({ frames := 31, cells := 0, slots := 0, locals := 703 } : Room) (preW D (tyM cI cZ cJ) (wM cI cZ cJ h ad k_thrown k_s k_image k_hasImage k_steps k_read k_spot k_isWrong k_open k_act k_letBy k_letStamp k_stamp k_fallen k_held k_stands k_falling k_away k_round k_rests k_may k_next k_could k_couldNight k_night k_seats) sz [.ref h, .int p1]) (qv4 D (tyM cI cZ cJ) (va_A (wM cI cZ cJ h ad k_thrown k_s k_image k_hasImage k_steps k_read k_spot k_isWrong k_open k_act k_letBy k_letStamp k_stamp k_fallen k_held k_stands k_falling k_away k_round k_rests k_may k_next k_could k_couldNight k_night k_seats) sz) Q (fun k_s' k_spot' k_isWrong' k_open' => (wM cI cZ cJ h ad k_thrown k_s' k_image k_hasImage k_steps k_read k_spot' k_isWrong' k_open' k_act k_letBy k_letStamp k_stamp k_fallen k_held k_stands k_falling k_away k_round k_rests k_may k_next k_could k_couldNight k_night k_seats))) 0 0 (va_A (wM cI cZ cJ h ad k_thrown k_s k_image k_hasImage k_steps k_read k_spot k_isWrong k_open k_act k_letBy k_letStamp k_stamp k_fallen k_held k_stands k_falling k_away k_round k_rests k_may k_next k_could k_couldNight k_night k_seats) sz) := by
  refine st_met (cc := cX12_clause) (maxL := 5) (ret := none) (lv := [(0, .ref h), (1, .int p1)]) (Qc := fun A => qv4 D (tyM cI cZ cJ) A Q (fun k_s' k_spot' k_isWrong' k_open' => (wM cI cZ cJ h ad k_thrown k_s' k_image k_hasImage k_steps k_read k_spot' k_isWrong' k_open' k_act k_letBy k_letStamp k_stamp k_fallen k_held k_stands k_falling k_away k_round k_rests k_may k_next k_could k_couldNight k_night k_seats))) (by decide) rfl (Nat.le_of_ble_eq_true rfl) rfl ?_
  intro p e s m below meth c ls A R args QQ H locs C hr hlk hnm hK hX hsz hl hO hR hQQ
  have hx := C.1
  have hb := C.2.1
  have hown := C.2.2.2.1
  have hts := C.2.2.2.2
  have hin : ∀ w ∈ u_ws RX12 TX12 26, w ∈ (Cond.code yX12_clause cX12_clause 5 none :: wsG) := fun w h9 => List.mem_cons_of_mem _ (inG12 w h9)
  have lk_s := hts (Cond.fieldLink RX12 7 "FreeCityModel" "s" "[I") (List.mem_cons_of_mem _ qw5_207)
  have lk_isWrong := hts (Cond.fieldLink RX12 101 "FreeCityModel" "isWrong" "Z") (List.mem_cons_of_mem _ qw5_213)
  have lk_spot := hts (Cond.fieldLink RX12 95 "FreeCityModel" "spot" "I") (List.mem_cons_of_mem _ qw5_212)
  unfold wp_X12_clause at hw
  refine lv_bipush (v := (nI 8)) hx hb dX12_clause_0 (by decide) ?_
  refine lv_iload_n hx hb dX12_clause_2 rfl (lv_at hl 1 rfl) ?_
  refine lv_imul hx hb dX12_clause_3 ?_
  refine lv_aload_n hx hb dX12_clause_4 rfl (lv_at hl 0 rfl) ?_
  refine gM_s C hin hK lk_s hO dX12_clause_5 ?_
  refine lv_sipush (v := (nI 4470)) hx hb dX12_clause_8 (by decide) ?_
  refine lv_iload_n hx hb dX12_clause_11 rfl (lv_at hl 1 rfl) ?_
  refine lv_iadd hx hb dX12_clause_12 ?_
  obtain ⟨o_13, hw⟩ := hw
  refine ldM_s C hK hO o_13 rfl dX12_clause_13 ?_
  refine lv_iadd hx hb dX12_clause_14 ?_
  refine lv_topi (fun x_14 ex_14 => ?_)
  have hw := hw x_14 ex_14
  refine lv_istore_n (lv' := [(2, .int x_14), (0, .ref h), (1, .int p1)]) hx hb dX12_clause_15 rfl hl (by decide) rfl (fun ls hl => ?_)
  refine lv_aload_n hx hb dX12_clause_16 rfl (lv_at hl 1 rfl) ?_
  obtain ⟨o_17, hw⟩ := hw
  refine cVi0 (As := []) (rest := []) C hK hX hO (c_X12_here (l := l) o_17) (cwV 0 hts gd_X12_105 rfl rfl rfl hd_X12_here (rok hR (Nat.le_of_ble_eq_true rfl) (Nat.le_of_ble_eq_true rfl))) (ci := 12) (q0 := 0) rfl rfl rfl rfl hl.1 rfl (Nat.le_of_ble_eq_true rfl) dX12_clause_17 ⟨Nat.zero_le _, Nat.zero_le _⟩ (fun r_17 H locs e_17 hO => ?_)
  subst e_17
  refine lv_bipush (v := (nI 108)) hx hb dX12_clause_20 (by decide) ?_
  have m_30 : ∀ (y0_30 : Int32) (H : Heap) (locs : List Loc) (ls : Array Slot), y0_30 = (if (f_X12_here k_s k_read k_spot) = (nI 108) then (nI 1) else (nI 0)) → okW D A s.heap H locs (wM cI cZ cJ h ad k_thrown k_s k_image k_hasImage k_steps k_read k_spot k_isWrong k_open k_act k_letBy k_letStamp k_stamp k_fallen k_held k_stands k_falling k_away k_round k_rests k_may k_next k_could k_couldNight k_night k_seats) → lv_has ls 5 [(0, .ref h), (1, .int p1), (2, .int x_14)] → W p l e R s m args below meth c H locs 0 0 QQ (F0 m 30 ls [.int y0_30]) := by
    intro y0_30 H locs ls ey0_30 hO hl
    have hw := hw y0_30 ey0_30
    refine lv_istore_n (lv' := [(3, .int y0_30), (0, .ref h), (1, .int p1), (2, .int x_14)]) hx hb dX12_clause_30 rfl hl (by decide) rfl (fun ls hl => ?_)
    refine lv_iload_n hx hb dX12_clause_31 rfl (lv_at hl 0 rfl) ?_
    have j_74 : ∀ (spot_74 : Int32) (isWrong_74 : Int32) (H : Heap) (locs : List Loc) (ls : Array Slot), okW D A s.heap H locs (wM cI cZ cJ h ad k_thrown k_s k_image k_hasImage k_steps k_read spot_74 isWrong_74 k_open k_act k_letBy k_letStamp k_stamp k_fallen k_held k_stands k_falling k_away k_round k_rests k_may k_next k_could k_couldNight k_night k_seats) → lv_has ls 5 [(0, .ref h), (1, .int p1), (2, .int x_14), (3, .int y0_30)] → wk_X12_clause_74 p1 k_s k_read k_open k_act Q x_14 y0_30 spot_74 isWrong_74 → W p l e R s m args below meth c H locs 0 0 QQ (F0 m 74 ls []) := by
      intro spot_74 isWrong_74 H locs ls hO hl hw
      unfold wk_X12_clause_74 at hw
      refine lv_aload_n hx hb dX12_clause_74 rfl (lv_at hl 0 rfl) ?_
      refine lv_bipush (v := (nI 32)) hx hb dX12_clause_75 (by decide) ?_
      refine cVv2 (As := [.int (nI 32)]) (rest := []) C hK hX hO (c_X12_must (l := l) hw) (cwV 1 hts gd_X12_119 rfl rfl rfl hd_X12_must (rok hR (Nat.le_of_ble_eq_true rfl) (Nat.le_of_ble_eq_true rfl))) (ci := 12) (q0 := 0) rfl rfl rfl rfl hl.1 rfl (Nat.le_of_ble_eq_true rfl) dX12_clause_77 ⟨Nat.zero_le _, Nat.zero_le _⟩ (fun spot_77 isWrong_77 H locs hw hO => ?_)
      refine lv_aload_n hx hb dX12_clause_80 rfl (lv_at hl 0 rfl) ?_
      refine gM_isWrong C hin hK lk_isWrong hO dX12_clause_81 ?_
      refine lv_if_eq (tgt := 88) hx hb dX12_clause_84 (by decide) (fun q_84 => ?_) (fun q_84 => ?_)
      · have hw := hw.1 q_84
        refine lv_aload_n hx hb dX12_clause_88 rfl (lv_at hl 0 rfl) ?_
        refine gM_s C hin hK lk_s hO dX12_clause_89 ?_
        refine lv_sipush (v := (nI 4490)) hx hb dX12_clause_92 (by decide) ?_
        refine lv_iload_n hx hb dX12_clause_95 rfl (lv_at hl 2 rfl) ?_
        refine lv_iadd hx hb dX12_clause_96 ?_
        refine lv_iload_n hx hb dX12_clause_97 rfl (lv_at hl 3 rfl) ?_
        have m_106 : ∀ (y2_106 : Int32) (H : Heap) (locs : List Loc) (ls : Array Slot), y2_106 = (if y0_30 = 0 then (nI 0) else (nI 1)) → okW D A s.heap H locs (wM cI cZ cJ h ad k_thrown k_s k_image k_hasImage k_steps k_read spot_77 isWrong_77 k_open k_act k_letBy k_letStamp k_stamp k_fallen k_held k_stands k_falling k_away k_round k_rests k_may k_next k_could k_couldNight k_night k_seats) → lv_has ls 5 [(0, .ref h), (1, .int p1), (2, .int x_14)] → W p l e R s m args below meth c H locs 0 0 QQ (F0 m 106 ls [.int y2_106, .int ((nI 4490) + x_14), .ref (ad 1)]) := by
          intro y2_106 H locs ls ey2_106 hO hl
          have hw := hw y2_106 ey2_106
          obtain ⟨o_106, hw⟩ := hw
          refine stM_s C hK hO o_106 rfl dX12_clause_106 (fun H locs hO => ?_)
          refine lv_aload_n hx hb dX12_clause_107 rfl (lv_at hl 0 rfl) ?_
          refine gM_s C hin hK lk_s hO dX12_clause_108 ?_
          refine lv_sipush (v := (nI 4620)) hx hb dX12_clause_111 (by decide) ?_
          refine lv_iload_n hx hb dX12_clause_114 rfl (lv_at hl 2 rfl) ?_
          refine lv_iadd hx hb dX12_clause_115 ?_
          refine lv_aload_n hx hb dX12_clause_116 rfl (lv_at hl 0 rfl) ?_
          refine gM_spot C hin hK lk_spot hO dX12_clause_117 ?_
          obtain ⟨o_120, hw⟩ := hw
          refine stM_s C hK hO o_120 rfl dX12_clause_120 (fun H locs hO => ?_)
          refine lv_aload_n hx hb dX12_clause_121 rfl (lv_at hl 0 rfl) ?_
          refine cVi3 (As := []) (rest := []) C hK hX hO (c_X12_some (l := l) hw) (cwV 0 hts gd_X12_116 rfl rfl rfl hd_X12_some (rok hR (Nat.le_of_ble_eq_true rfl) (Nat.le_of_ble_eq_true rfl))) (ci := 12) (q0 := 0) rfl rfl rfl rfl hl.1 rfl (Nat.le_of_ble_eq_true rfl) dX12_clause_122 ⟨Nat.zero_le _, Nat.zero_le _⟩ (fun r_122 spot_122 isWrong_122 open_122 H locs hw hO => ?_)
          refine lv_istore (lv' := [(4, .int r_122), (0, .ref h), (1, .int p1), (2, .int x_14)]) hx hb dX12_clause_125 hl (by decide) rfl (fun ls hl => ?_)
          refine lv_aload_n hx hb dX12_clause_127 rfl (lv_at hl 1 rfl) ?_
          refine gM_s C hin hK lk_s hO dX12_clause_128 ?_
          refine lv_sipush (v := (nI 4470)) hx hb dX12_clause_131 (by decide) ?_
          refine lv_iload_n hx hb dX12_clause_134 rfl (lv_at hl 2 rfl) ?_
          refine lv_iadd hx hb dX12_clause_135 ?_
          refine lv_dup2_11 hx hb dX12_clause_136 rfl rfl ?_
          obtain ⟨o_137, hw⟩ := hw
          refine ldM_s C hK hO o_137 rfl dX12_clause_137 ?_
          refine lv_iconst (v := (nI 1)) hx hb dX12_clause_138 (by decide) ?_
          refine lv_iadd hx hb dX12_clause_139 ?_
          obtain ⟨o_140, hw⟩ := hw
          refine stM_s C hK hO o_140 rfl dX12_clause_140 (fun H locs hO => ?_)
          exact rv4 hQQ hx hb hr hlk hK hO hw dX12_clause_141
        refine lv_if_eq (tgt := 105) hx hb dX12_clause_98 (by decide) (fun q_98 => ?_) (fun q_98 => ?_)
        · refine lv_iconst (v := (nI 0)) hx hb dX12_clause_105 (by decide) ?_
          have hl := lv_sub hl [0, 1, 2] rfl (l' := [(0, .ref h), (1, .int p1), (2, .int x_14)])
          exact m_106 _ _ _ _ (by rw [if_pos q_98]) hO hl
        · refine lv_iconst (v := (nI 1)) hx hb dX12_clause_101 (by decide) ?_
          refine lv_goto (tgt := 106) hx hb dX12_clause_102 (by decide) ?_
          have hl := lv_sub hl [0, 1, 2] rfl (l' := [(0, .ref h), (1, .int p1), (2, .int x_14)])
          exact m_106 _ _ _ _ (by rw [if_neg q_98]) hO hl
      · have hw := hw.2 q_84
        exact rv4 hQQ hx hb hr hlk hK hO hw dX12_clause_87
    refine lv_if_eq (tgt := 56) hx hb dX12_clause_32 (by decide) (fun q_32 => ?_) (fun q_32 => ?_)
    · have hw := hw.1 q_32
      refine lv_aload_n hx hb dX12_clause_56 rfl (lv_at hl 1 rfl) ?_
      refine lv_bipush (v := (nI 98)) hx hb dX12_clause_57 (by decide) ?_
      refine cVv2 (As := [.int (nI 98)]) (rest := []) C hK hX hO (c_X12_must (l := l) hw) (cwV 1 hts gd_X12_119 rfl rfl rfl hd_X12_must (rok hR (Nat.le_of_ble_eq_true rfl) (Nat.le_of_ble_eq_true rfl))) (ci := 12) (q0 := 0) rfl rfl rfl rfl hl.1 rfl (Nat.le_of_ble_eq_true rfl) dX12_clause_59 ⟨Nat.zero_le _, Nat.zero_le _⟩ (fun spot_59 isWrong_59 H locs hw hO => ?_)
      refine lv_aload_n hx hb dX12_clause_62 rfl (lv_at hl 1 rfl) ?_
      refine lv_bipush (v := (nI 97)) hx hb dX12_clause_63 (by decide) ?_
      refine cVv2 (As := [.int (nI 97)]) (rest := []) C hK hX hO (c_X12_must (l := l) hw) (cwV 1 hts gd_X12_119 rfl rfl rfl hd_X12_must (rok hR (Nat.le_of_ble_eq_true rfl) (Nat.le_of_ble_eq_true rfl))) (ci := 12) (q0 := 0) rfl rfl rfl rfl hl.1 rfl (Nat.le_of_ble_eq_true rfl) dX12_clause_65 ⟨Nat.zero_le _, Nat.zero_le _⟩ (fun spot_65 isWrong_65 H locs hw hO => ?_)
      refine lv_aload_n hx hb dX12_clause_68 rfl (lv_at hl 1 rfl) ?_
      refine lv_bipush (v := (nI 114)) hx hb dX12_clause_69 (by decide) ?_
      refine cVv2 (As := [.int (nI 114)]) (rest := []) C hK hX hO (c_X12_must (l := l) hw) (cwV 1 hts gd_X12_119 rfl rfl rfl hd_X12_must (rok hR (Nat.le_of_ble_eq_true rfl) (Nat.le_of_ble_eq_true rfl))) (ci := 12) (q0 := 0) rfl rfl rfl rfl hl.1 rfl (Nat.le_of_ble_eq_true rfl) dX12_clause_71 ⟨Nat.zero_le _, Nat.zero_le _⟩ (fun spot_71 isWrong_71 H locs hw hO => ?_)
      exact j_74 spot_71 isWrong_71 _ _ _ hO (lv_sub hl [1, 2, 3, 0] rfl) hw
    · have hw := hw.2 q_32
      refine lv_aload_n hx hb dX12_clause_35 rfl (lv_at hl 1 rfl) ?_
      refine lv_bipush (v := (nI 108)) hx hb dX12_clause_36 (by decide) ?_
      refine cVv2 (As := [.int (nI 108)]) (rest := []) C hK hX hO (c_X12_must (l := l) hw) (cwV 1 hts gd_X12_119 rfl rfl rfl hd_X12_must (rok hR (Nat.le_of_ble_eq_true rfl) (Nat.le_of_ble_eq_true rfl))) (ci := 12) (q0 := 0) rfl rfl rfl rfl hl.1 rfl (Nat.le_of_ble_eq_true rfl) dX12_clause_38 ⟨Nat.zero_le _, Nat.zero_le _⟩ (fun spot_38 isWrong_38 H locs hw hO => ?_)
      refine lv_aload_n hx hb dX12_clause_41 rfl (lv_at hl 1 rfl) ?_
      refine lv_bipush (v := (nI 101)) hx hb dX12_clause_42 (by decide) ?_
      refine cVv2 (As := [.int (nI 101)]) (rest := []) C hK hX hO (c_X12_must (l := l) hw) (cwV 1 hts gd_X12_119 rfl rfl rfl hd_X12_must (rok hR (Nat.le_of_ble_eq_true rfl) (Nat.le_of_ble_eq_true rfl))) (ci := 12) (q0 := 0) rfl rfl rfl rfl hl.1 rfl (Nat.le_of_ble_eq_true rfl) dX12_clause_44 ⟨Nat.zero_le _, Nat.zero_le _⟩ (fun spot_44 isWrong_44 H locs hw hO => ?_)
      refine lv_aload_n hx hb dX12_clause_47 rfl (lv_at hl 1 rfl) ?_
      refine lv_bipush (v := (nI 116)) hx hb dX12_clause_48 (by decide) ?_
      refine cVv2 (As := [.int (nI 116)]) (rest := []) C hK hX hO (c_X12_must (l := l) hw) (cwV 1 hts gd_X12_119 rfl rfl rfl hd_X12_must (rok hR (Nat.le_of_ble_eq_true rfl) (Nat.le_of_ble_eq_true rfl))) (ci := 12) (q0 := 0) rfl rfl rfl rfl hl.1 rfl (Nat.le_of_ble_eq_true rfl) dX12_clause_50 ⟨Nat.zero_le _, Nat.zero_le _⟩ (fun spot_50 isWrong_50 H locs hw hO => ?_)
      refine lv_goto (tgt := 74) hx hb dX12_clause_53 (by decide) ?_
      exact j_74 spot_50 isWrong_50 _ _ _ hO (lv_sub hl [1, 2, 3, 0] rfl) hw
  refine lv_icmp_ne (tgt := 29) hx hb dX12_clause_22 (by decide) (fun q_22 => ?_) (fun q_22 => ?_)
  · refine lv_iconst (v := (nI 0)) hx hb dX12_clause_29 (by decide) ?_
    have hl := lv_sub hl [1, 2, 0] rfl (l' := [(0, .ref h), (1, .int p1), (2, .int x_14)])
    exact m_30 _ _ _ _ (by rw [if_neg q_22]) hO hl
  · refine lv_iconst (v := (nI 1)) hx hb dX12_clause_25 (by decide) ?_
    refine lv_goto (tgt := 30) hx hb dX12_clause_26 (by decide) ?_
    have hl := lv_sub hl [1, 2, 0] rfl (l' := [(0, .ref h), (1, .int p1), (2, .int x_14)])
    exact m_30 _ _ _ _ (by rw [if_pos q_22]) hO hl
theorem gd_X12_145 {a : Cond} : GoodIn (a :: wsG) (wsV RX12 145 RX12 yX12_clause (Cond.code yX12_clause cX12_clause 5 none :: wsG)) := gdV qw6_90 qw6_92 qs_37 qw1_12 qw6_93
theorem hd_X12_clause : yX12_clause.cls = RX12 ∧ yX12_clause.cls ≠ "java/lang/invoke/MethodHandle" ∧ yX12_clause.cls ≠ "java/lang/invoke/VarHandle" ∧ (parseMethodDescriptor yX12_clause.desc).map (fun d => d.parameters.length) = some 1 := by decide +kernel
def wb_X12_readsText_143 (p1 : Int32) (k_letStamp : Nat → Int32) (Q : Int32 → (Nat → Int32) → (Int32) → (Int32) → (Int32) → (Int32) → (Int32) → (Nat → Int32) → Prop) (L_143 : (Nat → Int32) → Int32 → Int32 → Int32 → Prop) (s_143 : Nat → Int32) (spot_143 : Int32) (isWrong_143 : Int32) (open_143 : Int32) : Prop := (((isWrong_143 = 0 → (vp_in ((nI 4470) + p1) 6700 ∧ (¬ (nI 8) ≤ (s_143 (((nI 4470) + p1)).toNatClampNeg) → (ok_X12_here s_143 p1 spot_143))))) ∧ (((isWrong_143 = 0 ∧ (¬ (nI 8) ≤ (s_143 (((nI 4470) + p1)).toNatClampNeg) ∧ (f_X12_here s_143 p1 spot_143) = (nI 59))) → (wp_X12_clause p1 s_143 p1 (spot_143 + (nI 1)) isWrong_143 open_143 (nI 0) (fun (s_186 : Nat → Int32) (spot_186 : Int32) (isWrong_186 : Int32) (open_186 : Int32) => (L_143 s_186 spot_186 isWrong_186 open_186)))) ∧ (¬ ((isWrong_143 = 0 ∧ (¬ (nI 8) ≤ (s_143 (((nI 4470) + p1)).toNatClampNeg) ∧ (f_X12_here s_143 p1 spot_143) = (nI 59)))) → (((isWrong_143 = 0 → (vp_in ((nI 4450) + p1) 6700))) ∧ (∀ y1_222 : Int32, y1_222 = (if isWrong_143 = 0 then (if spot_143 = (s_143 (((nI 4450) + p1)).toNatClampNeg) then (nI 0) else (nI 1)) else (nI 1)) → (∀ y0_237 : Int32, y0_237 = (if y1_222 = 0 then (nI 1) else (nI 0)) → (Q y0_237 s_143 p1 spot_143 y1_222 open_143 (nI 0) (upd k_letStamp ((p1).toNatClampNeg) (nI 0)))))))))
def wl_X12_readsText_143 (p1 : Int32) (k_letStamp : Nat → Int32) (Q : Int32 → (Nat → Int32) → (Int32) → (Int32) → (Int32) → (Int32) → (Int32) → (Nat → Int32) → Prop) : Nat → (Nat → Int32) → Int32 → Int32 → Int32 → Prop
  | 0, _, _, _, _ => False
  | n + 1, s_143, spot_143, isWrong_143, open_143 => wb_X12_readsText_143 p1 k_letStamp Q (wl_X12_readsText_143 p1 k_letStamp Q n) s_143 spot_143 isWrong_143 open_143
def wb_X12_readsText_42 (p1 : Int32) (k_letStamp : Nat → Int32) (Q : Int32 → (Nat → Int32) → (Int32) → (Int32) → (Int32) → (Int32) → (Int32) → (Nat → Int32) → Prop) (L_42 : Int32 → (Nat → Int32) → Prop) (v4_42 : Int32) (s_42 : Nat → Int32) : Prop := (((s_42 10) ≤ v4_42 → (vp_in ((nI 4470) + p1) 6700 ∧ (vp_in p1 16 ∧ (wp_X12_clause p1 (upd (upd s_42 10 (nI 0)) ((((nI 4470) + p1)).toNatClampNeg) (nI 0)) p1 (nI 0) (nI 0) (nI 0) (nI 0) (fun (s_140 : Nat → Int32) (spot_140 : Int32) (isWrong_140 : Int32) (open_140 : Int32) => (∃ n, wl_X12_readsText_143 p1 k_letStamp Q n s_140 spot_140 isWrong_140 open_140)))))) ∧ (¬ (s_42 10) ≤ v4_42 → (vp_in ((nI 1190) + v4_42) 6700 ∧ (vp_in (((nI 4750) + ((nI 120) * p1)) + v4_42) 6700 ∧ (L_42 (v4_42 + (nI 1)) (upd s_42 (((((nI 4750) + ((nI 120) * p1)) + v4_42)).toNatClampNeg) (s_42 (((nI 1190) + v4_42)).toNatClampNeg)))))))
def wl_X12_readsText_42 (p1 : Int32) (k_letStamp : Nat → Int32) (Q : Int32 → (Nat → Int32) → (Int32) → (Int32) → (Int32) → (Int32) → (Int32) → (Nat → Int32) → Prop) : Nat → Int32 → (Nat → Int32) → Prop
  | 0, _, _ => False
  | n + 1, v4_42, s_42 => wb_X12_readsText_42 p1 k_letStamp Q (wl_X12_readsText_42 p1 k_letStamp Q n) v4_42 s_42
def wp_X12_readsText (p1 : Int32) (p2 : Int32) (p3 : Int32) (k_s : Nat → Int32) (k_letStamp : Nat → Int32) (Q : Int32 → (Nat → Int32) → (Int32) → (Int32) → (Int32) → (Int32) → (Int32) → (Nat → Int32) → Prop) : Prop := (vp_in ((nI 4410) + p1) 6700 ∧ (vp_in ((nI 4430) + p1) 6700 ∧ (vp_in ((nI 4450) + p1) 6700 ∧ (∃ n, wl_X12_readsText_42 p1 k_letStamp Q n (nI 0) (upd (upd (upd k_s ((((nI 4410) + p1)).toNatClampNeg) p2) ((((nI 4430) + p1)).toNatClampNeg) p3) ((((nI 4450) + p1)).toNatClampNeg) ((upd (upd k_s ((((nI 4410) + p1)).toNatClampNeg) p2) ((((nI 4430) + p1)).toNatClampNeg) p3) 10))))))
set_option maxHeartbeats 4000000 in
set_option maxRecDepth 100000 in
theorem c_X12_readsText {l : Launch} {D : va_G} {cI cZ cJ : ClassId} {h : Nat} {ad : Nat → Nat} {sz : Nat} {k_thrown : Int32} {k_s : Nat → Int32} {k_image : Nat → Int32} {k_hasImage : Int32} {k_steps : Nat → Int32} {k_read : Int32} {k_spot : Int32} {k_isWrong : Int32} {k_open : Int32} {k_act : Int32} {k_letBy : Nat → Int32} {k_letStamp : Nat → Int32} {k_stamp : Int32} {k_fallen : Nat → Int32} {k_held : Nat → Int32} {k_stands : Nat → Int32} {k_falling : Nat → Int32} {k_away : Nat → Int32} {k_round : Nat → Int32} {k_rests : Nat → Int64} {k_may : Nat → Int32} {k_next : Nat → Int32} {k_could : Nat → Int32} {k_couldNight : Nat → Int32} {k_night : Int32} {k_seats : Nat → Int32} {p1 : Int32} {p2 : Int32} {p3 : Int32} {Q : Int32 → (Nat → Int32) → (Int32) → (Int32) → (Int32) → (Int32) → (Int32) → (Nat → Int32) → Prop} (hw : wp_X12_readsText p1 p2 p3 k_s k_letStamp Q) : Met l yX12_readsText (Cond.code yX12_readsText cX12_readsText 5 (some .boolean) :: wsG) ({ frames := 32, cells := 0, slots := 0, locals := 727 } : Room) (preW D (tyM cI cZ cJ) (wM cI cZ cJ h ad k_thrown k_s k_image k_hasImage k_steps k_read k_spot k_isWrong k_open k_act k_letBy k_letStamp k_stamp k_fallen k_held k_stands k_falling k_away k_round k_rests k_may k_next k_could k_couldNight k_night k_seats) sz [.ref h, .int p1, .int p2, .int p3]) (qi7 D (tyM cI cZ cJ) (va_A (wM cI cZ cJ h ad k_thrown k_s k_image k_hasImage k_steps k_read k_spot k_isWrong k_open k_act k_letBy k_letStamp k_stamp k_fallen k_held k_stands k_falling k_away k_round k_rests k_may k_next k_could k_couldNight k_night k_seats) sz) Q (fun k_s' k_read' k_spot' k_isWrong' k_open' k_act' k_letStamp' => (wM cI cZ cJ h ad k_thrown k_s' k_image k_hasImage k_steps k_read' k_spot' k_isWrong' k_open' k_act' k_letBy k_letStamp' k_stamp k_fallen k_held k_stands k_falling k_away k_round k_rests k_may k_next k_could k_couldNight k_night k_seats))) 0 0 (va_A (wM cI cZ cJ h ad k_thrown k_s k_image k_hasImage k_steps k_read k_spot k_isWrong k_open k_act k_letBy k_letStamp k_stamp k_fallen k_held k_stands k_falling k_away k_round k_rests k_may k_next k_could k_couldNight k_night k_seats) sz) := by
  refine st_met (cc := cX12_readsText) (maxL := 5) (ret := (some .boolean)) (lv := [(0, .ref h), (1, .int p1), (2, .int p2), (3, .int p3)]) (Qc := fun A => qi7 D (tyM cI cZ cJ) A Q (fun k_s' k_read' k_spot' k_isWrong' k_open' k_act' k_letStamp' => (wM cI cZ cJ h ad k_thrown k_s' k_image k_hasImage k_steps k_read' k_spot' k_isWrong' k_open' k_act' k_letBy k_letStamp' k_stamp k_fallen k_held k_stands k_falling k_away k_round k_rests k_may k_next k_could k_couldNight k_night k_seats))) (by decide) rfl (Nat.le_of_ble_eq_true rfl) rfl ?_
  intro p e s m below meth c ls A R args QQ H locs C hr hlk hnm hK hX hsz hl hO hR hQQ
  have hx := C.1
  have hb := C.2.1
  have hown := C.2.2.2.1
  have hts := C.2.2.2.2
  have hin : ∀ w ∈ u_ws RX12 TX12 26, w ∈ (Cond.code yX12_readsText cX12_readsText 5 (some .boolean) :: wsG) := fun w h9 => List.mem_cons_of_mem _ (inG12 w h9)
  have lk_s := hts (Cond.fieldLink RX12 7 "FreeCityModel" "s" "[I") (List.mem_cons_of_mem _ qw5_207)
  have lk_letStamp := hts (Cond.fieldLink RX12 24 "FreeCityModel" "letStamp" "[I") (List.mem_cons_of_mem _ qw5_217)
  have lk_read := hts (Cond.fieldLink RX12 98 "FreeCityModel" "read" "I") (List.mem_cons_of_mem _ qw5_211)
  have lk_spot := hts (Cond.fieldLink RX12 95 "FreeCityModel" "spot" "I") (List.mem_cons_of_mem _ qw5_212)
  have lk_open := hts (Cond.fieldLink RX12 109 "FreeCityModel" "open" "I") (List.mem_cons_of_mem _ qw5_214)
  have lk_isWrong := hts (Cond.fieldLink RX12 101 "FreeCityModel" "isWrong" "Z") (List.mem_cons_of_mem _ qw5_213)
  have lk_act := hts (Cond.fieldLink RX12 126 "FreeCityModel" "act" "I") (List.mem_cons_of_mem _ qw5_215)
  unfold wp_X12_readsText at hw
  refine lv_aload_n hx hb dX12_readsText_0 rfl (lv_at hl 0 rfl) ?_
  refine gM_s C hin hK lk_s hO dX12_readsText_1 ?_
  refine lv_sipush (v := (nI 4410)) hx hb dX12_readsText_4 (by decide) ?_
  refine lv_iload_n hx hb dX12_readsText_7 rfl (lv_at hl 1 rfl) ?_
  refine lv_iadd hx hb dX12_readsText_8 ?_
  refine lv_iload_n hx hb dX12_readsText_9 rfl (lv_at hl 2 rfl) ?_
  obtain ⟨o_10, hw⟩ := hw
  refine stM_s C hK hO o_10 rfl dX12_readsText_10 (fun H locs hO => ?_)
  refine lv_aload_n hx hb dX12_readsText_11 rfl (lv_at hl 0 rfl) ?_
  refine gM_s C hin hK lk_s hO dX12_readsText_12 ?_
  refine lv_sipush (v := (nI 4430)) hx hb dX12_readsText_15 (by decide) ?_
  refine lv_iload_n hx hb dX12_readsText_18 rfl (lv_at hl 1 rfl) ?_
  refine lv_iadd hx hb dX12_readsText_19 ?_
  refine lv_iload_n hx hb dX12_readsText_20 rfl (lv_at hl 3 rfl) ?_
  obtain ⟨o_21, hw⟩ := hw
  refine stM_s C hK hO o_21 rfl dX12_readsText_21 (fun H locs hO => ?_)
  refine lv_aload_n hx hb dX12_readsText_22 rfl (lv_at hl 0 rfl) ?_
  refine gM_s C hin hK lk_s hO dX12_readsText_23 ?_
  refine lv_sipush (v := (nI 4450)) hx hb dX12_readsText_26 (by decide) ?_
  refine lv_iload_n hx hb dX12_readsText_29 rfl (lv_at hl 1 rfl) ?_
  refine lv_iadd hx hb dX12_readsText_30 ?_
  refine lv_aload_n hx hb dX12_readsText_31 rfl (lv_at hl 0 rfl) ?_
  refine gM_s C hin hK lk_s hO dX12_readsText_32 ?_
  refine lv_bipush (v := (nI 10)) hx hb dX12_readsText_35 (by decide) ?_
  refine ldM_s C hK hO (inK 10 6700 (by decide) (by decide)) (clK 10 (by decide)) dX12_readsText_37 ?_
  obtain ⟨o_38, hw⟩ := hw
  refine stM_s C hK hO o_38 rfl dX12_readsText_38 (fun H locs hO => ?_)
  refine lv_iconst (v := (nI 0)) hx hb dX12_readsText_39 (by decide) ?_
  refine lv_istore (lv' := [(4, .int (nI 0)), (0, .ref h), (1, .int p1), (2, .int p2), (3, .int p3)]) hx hb dX12_readsText_40 hl (by decide) rfl (fun ls hl => ?_)
  obtain ⟨n_42, hw⟩ := hw
  have b_42 : ∀ (L_42 : Int32 → (Nat → Int32) → Prop) (ih_42 : ∀ (v4_42 : Int32) (s_42 : Nat → Int32) (H : Heap) (locs : List Loc) (ls : Array Slot), okW D A s.heap H locs (wM cI cZ cJ h ad k_thrown s_42 k_image k_hasImage k_steps k_read k_spot k_isWrong k_open k_act k_letBy k_letStamp k_stamp k_fallen k_held k_stands k_falling k_away k_round k_rests k_may k_next k_could k_couldNight k_night k_seats) → lv_has ls 5 [(0, .ref h), (1, .int p1), (4, .int v4_42)] → L_42 v4_42 s_42 → W p l e R s m args below meth c H locs 0 0 QQ (F0 m 42 ls [])) (v4_42 : Int32) (s_42 : Nat → Int32) (H : Heap) (locs : List Loc) (ls : Array Slot), okW D A s.heap H locs (wM cI cZ cJ h ad k_thrown s_42 k_image k_hasImage k_steps k_read k_spot k_isWrong k_open k_act k_letBy k_letStamp k_stamp k_fallen k_held k_stands k_falling k_away k_round k_rests k_may k_next k_could k_couldNight k_night k_seats) → lv_has ls 5 [(0, .ref h), (1, .int p1), (4, .int v4_42)] → wb_X12_readsText_42 p1 k_letStamp Q L_42 v4_42 s_42 → W p l e R s m args below meth c H locs 0 0 QQ (F0 m 42 ls []) := by
    intro L_42 ih_42 v4_42 s_42 H locs ls hO hl hw
    unfold wb_X12_readsText_42 at hw
    refine lv_iload hx hb dX12_readsText_42 (lv_at hl 2 rfl) ?_
    refine lv_aload_n hx hb dX12_readsText_44 rfl (lv_at hl 0 rfl) ?_
    refine gM_s C hin hK lk_s hO dX12_readsText_45 ?_
    refine lv_bipush (v := (nI 10)) hx hb dX12_readsText_48 (by decide) ?_
    refine ldM_s C hK hO (inK 10 6700 (by decide) (by decide)) (clK 10 (by decide)) dX12_readsText_50 ?_
    refine lv_icmp_ge (tgt := 87) hx hb dX12_readsText_51 (by decide) (fun q_51 => ?_) (fun q_51 => ?_)
    · have hw := hw.1 q_51
      refine lv_aload_n hx hb dX12_readsText_87 rfl (lv_at hl 0 rfl) ?_
      refine gM_s C hin hK lk_s hO dX12_readsText_88 ?_
      refine lv_bipush (v := (nI 10)) hx hb dX12_readsText_91 (by decide) ?_
      refine lv_iconst (v := (nI 0)) hx hb dX12_readsText_93 (by decide) ?_
      refine stM_s C hK hO (inK 10 6700 (by decide) (by decide)) (clK 10 (by decide)) dX12_readsText_94 (fun H locs hO => ?_)
      refine lv_aload_n hx hb dX12_readsText_95 rfl (lv_at hl 0 rfl) ?_
      refine gM_s C hin hK lk_s hO dX12_readsText_96 ?_
      refine lv_sipush (v := (nI 4470)) hx hb dX12_readsText_99 (by decide) ?_
      refine lv_iload_n hx hb dX12_readsText_102 rfl (lv_at hl 1 rfl) ?_
      refine lv_iadd hx hb dX12_readsText_103 ?_
      refine lv_iconst (v := (nI 0)) hx hb dX12_readsText_104 (by decide) ?_
      obtain ⟨o_105, hw⟩ := hw
      refine stM_s C hK hO o_105 rfl dX12_readsText_105 (fun H locs hO => ?_)
      refine lv_aload_n hx hb dX12_readsText_106 rfl (lv_at hl 0 rfl) ?_
      refine gM_letStamp C hin hK lk_letStamp hO dX12_readsText_107 ?_
      refine lv_iload_n hx hb dX12_readsText_110 rfl (lv_at hl 1 rfl) ?_
      refine lv_iconst (v := (nI 0)) hx hb dX12_readsText_111 (by decide) ?_
      obtain ⟨o_112, hw⟩ := hw
      refine stM_letStamp C hK hO o_112 rfl dX12_readsText_112 (fun H locs hO => ?_)
      refine lv_aload_n hx hb dX12_readsText_113 rfl (lv_at hl 0 rfl) ?_
      refine lv_iload_n hx hb dX12_readsText_114 rfl (lv_at hl 1 rfl) ?_
      refine pM_read C hin hK lk_read hO dX12_readsText_115 (fun H locs hO => ?_)
      refine lv_aload_n hx hb dX12_readsText_118 rfl (lv_at hl 0 rfl) ?_
      refine lv_iconst (v := (nI 0)) hx hb dX12_readsText_119 (by decide) ?_
      refine pM_spot C hin hK lk_spot hO dX12_readsText_120 (fun H locs hO => ?_)
      refine lv_aload_n hx hb dX12_readsText_123 rfl (lv_at hl 0 rfl) ?_
      refine lv_iconst (v := (nI 0)) hx hb dX12_readsText_124 (by decide) ?_
      refine pM_open C hin hK lk_open hO dX12_readsText_125 (fun H locs hO => ?_)
      refine lv_aload_n hx hb dX12_readsText_128 rfl (lv_at hl 0 rfl) ?_
      refine lv_iconst (v := (nI 0)) hx hb dX12_readsText_129 (by decide) ?_
      refine pM_isWrong C hin hK lk_isWrong hO zb0 dX12_readsText_130 (fun H locs hO => ?_)
      refine lv_aload_n hx hb dX12_readsText_133 rfl (lv_at hl 0 rfl) ?_
      refine lv_iconst (v := (nI 0)) hx hb dX12_readsText_134 (by decide) ?_
      refine pM_act C hin hK lk_act hO dX12_readsText_135 (fun H locs hO => ?_)
      refine lv_aload_n hx hb dX12_readsText_138 rfl (lv_at hl 0 rfl) ?_
      refine lv_iload_n hx hb dX12_readsText_139 rfl (lv_at hl 1 rfl) ?_
      refine cVv4 (As := [.int p1]) (rest := []) C hK hX hO (c_X12_clause (l := l) hw) (cwV 1 hts gd_X12_145 rfl rfl rfl hd_X12_clause (rok hR (Nat.le_of_ble_eq_true rfl) (Nat.le_of_ble_eq_true rfl))) (ci := 12) (q0 := 0) rfl rfl rfl rfl hl.1 rfl (Nat.le_of_ble_eq_true rfl) dX12_readsText_140 ⟨Nat.zero_le _, Nat.zero_le _⟩ (fun s_140 spot_140 isWrong_140 open_140 H locs hw hO => ?_)
      obtain ⟨n_143, hw⟩ := hw
      have b_143 : ∀ (L_143 : (Nat → Int32) → Int32 → Int32 → Int32 → Prop) (ih_143 : ∀ (s_143 : Nat → Int32) (spot_143 : Int32) (isWrong_143 : Int32) (open_143 : Int32) (H : Heap) (locs : List Loc) (ls : Array Slot), okW D A s.heap H locs (wM cI cZ cJ h ad k_thrown s_143 k_image k_hasImage k_steps p1 spot_143 isWrong_143 open_143 (nI 0) k_letBy (upd k_letStamp ((p1).toNatClampNeg) (nI 0)) k_stamp k_fallen k_held k_stands k_falling k_away k_round k_rests k_may k_next k_could k_couldNight k_night k_seats) → lv_has ls 5 [(0, .ref h), (1, .int p1)] → L_143 s_143 spot_143 isWrong_143 open_143 → W p l e R s m args below meth c H locs 0 0 QQ (F0 m 143 ls [])) (s_143 : Nat → Int32) (spot_143 : Int32) (isWrong_143 : Int32) (open_143 : Int32) (H : Heap) (locs : List Loc) (ls : Array Slot), okW D A s.heap H locs (wM cI cZ cJ h ad k_thrown s_143 k_image k_hasImage k_steps p1 spot_143 isWrong_143 open_143 (nI 0) k_letBy (upd k_letStamp ((p1).toNatClampNeg) (nI 0)) k_stamp k_fallen k_held k_stands k_falling k_away k_round k_rests k_may k_next k_could k_couldNight k_night k_seats) → lv_has ls 5 [(0, .ref h), (1, .int p1)] → wb_X12_readsText_143 p1 k_letStamp Q L_143 s_143 spot_143 isWrong_143 open_143 → W p l e R s m args below meth c H locs 0 0 QQ (F0 m 143 ls []) := by
        intro L_143 ih_143 s_143 spot_143 isWrong_143 open_143 H locs ls hO hl hw
        unfold wb_X12_readsText_143 at hw
        refine lv_aload_n hx hb dX12_readsText_143 rfl (lv_at hl 0 rfl) ?_
        refine gM_isWrong C hin hK lk_isWrong hO dX12_readsText_144 ?_
        obtain ⟨hs, hw⟩ := hw
        have a_174 : (isWrong_143 = 0 ∧ (¬ (nI 8) ≤ (s_143 (((nI 4470) + p1)).toNatClampNeg) ∧ (f_X12_here s_143 p1 spot_143) = (nI 59))) → ∀ (H : Heap) (locs : List Loc) (ls : Array Slot), okW D A s.heap H locs (wM cI cZ cJ h ad k_thrown s_143 k_image k_hasImage k_steps p1 spot_143 isWrong_143 open_143 (nI 0) k_letBy (upd k_letStamp ((p1).toNatClampNeg) (nI 0)) k_stamp k_fallen k_held k_stands k_falling k_away k_round k_rests k_may k_next k_could k_couldNight k_night k_seats) → lv_has ls 5 [(0, .ref h), (1, .int p1)] → W p l e R s m args below meth c H locs 0 0 QQ (F0 m 174 ls []) := by
          intro cf H locs ls hO hl
          have hw := hw.1 cf
          refine lv_aload_n hx hb dX12_readsText_174 rfl (lv_at hl 0 rfl) ?_
          refine lv_dup hx hb dX12_readsText_175 rfl ?_
          refine gM_spot C hin hK lk_spot hO dX12_readsText_176 ?_
          refine lv_iconst (v := (nI 1)) hx hb dX12_readsText_179 (by decide) ?_
          refine lv_iadd hx hb dX12_readsText_180 ?_
          refine pM_spot C hin hK lk_spot hO dX12_readsText_181 (fun H locs hO => ?_)
          refine lv_aload_n hx hb dX12_readsText_184 rfl (lv_at hl 0 rfl) ?_
          refine lv_iload_n hx hb dX12_readsText_185 rfl (lv_at hl 1 rfl) ?_
          refine cVv4 (As := [.int p1]) (rest := []) C hK hX hO (c_X12_clause (l := l) hw) (cwV 1 hts gd_X12_145 rfl rfl rfl hd_X12_clause (rok hR (Nat.le_of_ble_eq_true rfl) (Nat.le_of_ble_eq_true rfl))) (ci := 12) (q0 := 0) rfl rfl rfl rfl hl.1 rfl (Nat.le_of_ble_eq_true rfl) dX12_readsText_186 ⟨Nat.zero_le _, Nat.zero_le _⟩ (fun s_186 spot_186 isWrong_186 open_186 H locs hw hO => ?_)
          refine lv_goto (tgt := 143) hx hb dX12_readsText_189 (by decide) ?_
          exact ih_143 s_186 spot_186 isWrong_186 open_186 _ _ _ hO (lv_sub hl [0, 1] rfl) hw
        have a_192 : ¬ ((isWrong_143 = 0 ∧ (¬ (nI 8) ≤ (s_143 (((nI 4470) + p1)).toNatClampNeg) ∧ (f_X12_here s_143 p1 spot_143) = (nI 59)))) → ∀ (H : Heap) (locs : List Loc) (ls : Array Slot), okW D A s.heap H locs (wM cI cZ cJ h ad k_thrown s_143 k_image k_hasImage k_steps p1 spot_143 isWrong_143 open_143 (nI 0) k_letBy (upd k_letStamp ((p1).toNatClampNeg) (nI 0)) k_stamp k_fallen k_held k_stands k_falling k_away k_round k_rests k_may k_next k_could k_couldNight k_night k_seats) → lv_has ls 5 [(0, .ref h), (1, .int p1)] → W p l e R s m args below meth c H locs 0 0 QQ (F0 m 192 ls []) := by
          intro cf H locs ls hO hl
          have hw := hw.2 cf
          refine lv_aload_n hx hb dX12_readsText_192 rfl (lv_at hl 0 rfl) ?_
          refine lv_aload_n hx hb dX12_readsText_193 rfl (lv_at hl 0 rfl) ?_
          refine gM_isWrong C hin hK lk_isWrong hO dX12_readsText_194 ?_
          obtain ⟨hs, hw⟩ := hw
          have m_222 : ∀ (y1_222 : Int32) (H : Heap) (locs : List Loc) (ls : Array Slot), y1_222 = (if isWrong_143 = 0 then (if spot_143 = (s_143 (((nI 4450) + p1)).toNatClampNeg) then (nI 0) else (nI 1)) else (nI 1)) → okW D A s.heap H locs (wM cI cZ cJ h ad k_thrown s_143 k_image k_hasImage k_steps p1 spot_143 isWrong_143 open_143 (nI 0) k_letBy (upd k_letStamp ((p1).toNatClampNeg) (nI 0)) k_stamp k_fallen k_held k_stands k_falling k_away k_round k_rests k_may k_next k_could k_couldNight k_night k_seats) → lv_has ls 5 [(0, .ref h)] → W p l e R s m args below meth c H locs 0 0 QQ (F0 m 222 ls [.int y1_222, .ref h]) := by
            intro y1_222 H locs ls ey1_222 hO hl
            have hw := hw y1_222 ey1_222
            refine pM_isWrong C hin hK lk_isWrong hO (by rw [ey1_222]; exact (zb_ite (zb_ite zb0 zb1) zb1)) dX12_readsText_222 (fun H locs hO => ?_)
            refine lv_aload_n hx hb dX12_readsText_225 rfl (lv_at hl 0 rfl) ?_
            refine gM_isWrong C hin hK lk_isWrong hO dX12_readsText_226 ?_
            have m_237 : ∀ (y0_237 : Int32) (H : Heap) (locs : List Loc) (ls : Array Slot), y0_237 = (if y1_222 = 0 then (nI 1) else (nI 0)) → okW D A s.heap H locs (wM cI cZ cJ h ad k_thrown s_143 k_image k_hasImage k_steps p1 spot_143 y1_222 open_143 (nI 0) k_letBy (upd k_letStamp ((p1).toNatClampNeg) (nI 0)) k_stamp k_fallen k_held k_stands k_falling k_away k_round k_rests k_may k_next k_could k_couldNight k_night k_seats) → lv_has ls 5 [] → W p l e R s m args below meth c H locs 0 0 QQ (F0 m 237 ls [.int y0_237]) := by
              intro y0_237 H locs ls ey0_237 hO hl
              have hw := hw y0_237 ey0_237
              exact rz7 hQQ hx hb hr hlk hK hO (by rw [ey0_237]; exact (zb_ite zb1 zb0)) hw dX12_readsText_237
            refine lv_if_ne (tgt := 236) hx hb dX12_readsText_229 (by decide) (fun q_229 => ?_) (fun q_229 => ?_)
            · refine lv_iconst (v := (nI 0)) hx hb dX12_readsText_236 (by decide) ?_
              have hl := lv_sub hl [] rfl (l' := [])
              exact m_237 _ _ _ _ (by rw [if_neg q_229]) hO hl
            · refine lv_iconst (v := (nI 1)) hx hb dX12_readsText_232 (by decide) ?_
              refine lv_goto (tgt := 237) hx hb dX12_readsText_233 (by decide) ?_
              have hl := lv_sub hl [] rfl (l' := [])
              exact m_237 _ _ _ _ (by rw [if_pos q_229]) hO hl
          refine lv_if_ne (tgt := 217) hx hb dX12_readsText_197 (by decide) (fun q_197 => ?_) (fun q_197 => ?_)
          · refine lv_iconst (v := (nI 1)) hx hb dX12_readsText_217 (by decide) ?_
            refine lv_goto (tgt := 222) hx hb dX12_readsText_218 (by decide) ?_
            have hl := lv_sub hl [0] rfl (l' := [(0, .ref h)])
            exact m_222 _ _ _ _ (by rw [if_neg q_197]) hO hl
          · have hs := hs q_197
            have o_213 := hs
            refine lv_aload_n hx hb dX12_readsText_200 rfl (lv_at hl 0 rfl) ?_
            refine gM_spot C hin hK lk_spot hO dX12_readsText_201 ?_
            refine lv_aload_n hx hb dX12_readsText_204 rfl (lv_at hl 0 rfl) ?_
            refine gM_s C hin hK lk_s hO dX12_readsText_205 ?_
            refine lv_sipush (v := (nI 4450)) hx hb dX12_readsText_208 (by decide) ?_
            refine lv_iload_n hx hb dX12_readsText_211 rfl (lv_at hl 1 rfl) ?_
            refine lv_iadd hx hb dX12_readsText_212 ?_
            refine ldM_s C hK hO o_213 rfl dX12_readsText_213 ?_
            refine lv_icmp_eq (tgt := 221) hx hb dX12_readsText_214 (by decide) (fun q_214 => ?_) (fun q_214 => ?_)
            · refine lv_iconst (v := (nI 0)) hx hb dX12_readsText_221 (by decide) ?_
              have hl := lv_sub hl [0] rfl (l' := [(0, .ref h)])
              exact m_222 _ _ _ _ (by rw [if_pos q_197, if_pos q_214]) hO hl
            · refine lv_iconst (v := (nI 1)) hx hb dX12_readsText_217 (by decide) ?_
              refine lv_goto (tgt := 222) hx hb dX12_readsText_218 (by decide) ?_
              have hl := lv_sub hl [0] rfl (l' := [(0, .ref h)])
              exact m_222 _ _ _ _ (by rw [if_pos q_197, if_neg q_214]) hO hl
        refine lv_if_ne (tgt := 192) hx hb dX12_readsText_147 (by decide) (fun q_147 => ?_) (fun q_147 => ?_)
        · have hl := lv_sub hl [0, 1] rfl (l' := [(0, .ref h), (1, .int p1)])
          exact a_192 (fun h => q_147 h.1) _ _ _ hO hl
        · have hs := hs q_147
          obtain ⟨o_159, hs⟩ := hs
          refine lv_aload_n hx hb dX12_readsText_150 rfl (lv_at hl 0 rfl) ?_
          refine gM_s C hin hK lk_s hO dX12_readsText_151 ?_
          refine lv_sipush (v := (nI 4470)) hx hb dX12_readsText_154 (by decide) ?_
          refine lv_iload_n hx hb dX12_readsText_157 rfl (lv_at hl 1 rfl) ?_
          refine lv_iadd hx hb dX12_readsText_158 ?_
          refine ldM_s C hK hO o_159 rfl dX12_readsText_159 ?_
          refine lv_bipush (v := (nI 8)) hx hb dX12_readsText_160 (by decide) ?_
          refine lv_icmp_ge (tgt := 192) hx hb dX12_readsText_162 (by decide) (fun q_162 => ?_) (fun q_162 => ?_)
          · have hl := lv_sub hl [0, 1] rfl (l' := [(0, .ref h), (1, .int p1)])
            exact a_192 (fun h => ((fun h => h.1 q_162)) h.2) _ _ _ hO hl
          · have hs := hs q_162
            have o_166 := hs
            refine lv_aload_n hx hb dX12_readsText_165 rfl (lv_at hl 0 rfl) ?_
            refine cVi0 (As := []) (rest := []) C hK hX hO (c_X12_here (l := l) o_166) (cwV 0 hts gd_X12_105 rfl rfl rfl hd_X12_here (rok hR (Nat.le_of_ble_eq_true rfl) (Nat.le_of_ble_eq_true rfl))) (ci := 12) (q0 := 0) rfl rfl rfl rfl hl.1 rfl (Nat.le_of_ble_eq_true rfl) dX12_readsText_166 ⟨Nat.zero_le _, Nat.zero_le _⟩ (fun r_166 H locs e_166 hO => ?_)
            subst e_166
            refine lv_bipush (v := (nI 59)) hx hb dX12_readsText_169 (by decide) ?_
            refine lv_icmp_ne (tgt := 192) hx hb dX12_readsText_171 (by decide) (fun q_171 => ?_) (fun q_171 => ?_)
            · have hl := lv_sub hl [0, 1] rfl (l' := [(0, .ref h), (1, .int p1)])
              exact a_192 (fun h => ((fun h => (q_171) h.2)) h.2) _ _ _ hO hl
            · have hl := lv_sub hl [0, 1] rfl (l' := [(0, .ref h), (1, .int p1)])
              exact a_174 ⟨q_147, ⟨q_162, q_171⟩⟩ _ _ _ hO hl
      have l_143 : ∀ (n : Nat) (s_143 : Nat → Int32) (spot_143 : Int32) (isWrong_143 : Int32) (open_143 : Int32) (H : Heap) (locs : List Loc) (ls : Array Slot), okW D A s.heap H locs (wM cI cZ cJ h ad k_thrown s_143 k_image k_hasImage k_steps p1 spot_143 isWrong_143 open_143 (nI 0) k_letBy (upd k_letStamp ((p1).toNatClampNeg) (nI 0)) k_stamp k_fallen k_held k_stands k_falling k_away k_round k_rests k_may k_next k_could k_couldNight k_night k_seats) → lv_has ls 5 [(0, .ref h), (1, .int p1)] → wl_X12_readsText_143 p1 k_letStamp Q n s_143 spot_143 isWrong_143 open_143 → W p l e R s m args below meth c H locs 0 0 QQ (F0 m 143 ls []) := by
        intro n
        induction n with
        | zero => intro s_143 spot_143 isWrong_143 open_143 H locs ls hO hl hw; exact False.elim hw
        | succ n ih => exact b_143 _ ih
      exact l_143 n_143 s_140 spot_140 isWrong_140 open_140 _ _ _ hO (lv_sub hl [0, 1] rfl) hw
    · have hw := hw.2 q_51
      refine lv_aload_n hx hb dX12_readsText_54 rfl (lv_at hl 0 rfl) ?_
      refine gM_s C hin hK lk_s hO dX12_readsText_55 ?_
      refine lv_sipush (v := (nI 4750)) hx hb dX12_readsText_58 (by decide) ?_
      refine lv_bipush (v := (nI 120)) hx hb dX12_readsText_61 (by decide) ?_
      refine lv_iload_n hx hb dX12_readsText_63 rfl (lv_at hl 1 rfl) ?_
      refine lv_imul hx hb dX12_readsText_64 ?_
      refine lv_iadd hx hb dX12_readsText_65 ?_
      refine lv_iload hx hb dX12_readsText_66 (lv_at hl 2 rfl) ?_
      refine lv_iadd hx hb dX12_readsText_68 ?_
      refine lv_aload_n hx hb dX12_readsText_69 rfl (lv_at hl 0 rfl) ?_
      refine gM_s C hin hK lk_s hO dX12_readsText_70 ?_
      refine lv_sipush (v := (nI 1190)) hx hb dX12_readsText_73 (by decide) ?_
      refine lv_iload hx hb dX12_readsText_76 (lv_at hl 2 rfl) ?_
      refine lv_iadd hx hb dX12_readsText_78 ?_
      obtain ⟨o_79, hw⟩ := hw
      refine ldM_s C hK hO o_79 rfl dX12_readsText_79 ?_
      obtain ⟨o_80, hw⟩ := hw
      refine stM_s C hK hO o_80 rfl dX12_readsText_80 (fun H locs hO => ?_)
      refine lv_iinc (v := (v4_42 + (nI 1))) (lv' := [(4, .int (v4_42 + (nI 1))), (0, .ref h), (1, .int p1)]) hx hb dX12_readsText_81 hl (k := 2) rfl (iinc_1 _) (by decide) rfl (fun ls hl => ?_)
      refine lv_goto (tgt := 42) hx hb dX12_readsText_84 (by decide) ?_
      exact ih_42 (v4_42 + (nI 1)) (upd s_42 (((((nI 4750) + ((nI 120) * p1)) + v4_42)).toNatClampNeg) (s_42 (((nI 1190) + v4_42)).toNatClampNeg)) _ _ _ hO (lv_sub hl [1, 2, 0] rfl) hw
  have l_42 : ∀ (n : Nat) (v4_42 : Int32) (s_42 : Nat → Int32) (H : Heap) (locs : List Loc) (ls : Array Slot), okW D A s.heap H locs (wM cI cZ cJ h ad k_thrown s_42 k_image k_hasImage k_steps k_read k_spot k_isWrong k_open k_act k_letBy k_letStamp k_stamp k_fallen k_held k_stands k_falling k_away k_round k_rests k_may k_next k_could k_couldNight k_night k_seats) → lv_has ls 5 [(0, .ref h), (1, .int p1), (4, .int v4_42)] → wl_X12_readsText_42 p1 k_letStamp Q n v4_42 s_42 → W p l e R s m args below meth c H locs 0 0 QQ (F0 m 42 ls []) := by
    intro n
    induction n with
    | zero => intro v4_42 s_42 H locs ls hO hl hw; exact False.elim hw
    | succ n ih => exact b_42 _ ih
  exact l_42 n_42 (nI 0) (upd (upd (upd k_s ((((nI 4410) + p1)).toNatClampNeg) p2) ((((nI 4430) + p1)).toNatClampNeg) p3) ((((nI 4450) + p1)).toNatClampNeg) ((upd (upd k_s ((((nI 4410) + p1)).toNatClampNeg) p2) ((((nI 4430) + p1)).toNatClampNeg) p3) 10)) _ _ _ hO (lv_sub hl [1, 2, 0] rfl) hw
theorem gd_X12_148 {a : Cond} : GoodIn (a :: wsG) (va_wsS RX12 148 yX12_isDay (Cond.code yX12_isDay cX12_isDay 1 (some .boolean) :: wsG)) := gdS qw6_83 qw6_84 qw1_12 qw6_85
theorem hd_X12_isDay : yX12_isDay.cls ≠ "java/lang/invoke/MethodHandle" ∧ yX12_isDay.cls ≠ "java/lang/invoke/VarHandle" ∧ (parseMethodDescriptor yX12_isDay.desc).map (fun d => d.parameters.length) = some 1 := by decide +kernel
theorem gd_X12_151 {a : Cond} : GoodIn (a :: wsG) (wsV RX12 151 RX12 yX12_readsText (Cond.code yX12_readsText cX12_readsText 5 (some .boolean) :: wsG)) := gdV qw6_86 qw6_88 qs_36 qw1_12 qw6_89
theorem hd_X12_readsText : yX12_readsText.cls = RX12 ∧ yX12_readsText.cls ≠ "java/lang/invoke/MethodHandle" ∧ yX12_readsText.cls ≠ "java/lang/invoke/VarHandle" ∧ (parseMethodDescriptor yX12_readsText.desc).map (fun d => d.parameters.length) = some 3 := by decide +kernel
def wp_X12_text (p1 : Int32) (p2 : Int32) (k_s : Nat → Int32) (k_read : Int32) (k_spot : Int32) (k_isWrong : Int32) (k_open : Int32) (k_act : Int32) (k_letStamp : Nat → Int32) (Q : Int32 → (Nat → Int32) → (Int32) → (Int32) → (Int32) → (Int32) → (Int32) → (Nat → Int32) → Prop) : Prop := ((¬ (f_X12_in p1 (nI 0) (nI 2)) = 0 → ((¬ (f_X12_isDay p2) = 0 → ((¬ (k_s 1) = (nI 15) → (wp_X12_readsText (k_s 1) p1 p2 k_s k_letStamp (fun (r_44 : Int32) (s_44 : Nat → Int32) (read_44 : Int32) (spot_44 : Int32) (isWrong_44 : Int32) (open_44 : Int32) (act_44 : Int32) (letStamp_44 : Nat → Int32) => ((¬ r_44 = 0 → (Q (((upd s_44 1 ((s_44 1) + (nI 1))) 1) - (nI 1)) (upd s_44 1 ((s_44 1) + (nI 1))) read_44 spot_44 isWrong_44 open_44 act_44 letStamp_44)) ∧ (r_44 = 0 → (Q ((-10) - spot_44) s_44 read_44 spot_44 isWrong_44 open_44 act_44 letStamp_44)))))) ∧ ((k_s 1) = (nI 15) → (Q (-4) k_s k_read k_spot k_isWrong k_open k_act k_letStamp)))) ∧ ((f_X12_isDay p2) = 0 → (Q (-2) k_s k_read k_spot k_isWrong k_open k_act k_letStamp)))) ∧ ((f_X12_in p1 (nI 0) (nI 2)) = 0 → (Q (-1) k_s k_read k_spot k_isWrong k_open k_act k_letStamp)))
set_option maxHeartbeats 4000000 in
set_option maxRecDepth 100000 in
theorem c_X12_text {l : Launch} {D : va_G} {cI cZ cJ : ClassId} {h : Nat} {ad : Nat → Nat} {sz : Nat} {k_thrown : Int32} {k_s : Nat → Int32} {k_image : Nat → Int32} {k_hasImage : Int32} {k_steps : Nat → Int32} {k_read : Int32} {k_spot : Int32} {k_isWrong : Int32} {k_open : Int32} {k_act : Int32} {k_letBy : Nat → Int32} {k_letStamp : Nat → Int32} {k_stamp : Int32} {k_fallen : Nat → Int32} {k_held : Nat → Int32} {k_stands : Nat → Int32} {k_falling : Nat → Int32} {k_away : Nat → Int32} {k_round : Nat → Int32} {k_rests : Nat → Int64} {k_may : Nat → Int32} {k_next : Nat → Int32} {k_could : Nat → Int32} {k_couldNight : Nat → Int32} {k_night : Int32} {k_seats : Nat → Int32} {p1 : Int32} {p2 : Int32} {Q : Int32 → (Nat → Int32) → (Int32) → (Int32) → (Int32) → (Int32) → (Int32) → (Nat → Int32) → Prop} (hw : wp_X12_text p1 p2 k_s k_read k_spot k_isWrong k_open k_act k_letStamp Q) : Met l yX12_text (Cond.code yX12_text cX12_text 3 (some .int) :: wsG) ({ frames := 33, cells := 0, slots := 0, locals := 751 } : Room) (preW D (tyM cI cZ cJ) (wM cI cZ cJ h ad k_thrown k_s k_image k_hasImage k_steps k_read k_spot k_isWrong k_open k_act k_letBy k_letStamp k_stamp k_fallen k_held k_stands k_falling k_away k_round k_rests k_may k_next k_could k_couldNight k_night k_seats) sz [.ref h, .int p1, .int p2]) (qi7 D (tyM cI cZ cJ) (va_A (wM cI cZ cJ h ad k_thrown k_s k_image k_hasImage k_steps k_read k_spot k_isWrong k_open k_act k_letBy k_letStamp k_stamp k_fallen k_held k_stands k_falling k_away k_round k_rests k_may k_next k_could k_couldNight k_night k_seats) sz) Q (fun k_s' k_read' k_spot' k_isWrong' k_open' k_act' k_letStamp' => (wM cI cZ cJ h ad k_thrown k_s' k_image k_hasImage k_steps k_read' k_spot' k_isWrong' k_open' k_act' k_letBy k_letStamp' k_stamp k_fallen k_held k_stands k_falling k_away k_round k_rests k_may k_next k_could k_couldNight k_night k_seats))) 0 0 (va_A (wM cI cZ cJ h ad k_thrown k_s k_image k_hasImage k_steps k_read k_spot k_isWrong k_open k_act k_letBy k_letStamp k_stamp k_fallen k_held k_stands k_falling k_away k_round k_rests k_may k_next k_could k_couldNight k_night k_seats) sz) := by
  refine st_met (cc := cX12_text) (maxL := 3) (ret := (some .int)) (lv := [(0, .ref h), (1, .int p1), (2, .int p2)]) (Qc := fun A => qi7 D (tyM cI cZ cJ) A Q (fun k_s' k_read' k_spot' k_isWrong' k_open' k_act' k_letStamp' => (wM cI cZ cJ h ad k_thrown k_s' k_image k_hasImage k_steps k_read' k_spot' k_isWrong' k_open' k_act' k_letBy k_letStamp' k_stamp k_fallen k_held k_stands k_falling k_away k_round k_rests k_may k_next k_could k_couldNight k_night k_seats))) (by decide) rfl (Nat.le_of_ble_eq_true rfl) rfl ?_
  intro p e s m below meth c ls A R args QQ H locs C hr hlk hnm hK hX hsz hl hO hR hQQ
  have hx := C.1
  have hb := C.2.1
  have hown := C.2.2.2.1
  have hts := C.2.2.2.2
  have hin : ∀ w ∈ u_ws RX12 TX12 26, w ∈ (Cond.code yX12_text cX12_text 3 (some .int) :: wsG) := fun w h9 => List.mem_cons_of_mem _ (inG12 w h9)
  have lk_s := hts (Cond.fieldLink RX12 7 "FreeCityModel" "s" "[I") (List.mem_cons_of_mem _ qw5_207)
  have lk_spot := hts (Cond.fieldLink RX12 95 "FreeCityModel" "spot" "I") (List.mem_cons_of_mem _ qw5_212)
  unfold wp_X12_text at hw
  refine lv_iload_n hx hb dX12_text_0 rfl (lv_at hl 1 rfl) ?_
  refine lv_iconst (v := (nI 0)) hx hb dX12_text_1 (by decide) ?_
  refine lv_iconst (v := (nI 2)) hx hb dX12_text_2 (by decide) ?_
  refine cSi0 (As := [.int p1, .int (nI 0), .int (nI 2)]) (rest := []) C hK hX hO (c_X12_in (l := l)) (va_cwS 3 hts gd_X12_74 rfl rfl rfl hd_X12_in (rok hR (Nat.le_of_ble_eq_true rfl) (Nat.le_of_ble_eq_true rfl))) rfl hl.1 rfl (Nat.le_of_ble_eq_true rfl) dX12_text_3 ⟨Nat.zero_le _, Nat.zero_le _⟩ (fun r_3 H locs e_3 hO => ?_)
  subst e_3
  refine lv_if_ne (tgt := 11) hx hb dX12_text_6 (by decide) (fun q_6 => ?_) (fun q_6 => ?_)
  · have hw := hw.1 q_6
    refine lv_iload_n hx hb dX12_text_11 rfl (lv_at hl 2 rfl) ?_
    refine cSi0 (As := [.int p2]) (rest := []) C hK hX hO (c_X12_isDay (l := l)) (va_cwS 1 hts gd_X12_148 rfl rfl rfl hd_X12_isDay (rok hR (Nat.le_of_ble_eq_true rfl) (Nat.le_of_ble_eq_true rfl))) rfl hl.1 rfl (Nat.le_of_ble_eq_true rfl) dX12_text_12 ⟨Nat.zero_le _, Nat.zero_le _⟩ (fun r_12 H locs e_12 hO => ?_)
    subst e_12
    refine lv_if_ne (tgt := 21) hx hb dX12_text_15 (by decide) (fun q_15 => ?_) (fun q_15 => ?_)
    · have hw := hw.1 q_15
      refine lv_aload_n hx hb dX12_text_21 rfl (lv_at hl 0 rfl) ?_
      refine gM_s C hin hK lk_s hO dX12_text_22 ?_
      refine lv_iconst (v := (nI 1)) hx hb dX12_text_25 (by decide) ?_
      refine ldM_s C hK hO (inK 1 6700 (by decide) (by decide)) (clK 1 (by decide)) dX12_text_26 ?_
      refine lv_bipush (v := (nI 15)) hx hb dX12_text_27 (by decide) ?_
      refine lv_icmp_ne (tgt := 35) hx hb dX12_text_29 (by decide) (fun q_29 => ?_) (fun q_29 => ?_)
      · have hw := hw.1 q_29
        refine lv_aload_n hx hb dX12_text_35 rfl (lv_at hl 0 rfl) ?_
        refine lv_aload_n hx hb dX12_text_36 rfl (lv_at hl 0 rfl) ?_
        refine gM_s C hin hK lk_s hO dX12_text_37 ?_
        refine lv_iconst (v := (nI 1)) hx hb dX12_text_40 (by decide) ?_
        refine ldM_s C hK hO (inK 1 6700 (by decide) (by decide)) (clK 1 (by decide)) dX12_text_41 ?_
        refine lv_iload_n hx hb dX12_text_42 rfl (lv_at hl 1 rfl) ?_
        refine lv_iload_n hx hb dX12_text_43 rfl (lv_at hl 2 rfl) ?_
        refine cVi7 (As := [.int (k_s 1), .int p1, .int p2]) (rest := []) C hK hX hO (c_X12_readsText (l := l) hw) (cwV 3 hts gd_X12_151 rfl rfl rfl hd_X12_readsText (rok hR (Nat.le_of_ble_eq_true rfl) (Nat.le_of_ble_eq_true rfl))) (ci := 12) (q0 := 0) rfl rfl rfl rfl hl.1 rfl (Nat.le_of_ble_eq_true rfl) dX12_text_44 ⟨Nat.zero_le _, Nat.zero_le _⟩ (fun r_44 s_44 read_44 spot_44 isWrong_44 open_44 act_44 letStamp_44 H locs hw hO => ?_)
        refine lv_if_ne (tgt := 58) hx hb dX12_text_47 (by decide) (fun q_47 => ?_) (fun q_47 => ?_)
        · have hw := hw.1 q_47
          refine lv_aload_n hx hb dX12_text_58 rfl (lv_at hl 0 rfl) ?_
          refine gM_s C hin hK lk_s hO dX12_text_59 ?_
          refine lv_iconst (v := (nI 1)) hx hb dX12_text_62 (by decide) ?_
          refine lv_dup2_11 hx hb dX12_text_63 rfl rfl ?_
          refine ldM_s C hK hO (inK 1 6700 (by decide) (by decide)) (clK 1 (by decide)) dX12_text_64 ?_
          refine lv_iconst (v := (nI 1)) hx hb dX12_text_65 (by decide) ?_
          refine lv_iadd hx hb dX12_text_66 ?_
          refine stM_s C hK hO (inK 1 6700 (by decide) (by decide)) (clK 1 (by decide)) dX12_text_67 (fun H locs hO => ?_)
          refine lv_aload_n hx hb dX12_text_68 rfl (lv_at hl 0 rfl) ?_
          refine gM_s C hin hK lk_s hO dX12_text_69 ?_
          refine lv_iconst (v := (nI 1)) hx hb dX12_text_72 (by decide) ?_
          refine ldM_s C hK hO (inK 1 6700 (by decide) (by decide)) (clK 1 (by decide)) dX12_text_73 ?_
          refine lv_iconst (v := (nI 1)) hx hb dX12_text_74 (by decide) ?_
          refine lv_isub hx hb dX12_text_75 ?_
          exact ri7 hQQ hx hb hr hlk hK hO hw dX12_text_76
        · have hw := hw.2 q_47
          refine lv_bipush (v := (-10)) hx hb dX12_text_50 (by decide) ?_
          refine lv_aload_n hx hb dX12_text_52 rfl (lv_at hl 0 rfl) ?_
          refine gM_spot C hin hK lk_spot hO dX12_text_53 ?_
          refine lv_isub hx hb dX12_text_56 ?_
          exact ri7 hQQ hx hb hr hlk hK hO hw dX12_text_57
      · have hw := hw.2 q_29
        refine lv_bipush (v := (-4)) hx hb dX12_text_32 (by decide) ?_
        exact ri7 hQQ hx hb hr hlk hK hO hw dX12_text_34
    · have hw := hw.2 q_15
      refine lv_bipush (v := (-2)) hx hb dX12_text_18 (by decide) ?_
      exact ri7 hQQ hx hb hr hlk hK hO hw dX12_text_20
  · have hw := hw.2 q_6
    refine lv_iconst (v := (-1)) hx hb dX12_text_9 (by decide) ?_
    exact ri7 hQQ hx hb hr hlk hK hO hw dX12_text_10
def wb_X12_textOf_5 (p1 : Int32) (p2 : Int32) (k_s : Nat → Int32) (Q : Int32 → Prop) (L_5 : Int32 → Int32 → Prop) (v3_5 : Int32) (v4_5 : Int32) : Prop := (((k_s 1) ≤ v4_5 → (Q v3_5)) ∧ (¬ (k_s 1) ≤ v4_5 → (vp_in ((nI 4410) + v4_5) 6700 ∧ ((((k_s (((nI 4410) + v4_5)).toNatClampNeg) = p1 → (vp_in ((nI 4430) + v4_5) 6700 ∧ (¬ p2 < (k_s (((nI 4430) + v4_5)).toNatClampNeg) → ((¬ v3_5 = (-1) → (vp_in ((nI 4430) + v4_5) 6700 ∧ vp_in ((nI 4430) + v3_5) 6700))))))) ∧ (∀ y0_81 : Int32, y0_81 = (if (k_s (((nI 4410) + v4_5)).toNatClampNeg) = p1 then (if p2 < (k_s (((nI 4430) + v4_5)).toNatClampNeg) then v3_5 else (if v3_5 = (-1) then v4_5 else (if (k_s (((nI 4430) + v4_5)).toNatClampNeg) < (k_s (((nI 4430) + v3_5)).toNatClampNeg) then v3_5 else v4_5))) else v3_5) → (L_5 y0_81 (v4_5 + (nI 1))))))))
def wl_X12_textOf_5 (p1 : Int32) (p2 : Int32) (k_s : Nat → Int32) (Q : Int32 → Prop) : Nat → Int32 → Int32 → Prop
  | 0, _, _ => False
  | n + 1, v3_5, v4_5 => wb_X12_textOf_5 p1 p2 k_s Q (wl_X12_textOf_5 p1 p2 k_s Q n) v3_5 v4_5
def wp_X12_textOf (p1 : Int32) (p2 : Int32) (k_s : Nat → Int32) (Q : Int32 → Prop) : Prop := (∃ n, wl_X12_textOf_5 p1 p2 k_s Q n (-1) (nI 0))
set_option maxHeartbeats 4000000 in
set_option maxRecDepth 100000 in
theorem c_X12_textOf {l : Launch} {D : va_G} {cI cZ cJ : ClassId} {h : Nat} {ad : Nat → Nat} {sz : Nat} {k_thrown : Int32} {k_s : Nat → Int32} {k_image : Nat → Int32} {k_hasImage : Int32} {k_steps : Nat → Int32} {k_read : Int32} {k_spot : Int32} {k_isWrong : Int32} {k_open : Int32} {k_act : Int32} {k_letBy : Nat → Int32} {k_letStamp : Nat → Int32} {k_stamp : Int32} {k_fallen : Nat → Int32} {k_held : Nat → Int32} {k_stands : Nat → Int32} {k_falling : Nat → Int32} {k_away : Nat → Int32} {k_round : Nat → Int32} {k_rests : Nat → Int64} {k_may : Nat → Int32} {k_next : Nat → Int32} {k_could : Nat → Int32} {k_couldNight : Nat → Int32} {k_night : Int32} {k_seats : Nat → Int32} {p1 : Int32} {p2 : Int32} {Q : Int32 → Prop} (hw : wp_X12_textOf p1 p2 k_s Q) : Met l yX12_textOf (Cond.code yX12_textOf cX12_textOf 5 (some .int) :: wsG) ({ frames := 0, cells := 0, slots := 0, locals := 0 } : Room) (preW D (tyM cI cZ cJ) (wM cI cZ cJ h ad k_thrown k_s k_image k_hasImage k_steps k_read k_spot k_isWrong k_open k_act k_letBy k_letStamp k_stamp k_fallen k_held k_stands k_falling k_away k_round k_rests k_may k_next k_could k_couldNight k_night k_seats) sz [.ref h, .int p1, .int p2]) (qi0 D (tyM cI cZ cJ) (va_A (wM cI cZ cJ h ad k_thrown k_s k_image k_hasImage k_steps k_read k_spot k_isWrong k_open k_act k_letBy k_letStamp k_stamp k_fallen k_held k_stands k_falling k_away k_round k_rests k_may k_next k_could k_couldNight k_night k_seats) sz) Q (wM cI cZ cJ h ad k_thrown k_s k_image k_hasImage k_steps k_read k_spot k_isWrong k_open k_act k_letBy k_letStamp k_stamp k_fallen k_held k_stands k_falling k_away k_round k_rests k_may k_next k_could k_couldNight k_night k_seats)) 0 0 (va_A (wM cI cZ cJ h ad k_thrown k_s k_image k_hasImage k_steps k_read k_spot k_isWrong k_open k_act k_letBy k_letStamp k_stamp k_fallen k_held k_stands k_falling k_away k_round k_rests k_may k_next k_could k_couldNight k_night k_seats) sz) := by
  refine st_met (cc := cX12_textOf) (maxL := 5) (ret := (some .int)) (lv := [(0, .ref h), (1, .int p1), (2, .int p2)]) (Qc := fun A => qi0 D (tyM cI cZ cJ) A Q (wM cI cZ cJ h ad k_thrown k_s k_image k_hasImage k_steps k_read k_spot k_isWrong k_open k_act k_letBy k_letStamp k_stamp k_fallen k_held k_stands k_falling k_away k_round k_rests k_may k_next k_could k_couldNight k_night k_seats)) (by decide) rfl (Nat.le_of_ble_eq_true rfl) rfl ?_
  intro p e s m below meth c ls A R args QQ H locs C hr hlk hnm hK hX hsz hl hO hR hQQ
  have hx := C.1
  have hb := C.2.1
  have hown := C.2.2.2.1
  have hts := C.2.2.2.2
  have hin : ∀ w ∈ u_ws RX12 TX12 26, w ∈ (Cond.code yX12_textOf cX12_textOf 5 (some .int) :: wsG) := fun w h9 => List.mem_cons_of_mem _ (inG12 w h9)
  have lk_s := hts (Cond.fieldLink RX12 7 "FreeCityModel" "s" "[I") (List.mem_cons_of_mem _ qw5_207)
  unfold wp_X12_textOf at hw
  refine lv_iconst (v := (-1)) hx hb dX12_textOf_0 (by decide) ?_
  refine lv_istore_n (lv' := [(3, .int (-1)), (0, .ref h), (1, .int p1), (2, .int p2)]) hx hb dX12_textOf_1 rfl hl (by decide) rfl (fun ls hl => ?_)
  refine lv_iconst (v := (nI 0)) hx hb dX12_textOf_2 (by decide) ?_
  refine lv_istore (lv' := [(4, .int (nI 0)), (3, .int (-1)), (0, .ref h), (1, .int p1), (2, .int p2)]) hx hb dX12_textOf_3 hl (by decide) rfl (fun ls hl => ?_)
  obtain ⟨n_5, hw⟩ := hw
  have b_5 : ∀ (L_5 : Int32 → Int32 → Prop) (ih_5 : ∀ (v3_5 : Int32) (v4_5 : Int32) (H : Heap) (locs : List Loc) (ls : Array Slot), okW D A s.heap H locs (wM cI cZ cJ h ad k_thrown k_s k_image k_hasImage k_steps k_read k_spot k_isWrong k_open k_act k_letBy k_letStamp k_stamp k_fallen k_held k_stands k_falling k_away k_round k_rests k_may k_next k_could k_couldNight k_night k_seats) → lv_has ls 5 [(0, .ref h), (1, .int p1), (2, .int p2), (3, .int v3_5), (4, .int v4_5)] → L_5 v3_5 v4_5 → W p l e R s m args below meth c H locs 0 0 QQ (F0 m 5 ls [])) (v3_5 : Int32) (v4_5 : Int32) (H : Heap) (locs : List Loc) (ls : Array Slot), okW D A s.heap H locs (wM cI cZ cJ h ad k_thrown k_s k_image k_hasImage k_steps k_read k_spot k_isWrong k_open k_act k_letBy k_letStamp k_stamp k_fallen k_held k_stands k_falling k_away k_round k_rests k_may k_next k_could k_couldNight k_night k_seats) → lv_has ls 5 [(0, .ref h), (1, .int p1), (2, .int p2), (3, .int v3_5), (4, .int v4_5)] → wb_X12_textOf_5 p1 p2 k_s Q L_5 v3_5 v4_5 → W p l e R s m args below meth c H locs 0 0 QQ (F0 m 5 ls []) := by
    intro L_5 ih_5 v3_5 v4_5 H locs ls hO hl hw
    unfold wb_X12_textOf_5 at hw
    refine lv_iload hx hb dX12_textOf_5 (lv_at hl 4 rfl) ?_
    refine lv_aload_n hx hb dX12_textOf_7 rfl (lv_at hl 0 rfl) ?_
    refine gM_s C hin hK lk_s hO dX12_textOf_8 ?_
    refine lv_iconst (v := (nI 1)) hx hb dX12_textOf_11 (by decide) ?_
    refine ldM_s C hK hO (inK 1 6700 (by decide) (by decide)) (clK 1 (by decide)) dX12_textOf_12 ?_
    refine lv_icmp_ge (tgt := 88) hx hb dX12_textOf_13 (by decide) (fun q_13 => ?_) (fun q_13 => ?_)
    · have hw := hw.1 q_13
      refine lv_iload_n hx hb dX12_textOf_88 rfl (lv_at hl 3 rfl) ?_
      exact ri0 hQQ hx hb hr hlk hK hO hw dX12_textOf_89
    · have hw := hw.2 q_13
      refine lv_aload_n hx hb dX12_textOf_16 rfl (lv_at hl 0 rfl) ?_
      refine gM_s C hin hK lk_s hO dX12_textOf_17 ?_
      refine lv_sipush (v := (nI 4410)) hx hb dX12_textOf_20 (by decide) ?_
      refine lv_iload hx hb dX12_textOf_23 (lv_at hl 4 rfl) ?_
      refine lv_iadd hx hb dX12_textOf_25 ?_
      obtain ⟨o_26, hw⟩ := hw
      refine ldM_s C hK hO o_26 rfl dX12_textOf_26 ?_
      refine lv_iload_n hx hb dX12_textOf_27 rfl (lv_at hl 1 rfl) ?_
      obtain ⟨hs, hw⟩ := hw
      have m_81 : ∀ (y0_81 : Int32) (H : Heap) (locs : List Loc) (ls : Array Slot), y0_81 = (if (k_s (((nI 4410) + v4_5)).toNatClampNeg) = p1 then (if p2 < (k_s (((nI 4430) + v4_5)).toNatClampNeg) then v3_5 else (if v3_5 = (-1) then v4_5 else (if (k_s (((nI 4430) + v4_5)).toNatClampNeg) < (k_s (((nI 4430) + v3_5)).toNatClampNeg) then v3_5 else v4_5))) else v3_5) → okW D A s.heap H locs (wM cI cZ cJ h ad k_thrown k_s k_image k_hasImage k_steps k_read k_spot k_isWrong k_open k_act k_letBy k_letStamp k_stamp k_fallen k_held k_stands k_falling k_away k_round k_rests k_may k_next k_could k_couldNight k_night k_seats) → lv_has ls 5 [(0, .ref h), (1, .int p1), (2, .int p2), (4, .int v4_5)] → W p l e R s m args below meth c H locs 0 0 QQ (F0 m 81 ls [.int y0_81]) := by
        intro y0_81 H locs ls ey0_81 hO hl
        have hw := hw y0_81 ey0_81
        refine lv_istore_n (lv' := [(3, .int y0_81), (0, .ref h), (1, .int p1), (2, .int p2), (4, .int v4_5)]) hx hb dX12_textOf_81 rfl hl (by decide) rfl (fun ls hl => ?_)
        refine lv_iinc (v := (v4_5 + (nI 1))) (lv' := [(4, .int (v4_5 + (nI 1))), (3, .int y0_81), (0, .ref h), (1, .int p1), (2, .int p2)]) hx hb dX12_textOf_82 hl (k := 4) rfl (iinc_1 _) (by decide) rfl (fun ls hl => ?_)
        refine lv_goto (tgt := 5) hx hb dX12_textOf_85 (by decide) ?_
        exact ih_5 y0_81 (v4_5 + (nI 1)) _ _ _ hO (lv_sub hl [2, 3, 4, 1, 0] rfl) hw
      refine lv_icmp_ne (tgt := 80) hx hb dX12_textOf_28 (by decide) (fun q_28 => ?_) (fun q_28 => ?_)
      · refine lv_iload_n hx hb dX12_textOf_80 rfl (lv_at hl 3 rfl) ?_
        have hl := lv_sub hl [0, 1, 2, 4] rfl (l' := [(0, .ref h), (1, .int p1), (2, .int p2), (4, .int v4_5)])
        exact m_81 _ _ _ _ (by rw [if_neg q_28]) hO hl
      · have hs := hs q_28
        obtain ⟨o_41, hs⟩ := hs
        refine lv_aload_n hx hb dX12_textOf_31 rfl (lv_at hl 0 rfl) ?_
        refine gM_s C hin hK lk_s hO dX12_textOf_32 ?_
        refine lv_sipush (v := (nI 4430)) hx hb dX12_textOf_35 (by decide) ?_
        refine lv_iload hx hb dX12_textOf_38 (lv_at hl 4 rfl) ?_
        refine lv_iadd hx hb dX12_textOf_40 ?_
        refine ldM_s C hK hO o_41 rfl dX12_textOf_41 ?_
        refine lv_iload_n hx hb dX12_textOf_42 rfl (lv_at hl 2 rfl) ?_
        refine lv_icmp_gt (tgt := 80) hx hb dX12_textOf_43 (by decide) (fun q_43 => ?_) (fun q_43 => ?_)
        · refine lv_iload_n hx hb dX12_textOf_80 rfl (lv_at hl 3 rfl) ?_
          have hl := lv_sub hl [0, 1, 2, 4] rfl (l' := [(0, .ref h), (1, .int p1), (2, .int p2), (4, .int v4_5)])
          exact m_81 _ _ _ _ (by rw [if_pos q_28, if_pos q_43]) hO hl
        · have hs := hs q_43
          refine lv_iload_n hx hb dX12_textOf_46 rfl (lv_at hl 3 rfl) ?_
          refine lv_iconst (v := (-1)) hx hb dX12_textOf_47 (by decide) ?_
          refine lv_icmp_eq (tgt := 75) hx hb dX12_textOf_48 (by decide) (fun q_48 => ?_) (fun q_48 => ?_)
          · refine lv_iload hx hb dX12_textOf_75 (lv_at hl 4 rfl) ?_
            refine lv_goto (tgt := 81) hx hb dX12_textOf_77 (by decide) ?_
            have hl := lv_sub hl [0, 1, 2, 4] rfl (l' := [(0, .ref h), (1, .int p1), (2, .int p2), (4, .int v4_5)])
            exact m_81 _ _ _ _ (by rw [if_pos q_28, if_neg q_43, if_pos q_48]) hO hl
          · have hs := hs q_48
            obtain ⟨o_61, o_71⟩ := hs
            refine lv_aload_n hx hb dX12_textOf_51 rfl (lv_at hl 0 rfl) ?_
            refine gM_s C hin hK lk_s hO dX12_textOf_52 ?_
            refine lv_sipush (v := (nI 4430)) hx hb dX12_textOf_55 (by decide) ?_
            refine lv_iload hx hb dX12_textOf_58 (lv_at hl 4 rfl) ?_
            refine lv_iadd hx hb dX12_textOf_60 ?_
            refine ldM_s C hK hO o_61 rfl dX12_textOf_61 ?_
            refine lv_aload_n hx hb dX12_textOf_62 rfl (lv_at hl 0 rfl) ?_
            refine gM_s C hin hK lk_s hO dX12_textOf_63 ?_
            refine lv_sipush (v := (nI 4430)) hx hb dX12_textOf_66 (by decide) ?_
            refine lv_iload_n hx hb dX12_textOf_69 rfl (lv_at hl 3 rfl) ?_
            refine lv_iadd hx hb dX12_textOf_70 ?_
            refine ldM_s C hK hO o_71 rfl dX12_textOf_71 ?_
            refine lv_icmp_lt (tgt := 80) hx hb dX12_textOf_72 (by decide) (fun q_72 => ?_) (fun q_72 => ?_)
            · refine lv_iload_n hx hb dX12_textOf_80 rfl (lv_at hl 3 rfl) ?_
              have hl := lv_sub hl [0, 1, 2, 4] rfl (l' := [(0, .ref h), (1, .int p1), (2, .int p2), (4, .int v4_5)])
              exact m_81 _ _ _ _ (by rw [if_pos q_28, if_neg q_43, if_neg q_48, if_pos q_72]) hO hl
            · refine lv_iload hx hb dX12_textOf_75 (lv_at hl 4 rfl) ?_
              refine lv_goto (tgt := 81) hx hb dX12_textOf_77 (by decide) ?_
              have hl := lv_sub hl [0, 1, 2, 4] rfl (l' := [(0, .ref h), (1, .int p1), (2, .int p2), (4, .int v4_5)])
              exact m_81 _ _ _ _ (by rw [if_pos q_28, if_neg q_43, if_neg q_48, if_neg q_72]) hO hl
  have l_5 : ∀ (n : Nat) (v3_5 : Int32) (v4_5 : Int32) (H : Heap) (locs : List Loc) (ls : Array Slot), okW D A s.heap H locs (wM cI cZ cJ h ad k_thrown k_s k_image k_hasImage k_steps k_read k_spot k_isWrong k_open k_act k_letBy k_letStamp k_stamp k_fallen k_held k_stands k_falling k_away k_round k_rests k_may k_next k_could k_couldNight k_night k_seats) → lv_has ls 5 [(0, .ref h), (1, .int p1), (2, .int p2), (3, .int v3_5), (4, .int v4_5)] → wl_X12_textOf_5 p1 p2 k_s Q n v3_5 v4_5 → W p l e R s m args below meth c H locs 0 0 QQ (F0 m 5 ls []) := by
    intro n
    induction n with
    | zero => intro v3_5 v4_5 H locs ls hO hl hw; exact False.elim hw
    | succ n ih => exact b_5 _ ih
  exact l_5 n_5 (-1) (nI 0) _ _ _ hO (lv_sub hl [2, 3, 4, 1, 0] rfl) hw
def wb_X12_clauseIn_5 (p1 : Int32) (p2 : Int32) (k_s : Nat → Int32) (Q : Int32 → (Int32) → (Int32) → (Int32) → (Int32) → (Int32) → Prop) (L_5 : Int32 → Int32 → Int32 → Int32 → Int32 → Int32 → Int32 → Prop) (v3_5 : Int32) (v4_5 : Int32) (read_5 : Int32) (spot_5 : Int32) (isWrong_5 : Int32) (open_5 : Int32) (act_5 : Int32) : Prop := (vp_in ((nI 4470) + p1) 6700 ∧ (((k_s (((nI 4470) + p1)).toNatClampNeg) ≤ v4_5 → (Q v3_5 read_5 spot_5 isWrong_5 open_5 act_5)) ∧ (¬ (k_s (((nI 4470) + p1)).toNatClampNeg) ≤ v4_5 → (vp_in (((nI 4620) + ((nI 8) * p1)) + v4_5) 6700 ∧ (wp_X12_some k_s p1 (k_s ((((nI 4620) + ((nI 8) * p1)) + v4_5)).toNatClampNeg) (nI 0) (nI 0) p2 (fun (r_61 : Int32) (spot_61 : Int32) (isWrong_61 : Int32) (open_61 : Int32) => (∀ y0_78 : Int32, y0_78 = (if r_61 = 0 then v3_5 else (((nI 8) * p1) + v4_5)) → (L_5 y0_78 (v4_5 + (nI 1)) p1 spot_61 isWrong_61 open_61 p2))))))))
def wl_X12_clauseIn_5 (p1 : Int32) (p2 : Int32) (k_s : Nat → Int32) (Q : Int32 → (Int32) → (Int32) → (Int32) → (Int32) → (Int32) → Prop) : Nat → Int32 → Int32 → Int32 → Int32 → Int32 → Int32 → Int32 → Prop
  | 0, _, _, _, _, _, _, _ => False
  | n + 1, v3_5, v4_5, read_5, spot_5, isWrong_5, open_5, act_5 => wb_X12_clauseIn_5 p1 p2 k_s Q (wl_X12_clauseIn_5 p1 p2 k_s Q n) v3_5 v4_5 read_5 spot_5 isWrong_5 open_5 act_5
def wp_X12_clauseIn (p1 : Int32) (p2 : Int32) (k_s : Nat → Int32) (k_read : Int32) (k_spot : Int32) (k_isWrong : Int32) (k_open : Int32) (k_act : Int32) (Q : Int32 → (Int32) → (Int32) → (Int32) → (Int32) → (Int32) → Prop) : Prop := (∃ n, wl_X12_clauseIn_5 p1 p2 k_s Q n (-1) (nI 0) k_read k_spot k_isWrong k_open k_act)
set_option maxHeartbeats 4000000 in
set_option maxRecDepth 100000 in
theorem c_X12_clauseIn {l : Launch} {D : va_G} {cI cZ cJ : ClassId} {h : Nat} {ad : Nat → Nat} {sz : Nat} {k_thrown : Int32} {k_s : Nat → Int32} {k_image : Nat → Int32} {k_hasImage : Int32} {k_steps : Nat → Int32} {k_read : Int32} {k_spot : Int32} {k_isWrong : Int32} {k_open : Int32} {k_act : Int32} {k_letBy : Nat → Int32} {k_letStamp : Nat → Int32} {k_stamp : Int32} {k_fallen : Nat → Int32} {k_held : Nat → Int32} {k_stands : Nat → Int32} {k_falling : Nat → Int32} {k_away : Nat → Int32} {k_round : Nat → Int32} {k_rests : Nat → Int64} {k_may : Nat → Int32} {k_next : Nat → Int32} {k_could : Nat → Int32} {k_couldNight : Nat → Int32} {k_night : Int32} {k_seats : Nat → Int32} {p1 : Int32} {p2 : Int32} {Q : Int32 → (Int32) → (Int32) → (Int32) → (Int32) → (Int32) → Prop} (hw : wp_X12_clauseIn p1 p2 k_s k_read k_spot k_isWrong k_open k_act Q) : Met l yX12_clauseIn (Cond.code yX12_clauseIn cX12_clauseIn 5 (some .int) :: wsG) ({ frames := 31, cells := 0, slots := 0, locals := 703 } : Room) (preW D (tyM cI cZ cJ) (wM cI cZ cJ h ad k_thrown k_s k_image k_hasImage k_steps k_read k_spot k_isWrong k_open k_act k_letBy k_letStamp k_stamp k_fallen k_held k_stands k_falling k_away k_round k_rests k_may k_next k_could k_couldNight k_night k_seats) sz [.ref h, .int p1, .int p2]) (qi5 D (tyM cI cZ cJ) (va_A (wM cI cZ cJ h ad k_thrown k_s k_image k_hasImage k_steps k_read k_spot k_isWrong k_open k_act k_letBy k_letStamp k_stamp k_fallen k_held k_stands k_falling k_away k_round k_rests k_may k_next k_could k_couldNight k_night k_seats) sz) Q (fun k_read' k_spot' k_isWrong' k_open' k_act' => (wM cI cZ cJ h ad k_thrown k_s k_image k_hasImage k_steps k_read' k_spot' k_isWrong' k_open' k_act' k_letBy k_letStamp k_stamp k_fallen k_held k_stands k_falling k_away k_round k_rests k_may k_next k_could k_couldNight k_night k_seats))) 0 0 (va_A (wM cI cZ cJ h ad k_thrown k_s k_image k_hasImage k_steps k_read k_spot k_isWrong k_open k_act k_letBy k_letStamp k_stamp k_fallen k_held k_stands k_falling k_away k_round k_rests k_may k_next k_could k_couldNight k_night k_seats) sz) := by
  refine st_met (cc := cX12_clauseIn) (maxL := 5) (ret := (some .int)) (lv := [(0, .ref h), (1, .int p1), (2, .int p2)]) (Qc := fun A => qi5 D (tyM cI cZ cJ) A Q (fun k_read' k_spot' k_isWrong' k_open' k_act' => (wM cI cZ cJ h ad k_thrown k_s k_image k_hasImage k_steps k_read' k_spot' k_isWrong' k_open' k_act' k_letBy k_letStamp k_stamp k_fallen k_held k_stands k_falling k_away k_round k_rests k_may k_next k_could k_couldNight k_night k_seats))) (by decide) rfl (Nat.le_of_ble_eq_true rfl) rfl ?_
  intro p e s m below meth c ls A R args QQ H locs C hr hlk hnm hK hX hsz hl hO hR hQQ
  have hx := C.1
  have hb := C.2.1
  have hown := C.2.2.2.1
  have hts := C.2.2.2.2
  have hin : ∀ w ∈ u_ws RX12 TX12 26, w ∈ (Cond.code yX12_clauseIn cX12_clauseIn 5 (some .int) :: wsG) := fun w h9 => List.mem_cons_of_mem _ (inG12 w h9)
  have lk_s := hts (Cond.fieldLink RX12 7 "FreeCityModel" "s" "[I") (List.mem_cons_of_mem _ qw5_207)
  have lk_read := hts (Cond.fieldLink RX12 98 "FreeCityModel" "read" "I") (List.mem_cons_of_mem _ qw5_211)
  have lk_spot := hts (Cond.fieldLink RX12 95 "FreeCityModel" "spot" "I") (List.mem_cons_of_mem _ qw5_212)
  have lk_open := hts (Cond.fieldLink RX12 109 "FreeCityModel" "open" "I") (List.mem_cons_of_mem _ qw5_214)
  have lk_isWrong := hts (Cond.fieldLink RX12 101 "FreeCityModel" "isWrong" "Z") (List.mem_cons_of_mem _ qw5_213)
  have lk_act := hts (Cond.fieldLink RX12 126 "FreeCityModel" "act" "I") (List.mem_cons_of_mem _ qw5_215)
  unfold wp_X12_clauseIn at hw
  refine lv_iconst (v := (-1)) hx hb dX12_clauseIn_0 (by decide) ?_
  refine lv_istore_n (lv' := [(3, .int (-1)), (0, .ref h), (1, .int p1), (2, .int p2)]) hx hb dX12_clauseIn_1 rfl hl (by decide) rfl (fun ls hl => ?_)
  refine lv_iconst (v := (nI 0)) hx hb dX12_clauseIn_2 (by decide) ?_
  refine lv_istore (lv' := [(4, .int (nI 0)), (3, .int (-1)), (0, .ref h), (1, .int p1), (2, .int p2)]) hx hb dX12_clauseIn_3 hl (by decide) rfl (fun ls hl => ?_)
  obtain ⟨n_5, hw⟩ := hw
  have b_5 : ∀ (L_5 : Int32 → Int32 → Int32 → Int32 → Int32 → Int32 → Int32 → Prop) (ih_5 : ∀ (v3_5 : Int32) (v4_5 : Int32) (read_5 : Int32) (spot_5 : Int32) (isWrong_5 : Int32) (open_5 : Int32) (act_5 : Int32) (H : Heap) (locs : List Loc) (ls : Array Slot), okW D A s.heap H locs (wM cI cZ cJ h ad k_thrown k_s k_image k_hasImage k_steps read_5 spot_5 isWrong_5 open_5 act_5 k_letBy k_letStamp k_stamp k_fallen k_held k_stands k_falling k_away k_round k_rests k_may k_next k_could k_couldNight k_night k_seats) → lv_has ls 5 [(0, .ref h), (1, .int p1), (2, .int p2), (3, .int v3_5), (4, .int v4_5)] → L_5 v3_5 v4_5 read_5 spot_5 isWrong_5 open_5 act_5 → W p l e R s m args below meth c H locs 0 0 QQ (F0 m 5 ls [])) (v3_5 : Int32) (v4_5 : Int32) (read_5 : Int32) (spot_5 : Int32) (isWrong_5 : Int32) (open_5 : Int32) (act_5 : Int32) (H : Heap) (locs : List Loc) (ls : Array Slot), okW D A s.heap H locs (wM cI cZ cJ h ad k_thrown k_s k_image k_hasImage k_steps read_5 spot_5 isWrong_5 open_5 act_5 k_letBy k_letStamp k_stamp k_fallen k_held k_stands k_falling k_away k_round k_rests k_may k_next k_could k_couldNight k_night k_seats) → lv_has ls 5 [(0, .ref h), (1, .int p1), (2, .int p2), (3, .int v3_5), (4, .int v4_5)] → wb_X12_clauseIn_5 p1 p2 k_s Q L_5 v3_5 v4_5 read_5 spot_5 isWrong_5 open_5 act_5 → W p l e R s m args below meth c H locs 0 0 QQ (F0 m 5 ls []) := by
    intro L_5 ih_5 v3_5 v4_5 read_5 spot_5 isWrong_5 open_5 act_5 H locs ls hO hl hw
    unfold wb_X12_clauseIn_5 at hw
    refine lv_iload hx hb dX12_clauseIn_5 (lv_at hl 4 rfl) ?_
    refine lv_aload_n hx hb dX12_clauseIn_7 rfl (lv_at hl 0 rfl) ?_
    refine gM_s C hin hK lk_s hO dX12_clauseIn_8 ?_
    refine lv_sipush (v := (nI 4470)) hx hb dX12_clauseIn_11 (by decide) ?_
    refine lv_iload_n hx hb dX12_clauseIn_14 rfl (lv_at hl 1 rfl) ?_
    refine lv_iadd hx hb dX12_clauseIn_15 ?_
    obtain ⟨o_16, hw⟩ := hw
    refine ldM_s C hK hO o_16 rfl dX12_clauseIn_16 ?_
    refine lv_icmp_ge (tgt := 85) hx hb dX12_clauseIn_17 (by decide) (fun q_17 => ?_) (fun q_17 => ?_)
    · have hw := hw.1 q_17
      refine lv_iload_n hx hb dX12_clauseIn_85 rfl (lv_at hl 3 rfl) ?_
      exact ri5 hQQ hx hb hr hlk hK hO hw dX12_clauseIn_86
    · have hw := hw.2 q_17
      refine lv_aload_n hx hb dX12_clauseIn_20 rfl (lv_at hl 0 rfl) ?_
      refine lv_iload_n hx hb dX12_clauseIn_21 rfl (lv_at hl 1 rfl) ?_
      refine pM_read C hin hK lk_read hO dX12_clauseIn_22 (fun H locs hO => ?_)
      refine lv_aload_n hx hb dX12_clauseIn_25 rfl (lv_at hl 0 rfl) ?_
      refine lv_aload_n hx hb dX12_clauseIn_26 rfl (lv_at hl 0 rfl) ?_
      refine gM_s C hin hK lk_s hO dX12_clauseIn_27 ?_
      refine lv_sipush (v := (nI 4620)) hx hb dX12_clauseIn_30 (by decide) ?_
      refine lv_bipush (v := (nI 8)) hx hb dX12_clauseIn_33 (by decide) ?_
      refine lv_iload_n hx hb dX12_clauseIn_35 rfl (lv_at hl 1 rfl) ?_
      refine lv_imul hx hb dX12_clauseIn_36 ?_
      refine lv_iadd hx hb dX12_clauseIn_37 ?_
      refine lv_iload hx hb dX12_clauseIn_38 (lv_at hl 4 rfl) ?_
      refine lv_iadd hx hb dX12_clauseIn_40 ?_
      obtain ⟨o_41, hw⟩ := hw
      refine ldM_s C hK hO o_41 rfl dX12_clauseIn_41 ?_
      refine pM_spot C hin hK lk_spot hO dX12_clauseIn_42 (fun H locs hO => ?_)
      refine lv_aload_n hx hb dX12_clauseIn_45 rfl (lv_at hl 0 rfl) ?_
      refine lv_iconst (v := (nI 0)) hx hb dX12_clauseIn_46 (by decide) ?_
      refine pM_open C hin hK lk_open hO dX12_clauseIn_47 (fun H locs hO => ?_)
      refine lv_aload_n hx hb dX12_clauseIn_50 rfl (lv_at hl 0 rfl) ?_
      refine lv_iconst (v := (nI 0)) hx hb dX12_clauseIn_51 (by decide) ?_
      refine pM_isWrong C hin hK lk_isWrong hO zb0 dX12_clauseIn_52 (fun H locs hO => ?_)
      refine lv_aload_n hx hb dX12_clauseIn_55 rfl (lv_at hl 0 rfl) ?_
      refine lv_iload_n hx hb dX12_clauseIn_56 rfl (lv_at hl 2 rfl) ?_
      refine pM_act C hin hK lk_act hO dX12_clauseIn_57 (fun H locs hO => ?_)
      refine lv_aload_n hx hb dX12_clauseIn_60 rfl (lv_at hl 0 rfl) ?_
      refine cVi3 (As := []) (rest := []) C hK hX hO (c_X12_some (l := l) hw) (cwV 0 hts gd_X12_116 rfl rfl rfl hd_X12_some (rok hR (Nat.le_of_ble_eq_true rfl) (Nat.le_of_ble_eq_true rfl))) (ci := 12) (q0 := 0) rfl rfl rfl rfl hl.1 rfl (Nat.le_of_ble_eq_true rfl) dX12_clauseIn_61 ⟨Nat.zero_le _, Nat.zero_le _⟩ (fun r_61 spot_61 isWrong_61 open_61 H locs hw hO => ?_)
      have m_78 : ∀ (y0_78 : Int32) (H : Heap) (locs : List Loc) (ls : Array Slot), y0_78 = (if r_61 = 0 then v3_5 else (((nI 8) * p1) + v4_5)) → okW D A s.heap H locs (wM cI cZ cJ h ad k_thrown k_s k_image k_hasImage k_steps p1 spot_61 isWrong_61 open_61 p2 k_letBy k_letStamp k_stamp k_fallen k_held k_stands k_falling k_away k_round k_rests k_may k_next k_could k_couldNight k_night k_seats) → lv_has ls 5 [(0, .ref h), (1, .int p1), (2, .int p2), (4, .int v4_5)] → W p l e R s m args below meth c H locs 0 0 QQ (F0 m 78 ls [.int y0_78]) := by
        intro y0_78 H locs ls ey0_78 hO hl
        have hw := hw y0_78 ey0_78
        refine lv_istore_n (lv' := [(3, .int y0_78), (0, .ref h), (1, .int p1), (2, .int p2), (4, .int v4_5)]) hx hb dX12_clauseIn_78 rfl hl (by decide) rfl (fun ls hl => ?_)
        refine lv_iinc (v := (v4_5 + (nI 1))) (lv' := [(4, .int (v4_5 + (nI 1))), (3, .int y0_78), (0, .ref h), (1, .int p1), (2, .int p2)]) hx hb dX12_clauseIn_79 hl (k := 4) rfl (iinc_1 _) (by decide) rfl (fun ls hl => ?_)
        refine lv_goto (tgt := 5) hx hb dX12_clauseIn_82 (by decide) ?_
        exact ih_5 y0_78 (v4_5 + (nI 1)) p1 spot_61 isWrong_61 open_61 p2 _ _ _ hO (lv_sub hl [2, 3, 4, 1, 0] rfl) hw
      refine lv_if_eq (tgt := 77) hx hb dX12_clauseIn_64 (by decide) (fun q_64 => ?_) (fun q_64 => ?_)
      · refine lv_iload_n hx hb dX12_clauseIn_77 rfl (lv_at hl 3 rfl) ?_
        have hl := lv_sub hl [0, 1, 2, 4] rfl (l' := [(0, .ref h), (1, .int p1), (2, .int p2), (4, .int v4_5)])
        exact m_78 _ _ _ _ (by rw [if_pos q_64]) hO hl
      · refine lv_bipush (v := (nI 8)) hx hb dX12_clauseIn_67 (by decide) ?_
        refine lv_iload_n hx hb dX12_clauseIn_69 rfl (lv_at hl 1 rfl) ?_
        refine lv_imul hx hb dX12_clauseIn_70 ?_
        refine lv_iload hx hb dX12_clauseIn_71 (lv_at hl 4 rfl) ?_
        refine lv_iadd hx hb dX12_clauseIn_73 ?_
        refine lv_goto (tgt := 78) hx hb dX12_clauseIn_74 (by decide) ?_
        have hl := lv_sub hl [0, 1, 2, 4] rfl (l' := [(0, .ref h), (1, .int p1), (2, .int p2), (4, .int v4_5)])
        exact m_78 _ _ _ _ (by rw [if_neg q_64]) hO hl
  have l_5 : ∀ (n : Nat) (v3_5 : Int32) (v4_5 : Int32) (read_5 : Int32) (spot_5 : Int32) (isWrong_5 : Int32) (open_5 : Int32) (act_5 : Int32) (H : Heap) (locs : List Loc) (ls : Array Slot), okW D A s.heap H locs (wM cI cZ cJ h ad k_thrown k_s k_image k_hasImage k_steps read_5 spot_5 isWrong_5 open_5 act_5 k_letBy k_letStamp k_stamp k_fallen k_held k_stands k_falling k_away k_round k_rests k_may k_next k_could k_couldNight k_night k_seats) → lv_has ls 5 [(0, .ref h), (1, .int p1), (2, .int p2), (3, .int v3_5), (4, .int v4_5)] → wl_X12_clauseIn_5 p1 p2 k_s Q n v3_5 v4_5 read_5 spot_5 isWrong_5 open_5 act_5 → W p l e R s m args below meth c H locs 0 0 QQ (F0 m 5 ls []) := by
    intro n
    induction n with
    | zero => intro v3_5 v4_5 read_5 spot_5 isWrong_5 open_5 act_5 H locs ls hO hl hw; exact False.elim hw
    | succ n ih => exact b_5 _ ih
  exact l_5 n_5 (-1) (nI 0) k_read k_spot k_isWrong k_open k_act _ _ _ hO (lv_sub hl [2, 3, 4, 1, 0] rfl) hw
theorem gd_X12_154 {a : Cond} : GoodIn (a :: wsG) (wsV RX12 154 RX12 yX12_textOf (Cond.code yX12_textOf cX12_textOf 5 (some .int) :: wsG)) := gdV qw6_158 qw6_160 qs_50 qw1_12 qw6_161
theorem hd_X12_textOf : yX12_textOf.cls = RX12 ∧ yX12_textOf.cls ≠ "java/lang/invoke/MethodHandle" ∧ yX12_textOf.cls ≠ "java/lang/invoke/VarHandle" ∧ (parseMethodDescriptor yX12_textOf.desc).map (fun d => d.parameters.length) = some 2 := by decide +kernel
theorem gd_X12_157 {a : Cond} : GoodIn (a :: wsG) (wsV RX12 157 RX12 yX12_clauseIn (Cond.code yX12_clauseIn cX12_clauseIn 5 (some .int) :: wsG)) := gdV qw6_166 qw6_168 qs_52 qw1_12 qw6_169
theorem hd_X12_clauseIn : yX12_clauseIn.cls = RX12 ∧ yX12_clauseIn.cls ≠ "java/lang/invoke/MethodHandle" ∧ yX12_clauseIn.cls ≠ "java/lang/invoke/VarHandle" ∧ (parseMethodDescriptor yX12_clauseIn.desc).map (fun d => d.parameters.length) = some 2 := by decide +kernel
def wp_X12_clauseOf (p1 : Int32) (p2 : Int32) (p3 : Int32) (k_s : Nat → Int32) (k_read : Int32) (k_spot : Int32) (k_isWrong : Int32) (k_open : Int32) (k_act : Int32) (Q : Int32 → (Int32) → (Int32) → (Int32) → (Int32) → (Int32) → Prop) : Prop := (wp_X12_textOf p1 p3 k_s (fun (r_3 : Int32) => ((¬ r_3 = (-1) → (wp_X12_clauseIn r_3 p2 k_s k_read k_spot k_isWrong k_open k_act (fun (r_22 : Int32) (read_22 : Int32) (spot_22 : Int32) (isWrong_22 : Int32) (open_22 : Int32) (act_22 : Int32) => (Q r_22 read_22 spot_22 isWrong_22 open_22 act_22)))) ∧ (r_3 = (-1) → (Q (-1) k_read k_spot k_isWrong k_open k_act)))))
set_option maxHeartbeats 4000000 in
set_option maxRecDepth 100000 in
theorem c_X12_clauseOf {l : Launch} {D : va_G} {cI cZ cJ : ClassId} {h : Nat} {ad : Nat → Nat} {sz : Nat} {k_thrown : Int32} {k_s : Nat → Int32} {k_image : Nat → Int32} {k_hasImage : Int32} {k_steps : Nat → Int32} {k_read : Int32} {k_spot : Int32} {k_isWrong : Int32} {k_open : Int32} {k_act : Int32} {k_letBy : Nat → Int32} {k_letStamp : Nat → Int32} {k_stamp : Int32} {k_fallen : Nat → Int32} {k_held : Nat → Int32} {k_stands : Nat → Int32} {k_falling : Nat → Int32} {k_away : Nat → Int32} {k_round : Nat → Int32} {k_rests : Nat → Int64} {k_may : Nat → Int32} {k_next : Nat → Int32} {k_could : Nat → Int32} {k_couldNight : Nat → Int32} {k_night : Int32} {k_seats : Nat → Int32} {p1 : Int32} {p2 : Int32} {p3 : Int32} {Q : Int32 → (Int32) → (Int32) → (Int32) → (Int32) → (Int32) → Prop} (hw : wp_X12_clauseOf p1 p2 p3 k_s k_read k_spot k_isWrong k_open k_act Q) : Met l yX12_clauseOf (Cond.code yX12_clauseOf cX12_clauseOf 5 (some .int) :: wsG) ({ frames := 32, cells := 0, slots := 0, locals := 727 } : Room) (preW D (tyM cI cZ cJ) (wM cI cZ cJ h ad k_thrown k_s k_image k_hasImage k_steps k_read k_spot k_isWrong k_open k_act k_letBy k_letStamp k_stamp k_fallen k_held k_stands k_falling k_away k_round k_rests k_may k_next k_could k_couldNight k_night k_seats) sz [.ref h, .int p1, .int p2, .int p3]) (qi5 D (tyM cI cZ cJ) (va_A (wM cI cZ cJ h ad k_thrown k_s k_image k_hasImage k_steps k_read k_spot k_isWrong k_open k_act k_letBy k_letStamp k_stamp k_fallen k_held k_stands k_falling k_away k_round k_rests k_may k_next k_could k_couldNight k_night k_seats) sz) Q (fun k_read' k_spot' k_isWrong' k_open' k_act' => (wM cI cZ cJ h ad k_thrown k_s k_image k_hasImage k_steps k_read' k_spot' k_isWrong' k_open' k_act' k_letBy k_letStamp k_stamp k_fallen k_held k_stands k_falling k_away k_round k_rests k_may k_next k_could k_couldNight k_night k_seats))) 0 0 (va_A (wM cI cZ cJ h ad k_thrown k_s k_image k_hasImage k_steps k_read k_spot k_isWrong k_open k_act k_letBy k_letStamp k_stamp k_fallen k_held k_stands k_falling k_away k_round k_rests k_may k_next k_could k_couldNight k_night k_seats) sz) := by
  refine st_met (cc := cX12_clauseOf) (maxL := 5) (ret := (some .int)) (lv := [(0, .ref h), (1, .int p1), (2, .int p2), (3, .int p3)]) (Qc := fun A => qi5 D (tyM cI cZ cJ) A Q (fun k_read' k_spot' k_isWrong' k_open' k_act' => (wM cI cZ cJ h ad k_thrown k_s k_image k_hasImage k_steps k_read' k_spot' k_isWrong' k_open' k_act' k_letBy k_letStamp k_stamp k_fallen k_held k_stands k_falling k_away k_round k_rests k_may k_next k_could k_couldNight k_night k_seats))) (by decide) rfl (Nat.le_of_ble_eq_true rfl) rfl ?_
  intro p e s m below meth c ls A R args QQ H locs C hr hlk hnm hK hX hsz hl hO hR hQQ
  have hx := C.1
  have hb := C.2.1
  have hown := C.2.2.2.1
  have hts := C.2.2.2.2
  have hin : ∀ w ∈ u_ws RX12 TX12 26, w ∈ (Cond.code yX12_clauseOf cX12_clauseOf 5 (some .int) :: wsG) := fun w h9 => List.mem_cons_of_mem _ (inG12 w h9)
  unfold wp_X12_clauseOf at hw
  refine lv_aload_n hx hb dX12_clauseOf_0 rfl (lv_at hl 0 rfl) ?_
  refine lv_iload_n hx hb dX12_clauseOf_1 rfl (lv_at hl 1 rfl) ?_
  refine lv_iload_n hx hb dX12_clauseOf_2 rfl (lv_at hl 3 rfl) ?_
  refine cVi0 (As := [.int p1, .int p3]) (rest := []) C hK hX hO (c_X12_textOf (l := l) hw) (cwV 2 hts gd_X12_154 rfl rfl rfl hd_X12_textOf (rok hR (Nat.le_of_ble_eq_true rfl) (Nat.le_of_ble_eq_true rfl))) (ci := 12) (q0 := 0) rfl rfl rfl rfl hl.1 rfl (Nat.le_of_ble_eq_true rfl) dX12_clauseOf_3 ⟨Nat.zero_le _, Nat.zero_le _⟩ (fun r_3 H locs hw hO => ?_)
  refine lv_istore (lv' := [(4, .int r_3), (0, .ref h), (1, .int p1), (2, .int p2), (3, .int p3)]) hx hb dX12_clauseOf_6 hl (by decide) rfl (fun ls hl => ?_)
  refine lv_iload hx hb dX12_clauseOf_8 (lv_at hl 0 rfl) ?_
  refine lv_iconst (v := (-1)) hx hb dX12_clauseOf_10 (by decide) ?_
  refine lv_icmp_ne (tgt := 18) hx hb dX12_clauseOf_11 (by decide) (fun q_11 => ?_) (fun q_11 => ?_)
  · have hw := hw.1 q_11
    refine lv_aload_n hx hb dX12_clauseOf_18 rfl (lv_at hl 1 rfl) ?_
    refine lv_iload hx hb dX12_clauseOf_19 (lv_at hl 0 rfl) ?_
    refine lv_iload_n hx hb dX12_clauseOf_21 rfl (lv_at hl 3 rfl) ?_
    refine cVi5 (As := [.int r_3, .int p2]) (rest := []) C hK hX hO (c_X12_clauseIn (l := l) hw) (cwV 2 hts gd_X12_157 rfl rfl rfl hd_X12_clauseIn (rok hR (Nat.le_of_ble_eq_true rfl) (Nat.le_of_ble_eq_true rfl))) (ci := 12) (q0 := 0) rfl rfl rfl rfl hl.1 rfl (Nat.le_of_ble_eq_true rfl) dX12_clauseOf_22 ⟨Nat.zero_le _, Nat.zero_le _⟩ (fun r_22 read_22 spot_22 isWrong_22 open_22 act_22 H locs hw hO => ?_)
    exact ri5 hQQ hx hb hr hlk hK hO hw dX12_clauseOf_25
  · have hw := hw.2 q_11
    refine lv_iconst (v := (-1)) hx hb dX12_clauseOf_14 (by decide) ?_
    refine lv_goto (tgt := 25) hx hb dX12_clauseOf_15 (by decide) ?_
    exact ri5 hQQ hx hb hr hlk hK hO hw dX12_clauseOf_25
def wb_X12_finds_26 (p1 : Int32) (k_s : Nat → Int32) (k_letStamp : Nat → Int32) (k_stamp : Int32) (Q : (Int32) → (Int32) → (Int32) → (Int32) → (Int32) → (Nat → Int32) → (Nat → Int32) → Prop) (L_26 : Int32 → Int32 → Int32 → Int32 → Int32 → Int32 → (Nat → Int32) → Prop) (v2_26 : Int32) (read_26 : Int32) (spot_26 : Int32) (isWrong_26 : Int32) (open_26 : Int32) (act_26 : Int32) (letBy_26 : Nat → Int32) : Prop := (((nI 10800) ≤ v2_26 → (Q read_26 spot_26 isWrong_26 open_26 act_26 letBy_26 (upd k_letStamp ((p1).toNatClampNeg) k_stamp))) ∧ (¬ (nI 10800) ≤ v2_26 → (wp_X12_clauseIn p1 v2_26 k_s read_26 spot_26 isWrong_26 open_26 act_26 (fun (r_36 : Int32) (read_36 : Int32) (spot_36 : Int32) (isWrong_36 : Int32) (open_36 : Int32) (act_36 : Int32) => (((¬ r_36 = (-1) → (vp_in ((nI 4490) + r_36) 6700))) ∧ (∀ y2_75 : Int32, y2_75 = (if r_36 = (-1) then (nI 0) else (if (k_s (((nI 4490) + r_36)).toNatClampNeg) = (nI 1) then (nI 1) else (nI 0))) → (vp_in (((nI 10800) * p1) + v2_26) 172800 ∧ (L_26 (v2_26 + (nI 1)) read_36 spot_36 isWrong_36 open_36 act_36 (upd letBy_26 (((((nI 10800) * p1) + v2_26)).toNatClampNeg) (vp_nar .boolean y2_75))))))))))
def wl_X12_finds_26 (p1 : Int32) (k_s : Nat → Int32) (k_letStamp : Nat → Int32) (k_stamp : Int32) (Q : (Int32) → (Int32) → (Int32) → (Int32) → (Int32) → (Nat → Int32) → (Nat → Int32) → Prop) : Nat → Int32 → Int32 → Int32 → Int32 → Int32 → Int32 → (Nat → Int32) → Prop
  | 0, _, _, _, _, _, _, _ => False
  | n + 1, v2_26, read_26, spot_26, isWrong_26, open_26, act_26, letBy_26 => wb_X12_finds_26 p1 k_s k_letStamp k_stamp Q (wl_X12_finds_26 p1 k_s k_letStamp k_stamp Q n) v2_26 read_26 spot_26 isWrong_26 open_26 act_26 letBy_26
def wp_X12_finds (p1 : Int32) (k_s : Nat → Int32) (k_read : Int32) (k_spot : Int32) (k_isWrong : Int32) (k_open : Int32) (k_act : Int32) (k_letBy : Nat → Int32) (k_letStamp : Nat → Int32) (k_stamp : Int32) (Q : (Int32) → (Int32) → (Int32) → (Int32) → (Int32) → (Nat → Int32) → (Nat → Int32) → Prop) : Prop := (vp_in p1 16 ∧ ((¬ (k_letStamp (p1).toNatClampNeg) = k_stamp → (vp_in p1 16 ∧ (∃ n, wl_X12_finds_26 p1 k_s k_letStamp k_stamp Q n (nI 0) k_read k_spot k_isWrong k_open k_act k_letBy))) ∧ ((k_letStamp (p1).toNatClampNeg) = k_stamp → (Q k_read k_spot k_isWrong k_open k_act k_letBy k_letStamp))))
set_option maxHeartbeats 4000000 in
set_option maxRecDepth 100000 in
theorem c_X12_finds {l : Launch} {D : va_G} {cI cZ cJ : ClassId} {h : Nat} {ad : Nat → Nat} {sz : Nat} {k_thrown : Int32} {k_s : Nat → Int32} {k_image : Nat → Int32} {k_hasImage : Int32} {k_steps : Nat → Int32} {k_read : Int32} {k_spot : Int32} {k_isWrong : Int32} {k_open : Int32} {k_act : Int32} {k_letBy : Nat → Int32} {k_letStamp : Nat → Int32} {k_stamp : Int32} {k_fallen : Nat → Int32} {k_held : Nat → Int32} {k_stands : Nat → Int32} {k_falling : Nat → Int32} {k_away : Nat → Int32} {k_round : Nat → Int32} {k_rests : Nat → Int64} {k_may : Nat → Int32} {k_next : Nat → Int32} {k_could : Nat → Int32} {k_couldNight : Nat → Int32} {k_night : Int32} {k_seats : Nat → Int32} {p1 : Int32} {Q : (Int32) → (Int32) → (Int32) → (Int32) → (Int32) → (Nat → Int32) → (Nat → Int32) → Prop} (hw : wp_X12_finds p1 k_s k_read k_spot k_isWrong k_open k_act k_letBy k_letStamp k_stamp Q) : Met l yX12_finds (Cond.code yX12_finds cX12_finds 4 none :: wsG) ({ frames := 32, cells := 0, slots := 0, locals := 727 } : Room) (preW D (tyM cI cZ cJ) (wM cI cZ cJ h ad k_thrown k_s k_image k_hasImage k_steps k_read k_spot k_isWrong k_open k_act k_letBy k_letStamp k_stamp k_fallen k_held k_stands k_falling k_away k_round k_rests k_may k_next k_could k_couldNight k_night k_seats) sz [.ref h, .int p1]) (qv7 D (tyM cI cZ cJ) (va_A (wM cI cZ cJ h ad k_thrown k_s k_image k_hasImage k_steps k_read k_spot k_isWrong k_open k_act k_letBy k_letStamp k_stamp k_fallen k_held k_stands k_falling k_away k_round k_rests k_may k_next k_could k_couldNight k_night k_seats) sz) Q (fun k_read' k_spot' k_isWrong' k_open' k_act' k_letBy' k_letStamp' => (wM cI cZ cJ h ad k_thrown k_s k_image k_hasImage k_steps k_read' k_spot' k_isWrong' k_open' k_act' k_letBy' k_letStamp' k_stamp k_fallen k_held k_stands k_falling k_away k_round k_rests k_may k_next k_could k_couldNight k_night k_seats))) 0 0 (va_A (wM cI cZ cJ h ad k_thrown k_s k_image k_hasImage k_steps k_read k_spot k_isWrong k_open k_act k_letBy k_letStamp k_stamp k_fallen k_held k_stands k_falling k_away k_round k_rests k_may k_next k_could k_couldNight k_night k_seats) sz) := by
  refine st_met (cc := cX12_finds) (maxL := 4) (ret := none) (lv := [(0, .ref h), (1, .int p1)]) (Qc := fun A => qv7 D (tyM cI cZ cJ) A Q (fun k_read' k_spot' k_isWrong' k_open' k_act' k_letBy' k_letStamp' => (wM cI cZ cJ h ad k_thrown k_s k_image k_hasImage k_steps k_read' k_spot' k_isWrong' k_open' k_act' k_letBy' k_letStamp' k_stamp k_fallen k_held k_stands k_falling k_away k_round k_rests k_may k_next k_could k_couldNight k_night k_seats))) (by decide) rfl (Nat.le_of_ble_eq_true rfl) rfl ?_
  intro p e s m below meth c ls A R args QQ H locs C hr hlk hnm hK hX hsz hl hO hR hQQ
  have hx := C.1
  have hb := C.2.1
  have hown := C.2.2.2.1
  have hts := C.2.2.2.2
  have hin : ∀ w ∈ u_ws RX12 TX12 26, w ∈ (Cond.code yX12_finds cX12_finds 4 none :: wsG) := fun w h9 => List.mem_cons_of_mem _ (inG12 w h9)
  have lk_letStamp := hts (Cond.fieldLink RX12 24 "FreeCityModel" "letStamp" "[I") (List.mem_cons_of_mem _ qw5_217)
  have lk_stamp := hts (Cond.fieldLink RX12 27 "FreeCityModel" "stamp" "I") (List.mem_cons_of_mem _ qw5_218)
  have lk_letBy := hts (Cond.fieldLink RX12 20 "FreeCityModel" "letBy" "[Z") (List.mem_cons_of_mem _ qw5_216)
  have lk_s := hts (Cond.fieldLink RX12 7 "FreeCityModel" "s" "[I") (List.mem_cons_of_mem _ qw5_207)
  unfold wp_X12_finds at hw
  refine lv_aload_n hx hb dX12_finds_0 rfl (lv_at hl 0 rfl) ?_
  refine gM_letStamp C hin hK lk_letStamp hO dX12_finds_1 ?_
  refine lv_iload_n hx hb dX12_finds_4 rfl (lv_at hl 1 rfl) ?_
  obtain ⟨o_5, hw⟩ := hw
  refine ldM_letStamp C hK hO o_5 rfl dX12_finds_5 ?_
  refine lv_aload_n hx hb dX12_finds_6 rfl (lv_at hl 0 rfl) ?_
  refine gM_stamp C hin hK lk_stamp hO dX12_finds_7 ?_
  refine lv_icmp_ne (tgt := 14) hx hb dX12_finds_10 (by decide) (fun q_10 => ?_) (fun q_10 => ?_)
  · have hw := hw.1 q_10
    refine lv_aload_n hx hb dX12_finds_14 rfl (lv_at hl 0 rfl) ?_
    refine gM_letStamp C hin hK lk_letStamp hO dX12_finds_15 ?_
    refine lv_iload_n hx hb dX12_finds_18 rfl (lv_at hl 1 rfl) ?_
    refine lv_aload_n hx hb dX12_finds_19 rfl (lv_at hl 0 rfl) ?_
    refine gM_stamp C hin hK lk_stamp hO dX12_finds_20 ?_
    obtain ⟨o_23, hw⟩ := hw
    refine stM_letStamp C hK hO o_23 rfl dX12_finds_23 (fun H locs hO => ?_)
    refine lv_iconst (v := (nI 0)) hx hb dX12_finds_24 (by decide) ?_
    refine lv_istore_n (lv' := [(2, .int (nI 0)), (0, .ref h), (1, .int p1)]) hx hb dX12_finds_25 rfl hl (by decide) rfl (fun ls hl => ?_)
    obtain ⟨n_26, hw⟩ := hw
    have b_26 : ∀ (L_26 : Int32 → Int32 → Int32 → Int32 → Int32 → Int32 → (Nat → Int32) → Prop) (ih_26 : ∀ (v2_26 : Int32) (read_26 : Int32) (spot_26 : Int32) (isWrong_26 : Int32) (open_26 : Int32) (act_26 : Int32) (letBy_26 : Nat → Int32) (H : Heap) (locs : List Loc) (ls : Array Slot), okW D A s.heap H locs (wM cI cZ cJ h ad k_thrown k_s k_image k_hasImage k_steps read_26 spot_26 isWrong_26 open_26 act_26 letBy_26 (upd k_letStamp ((p1).toNatClampNeg) k_stamp) k_stamp k_fallen k_held k_stands k_falling k_away k_round k_rests k_may k_next k_could k_couldNight k_night k_seats) → lv_has ls 4 [(0, .ref h), (1, .int p1), (2, .int v2_26)] → L_26 v2_26 read_26 spot_26 isWrong_26 open_26 act_26 letBy_26 → W p l e R s m args below meth c H locs 0 0 QQ (F0 m 26 ls [])) (v2_26 : Int32) (read_26 : Int32) (spot_26 : Int32) (isWrong_26 : Int32) (open_26 : Int32) (act_26 : Int32) (letBy_26 : Nat → Int32) (H : Heap) (locs : List Loc) (ls : Array Slot), okW D A s.heap H locs (wM cI cZ cJ h ad k_thrown k_s k_image k_hasImage k_steps read_26 spot_26 isWrong_26 open_26 act_26 letBy_26 (upd k_letStamp ((p1).toNatClampNeg) k_stamp) k_stamp k_fallen k_held k_stands k_falling k_away k_round k_rests k_may k_next k_could k_couldNight k_night k_seats) → lv_has ls 4 [(0, .ref h), (1, .int p1), (2, .int v2_26)] → wb_X12_finds_26 p1 k_s k_letStamp k_stamp Q L_26 v2_26 read_26 spot_26 isWrong_26 open_26 act_26 letBy_26 → W p l e R s m args below meth c H locs 0 0 QQ (F0 m 26 ls []) := by
      intro L_26 ih_26 v2_26 read_26 spot_26 isWrong_26 open_26 act_26 letBy_26 H locs ls hO hl hw
      unfold wb_X12_finds_26 at hw
      refine lv_iload_n hx hb dX12_finds_26 rfl (lv_at hl 2 rfl) ?_
      refine lv_sipush (v := (nI 10800)) hx hb dX12_finds_27 (by decide) ?_
      refine lv_icmp_ge (tgt := 82) hx hb dX12_finds_30 (by decide) (fun q_30 => ?_) (fun q_30 => ?_)
      · have hw := hw.1 q_30
        exact rv7 hQQ hx hb hr hlk hK hO hw dX12_finds_82
      · have hw := hw.2 q_30
        refine lv_aload_n hx hb dX12_finds_33 rfl (lv_at hl 0 rfl) ?_
        refine lv_iload_n hx hb dX12_finds_34 rfl (lv_at hl 1 rfl) ?_
        refine lv_iload_n hx hb dX12_finds_35 rfl (lv_at hl 2 rfl) ?_
        refine cVi5 (As := [.int p1, .int v2_26]) (rest := []) C hK hX hO (c_X12_clauseIn (l := l) hw) (cwV 2 hts gd_X12_157 rfl rfl rfl hd_X12_clauseIn (rok hR (Nat.le_of_ble_eq_true rfl) (Nat.le_of_ble_eq_true rfl))) (ci := 12) (q0 := 0) rfl rfl rfl rfl hl.1 rfl (Nat.le_of_ble_eq_true rfl) dX12_finds_36 ⟨Nat.zero_le _, Nat.zero_le _⟩ (fun r_36 read_36 spot_36 isWrong_36 open_36 act_36 H locs hw hO => ?_)
        refine lv_istore_n (lv' := [(3, .int r_36), (0, .ref h), (1, .int p1), (2, .int v2_26)]) hx hb dX12_finds_39 rfl hl (by decide) rfl (fun ls hl => ?_)
        refine lv_aload_n hx hb dX12_finds_40 rfl (lv_at hl 1 rfl) ?_
        refine gM_letBy C hin hK lk_letBy hO dX12_finds_41 ?_
        refine lv_sipush (v := (nI 10800)) hx hb dX12_finds_44 (by decide) ?_
        refine lv_iload_n hx hb dX12_finds_47 rfl (lv_at hl 2 rfl) ?_
        refine lv_imul hx hb dX12_finds_48 ?_
        refine lv_iload_n hx hb dX12_finds_49 rfl (lv_at hl 3 rfl) ?_
        refine lv_iadd hx hb dX12_finds_50 ?_
        refine lv_iload_n hx hb dX12_finds_51 rfl (lv_at hl 0 rfl) ?_
        refine lv_iconst (v := (-1)) hx hb dX12_finds_52 (by decide) ?_
        obtain ⟨hs, hw⟩ := hw
        have m_75 : ∀ (y2_75 : Int32) (H : Heap) (locs : List Loc) (ls : Array Slot), y2_75 = (if r_36 = (-1) then (nI 0) else (if (k_s (((nI 4490) + r_36)).toNatClampNeg) = (nI 1) then (nI 1) else (nI 0))) → okW D A s.heap H locs (wM cI cZ cJ h ad k_thrown k_s k_image k_hasImage k_steps read_36 spot_36 isWrong_36 open_36 act_36 letBy_26 (upd k_letStamp ((p1).toNatClampNeg) k_stamp) k_stamp k_fallen k_held k_stands k_falling k_away k_round k_rests k_may k_next k_could k_couldNight k_night k_seats) → lv_has ls 4 [(0, .ref h), (1, .int p1), (2, .int v2_26)] → W p l e R s m args below meth c H locs 0 0 QQ (F0 m 75 ls [.int y2_75, .int (((nI 10800) * p1) + v2_26), .ref (ad 10)]) := by
          intro y2_75 H locs ls ey2_75 hO hl
          have hw := hw y2_75 ey2_75
          obtain ⟨o_75, hw⟩ := hw
          refine stM_letBy C hK hO o_75 rfl dX12_finds_75 (fun H locs hO => ?_)
          refine lv_iinc (v := (v2_26 + (nI 1))) (lv' := [(2, .int (v2_26 + (nI 1))), (0, .ref h), (1, .int p1)]) hx hb dX12_finds_76 hl (k := 2) rfl (iinc_1 _) (by decide) rfl (fun ls hl => ?_)
          refine lv_goto (tgt := 26) hx hb dX12_finds_79 (by decide) ?_
          exact ih_26 (v2_26 + (nI 1)) read_36 spot_36 isWrong_36 open_36 act_36 (upd letBy_26 (((((nI 10800) * p1) + v2_26)).toNatClampNeg) (vp_nar .boolean y2_75)) _ _ _ hO (lv_sub hl [1, 2, 0] rfl) hw
        refine lv_icmp_eq (tgt := 74) hx hb dX12_finds_53 (by decide) (fun q_53 => ?_) (fun q_53 => ?_)
        · refine lv_iconst (v := (nI 0)) hx hb dX12_finds_74 (by decide) ?_
          have hl := lv_sub hl [1, 2, 3] rfl (l' := [(0, .ref h), (1, .int p1), (2, .int v2_26)])
          exact m_75 _ _ _ _ (by rw [if_pos q_53]) hO hl
        · have hs := hs q_53
          have o_65 := hs
          refine lv_aload_n hx hb dX12_finds_56 rfl (lv_at hl 1 rfl) ?_
          refine gM_s C hin hK lk_s hO dX12_finds_57 ?_
          refine lv_sipush (v := (nI 4490)) hx hb dX12_finds_60 (by decide) ?_
          refine lv_iload_n hx hb dX12_finds_63 rfl (lv_at hl 0 rfl) ?_
          refine lv_iadd hx hb dX12_finds_64 ?_
          refine ldM_s C hK hO o_65 rfl dX12_finds_65 ?_
          refine lv_iconst (v := (nI 1)) hx hb dX12_finds_66 (by decide) ?_
          refine lv_icmp_ne (tgt := 74) hx hb dX12_finds_67 (by decide) (fun q_67 => ?_) (fun q_67 => ?_)
          · refine lv_iconst (v := (nI 0)) hx hb dX12_finds_74 (by decide) ?_
            have hl := lv_sub hl [1, 2, 3] rfl (l' := [(0, .ref h), (1, .int p1), (2, .int v2_26)])
            exact m_75 _ _ _ _ (by rw [if_neg q_53, if_neg q_67]) hO hl
          · refine lv_iconst (v := (nI 1)) hx hb dX12_finds_70 (by decide) ?_
            refine lv_goto (tgt := 75) hx hb dX12_finds_71 (by decide) ?_
            have hl := lv_sub hl [1, 2, 3] rfl (l' := [(0, .ref h), (1, .int p1), (2, .int v2_26)])
            exact m_75 _ _ _ _ (by rw [if_neg q_53, if_pos q_67]) hO hl
    have l_26 : ∀ (n : Nat) (v2_26 : Int32) (read_26 : Int32) (spot_26 : Int32) (isWrong_26 : Int32) (open_26 : Int32) (act_26 : Int32) (letBy_26 : Nat → Int32) (H : Heap) (locs : List Loc) (ls : Array Slot), okW D A s.heap H locs (wM cI cZ cJ h ad k_thrown k_s k_image k_hasImage k_steps read_26 spot_26 isWrong_26 open_26 act_26 letBy_26 (upd k_letStamp ((p1).toNatClampNeg) k_stamp) k_stamp k_fallen k_held k_stands k_falling k_away k_round k_rests k_may k_next k_could k_couldNight k_night k_seats) → lv_has ls 4 [(0, .ref h), (1, .int p1), (2, .int v2_26)] → wl_X12_finds_26 p1 k_s k_letStamp k_stamp Q n v2_26 read_26 spot_26 isWrong_26 open_26 act_26 letBy_26 → W p l e R s m args below meth c H locs 0 0 QQ (F0 m 26 ls []) := by
      intro n
      induction n with
      | zero => intro v2_26 read_26 spot_26 isWrong_26 open_26 act_26 letBy_26 H locs ls hO hl hw; exact False.elim hw
      | succ n ih => exact b_26 _ ih
    exact l_26 n_26 (nI 0) k_read k_spot k_isWrong k_open k_act k_letBy _ _ _ hO (lv_sub hl [1, 2, 0] rfl) hw
  · have hw := hw.2 q_10
    exact rv7 hQQ hx hb hr hlk hK hO hw dX12_finds_13
theorem gd_X12_160 {a : Cond} : GoodIn (a :: wsG) (wsV RX12 160 RX12 yX12_finds (Cond.code yX12_finds cX12_finds 4 none :: wsG)) := gdV qw6_162 qw6_164 qs_51 qw1_12 qw6_165
theorem hd_X12_finds : yX12_finds.cls = RX12 ∧ yX12_finds.cls ≠ "java/lang/invoke/MethodHandle" ∧ yX12_finds.cls ≠ "java/lang/invoke/VarHandle" ∧ (parseMethodDescriptor yX12_finds.desc).map (fun d => d.parameters.length) = some 1 := by decide +kernel
def wp_X12_letsBy (p1 : Int32) (p2 : Int32) (p3 : Int32) (k_s : Nat → Int32) (k_read : Int32) (k_spot : Int32) (k_isWrong : Int32) (k_open : Int32) (k_act : Int32) (k_letBy : Nat → Int32) (k_letStamp : Nat → Int32) (k_stamp : Int32) (Q : Int32 → (Int32) → (Int32) → (Int32) → (Int32) → (Int32) → (Nat → Int32) → (Nat → Int32) → Prop) : Prop := (wp_X12_textOf p1 p3 k_s (fun (r_3 : Int32) => ((¬ r_3 = (-1) → (wp_X12_finds r_3 k_s k_read k_spot k_isWrong k_open k_act k_letBy k_letStamp k_stamp (fun (read_19 : Int32) (spot_19 : Int32) (isWrong_19 : Int32) (open_19 : Int32) (act_19 : Int32) (letBy_19 : Nat → Int32) (letStamp_19 : Nat → Int32) => (vp_in (((nI 10800) * r_3) + p2) 172800 ∧ (zb (letBy_19 ((((nI 10800) * r_3) + p2)).toNatClampNeg) ∧ (Q (letBy_19 ((((nI 10800) * r_3) + p2)).toNatClampNeg) read_19 spot_19 isWrong_19 open_19 act_19 letBy_19 letStamp_19)))))) ∧ (r_3 = (-1) → (Q (nI 0) k_read k_spot k_isWrong k_open k_act k_letBy k_letStamp)))))
set_option maxHeartbeats 4000000 in
set_option maxRecDepth 100000 in
theorem c_X12_letsBy {l : Launch} {D : va_G} {cI cZ cJ : ClassId} {h : Nat} {ad : Nat → Nat} {sz : Nat} {k_thrown : Int32} {k_s : Nat → Int32} {k_image : Nat → Int32} {k_hasImage : Int32} {k_steps : Nat → Int32} {k_read : Int32} {k_spot : Int32} {k_isWrong : Int32} {k_open : Int32} {k_act : Int32} {k_letBy : Nat → Int32} {k_letStamp : Nat → Int32} {k_stamp : Int32} {k_fallen : Nat → Int32} {k_held : Nat → Int32} {k_stands : Nat → Int32} {k_falling : Nat → Int32} {k_away : Nat → Int32} {k_round : Nat → Int32} {k_rests : Nat → Int64} {k_may : Nat → Int32} {k_next : Nat → Int32} {k_could : Nat → Int32} {k_couldNight : Nat → Int32} {k_night : Int32} {k_seats : Nat → Int32} {p1 : Int32} {p2 : Int32} {p3 : Int32} {Q : Int32 → (Int32) → (Int32) → (Int32) → (Int32) → (Int32) → (Nat → Int32) → (Nat → Int32) → Prop} (hw : wp_X12_letsBy p1 p2 p3 k_s k_read k_spot k_isWrong k_open k_act k_letBy k_letStamp k_stamp Q) : Met l yX12_letsBy (Cond.code yX12_letsBy cX12_letsBy 5 (some .boolean) :: wsG) ({ frames := 33, cells := 0, slots := 0, locals := 750 } : Room) (preW D (tyM cI cZ cJ) (wM cI cZ cJ h ad k_thrown k_s k_image k_hasImage k_steps k_read k_spot k_isWrong k_open k_act k_letBy k_letStamp k_stamp k_fallen k_held k_stands k_falling k_away k_round k_rests k_may k_next k_could k_couldNight k_night k_seats) sz [.ref h, .int p1, .int p2, .int p3]) (qi7 D (tyM cI cZ cJ) (va_A (wM cI cZ cJ h ad k_thrown k_s k_image k_hasImage k_steps k_read k_spot k_isWrong k_open k_act k_letBy k_letStamp k_stamp k_fallen k_held k_stands k_falling k_away k_round k_rests k_may k_next k_could k_couldNight k_night k_seats) sz) Q (fun k_read' k_spot' k_isWrong' k_open' k_act' k_letBy' k_letStamp' => (wM cI cZ cJ h ad k_thrown k_s k_image k_hasImage k_steps k_read' k_spot' k_isWrong' k_open' k_act' k_letBy' k_letStamp' k_stamp k_fallen k_held k_stands k_falling k_away k_round k_rests k_may k_next k_could k_couldNight k_night k_seats))) 0 0 (va_A (wM cI cZ cJ h ad k_thrown k_s k_image k_hasImage k_steps k_read k_spot k_isWrong k_open k_act k_letBy k_letStamp k_stamp k_fallen k_held k_stands k_falling k_away k_round k_rests k_may k_next k_could k_couldNight k_night k_seats) sz) := by
  refine st_met (cc := cX12_letsBy) (maxL := 5) (ret := (some .boolean)) (lv := [(0, .ref h), (1, .int p1), (2, .int p2), (3, .int p3)]) (Qc := fun A => qi7 D (tyM cI cZ cJ) A Q (fun k_read' k_spot' k_isWrong' k_open' k_act' k_letBy' k_letStamp' => (wM cI cZ cJ h ad k_thrown k_s k_image k_hasImage k_steps k_read' k_spot' k_isWrong' k_open' k_act' k_letBy' k_letStamp' k_stamp k_fallen k_held k_stands k_falling k_away k_round k_rests k_may k_next k_could k_couldNight k_night k_seats))) (by decide) rfl (Nat.le_of_ble_eq_true rfl) rfl ?_
  intro p e s m below meth c ls A R args QQ H locs C hr hlk hnm hK hX hsz hl hO hR hQQ
  have hx := C.1
  have hb := C.2.1
  have hown := C.2.2.2.1
  have hts := C.2.2.2.2
  have hin : ∀ w ∈ u_ws RX12 TX12 26, w ∈ (Cond.code yX12_letsBy cX12_letsBy 5 (some .boolean) :: wsG) := fun w h9 => List.mem_cons_of_mem _ (inG12 w h9)
  have lk_letBy := hts (Cond.fieldLink RX12 20 "FreeCityModel" "letBy" "[Z") (List.mem_cons_of_mem _ qw5_216)
  unfold wp_X12_letsBy at hw
  refine lv_aload_n hx hb dX12_letsBy_0 rfl (lv_at hl 0 rfl) ?_
  refine lv_iload_n hx hb dX12_letsBy_1 rfl (lv_at hl 1 rfl) ?_
  refine lv_iload_n hx hb dX12_letsBy_2 rfl (lv_at hl 3 rfl) ?_
  refine cVi0 (As := [.int p1, .int p3]) (rest := []) C hK hX hO (c_X12_textOf (l := l) hw) (cwV 2 hts gd_X12_154 rfl rfl rfl hd_X12_textOf (rok hR (Nat.le_of_ble_eq_true rfl) (Nat.le_of_ble_eq_true rfl))) (ci := 12) (q0 := 0) rfl rfl rfl rfl hl.1 rfl (Nat.le_of_ble_eq_true rfl) dX12_letsBy_3 ⟨Nat.zero_le _, Nat.zero_le _⟩ (fun r_3 H locs hw hO => ?_)
  refine lv_istore (lv' := [(4, .int r_3), (0, .ref h), (1, .int p1), (2, .int p2), (3, .int p3)]) hx hb dX12_letsBy_6 hl (by decide) rfl (fun ls hl => ?_)
  refine lv_iload hx hb dX12_letsBy_8 (lv_at hl 0 rfl) ?_
  refine lv_iconst (v := (-1)) hx hb dX12_letsBy_10 (by decide) ?_
  refine lv_icmp_ne (tgt := 16) hx hb dX12_letsBy_11 (by decide) (fun q_11 => ?_) (fun q_11 => ?_)
  · have hw := hw.1 q_11
    refine lv_aload_n hx hb dX12_letsBy_16 rfl (lv_at hl 1 rfl) ?_
    refine lv_iload hx hb dX12_letsBy_17 (lv_at hl 0 rfl) ?_
    refine cVv7 (As := [.int r_3]) (rest := []) C hK hX hO (c_X12_finds (l := l) hw) (cwV 1 hts gd_X12_160 rfl rfl rfl hd_X12_finds (rok hR (Nat.le_of_ble_eq_true rfl) (Nat.le_of_ble_eq_true rfl))) (ci := 12) (q0 := 0) rfl rfl rfl rfl hl.1 rfl (Nat.le_of_ble_eq_true rfl) dX12_letsBy_19 ⟨Nat.zero_le _, Nat.zero_le _⟩ (fun read_19 spot_19 isWrong_19 open_19 act_19 letBy_19 letStamp_19 H locs hw hO => ?_)
    refine lv_aload_n hx hb dX12_letsBy_22 rfl (lv_at hl 1 rfl) ?_
    refine gM_letBy C hin hK lk_letBy hO dX12_letsBy_23 ?_
    refine lv_sipush (v := (nI 10800)) hx hb dX12_letsBy_26 (by decide) ?_
    refine lv_iload hx hb dX12_letsBy_29 (lv_at hl 0 rfl) ?_
    refine lv_imul hx hb dX12_letsBy_31 ?_
    refine lv_iload_n hx hb dX12_letsBy_32 rfl (lv_at hl 3 rfl) ?_
    refine lv_iadd hx hb dX12_letsBy_33 ?_
    obtain ⟨o_34, hw⟩ := hw
    refine ldM_letBy C hK hO o_34 rfl dX12_letsBy_34 ?_
    obtain ⟨hz, hw⟩ := hw
    exact rz7 hQQ hx hb hr hlk hK hO hz hw dX12_letsBy_35
  · have hw := hw.2 q_11
    refine lv_iconst (v := (nI 0)) hx hb dX12_letsBy_14 (by decide) ?_
    exact rz7 hQQ hx hb hr hlk hK hO zb0 hw dX12_letsBy_15
def wb_X12_rulingOf_4 (p1 : Int32) (k_s : Nat → Int32) (k_stands : Nat → Int32) (Q : Int32 → Prop) (L_4 : Int32 → Int32 → Prop) (v2_4 : Int32) (v3_4 : Int32) : Prop := (((k_s 2) ≤ v3_4 → (Q v2_4)) ∧ (¬ (k_s 2) ≤ v3_4 → (vp_in ((nI 1310) + v3_4) 6700 ∧ ((((k_s (((nI 1310) + v3_4)).toNatClampNeg) = (nI 6) → (vp_in ((nI 1410) + v3_4) 6700 ∧ ((k_s (((nI 1410) + v3_4)).toNatClampNeg) = (f_X12_spotOf p1) → (vp_in ((nI 1460) + v3_4) 6700 ∧ ((k_s (((nI 1460) + v3_4)).toNatClampNeg) = (f_X12_matterOf p1) → (vp_in v3_4 50))))))) ∧ (∀ y0_77 : Int32, y0_77 = (if (k_s (((nI 1310) + v3_4)).toNatClampNeg) = (nI 6) then (if (k_s (((nI 1410) + v3_4)).toNatClampNeg) = (f_X12_spotOf p1) then (if (k_s (((nI 1460) + v3_4)).toNatClampNeg) = (f_X12_matterOf p1) then (if (k_stands (v3_4).toNatClampNeg) = 0 then v2_4 else v3_4) else v2_4) else v2_4) else v2_4) → (L_4 y0_77 (v3_4 + (nI 1))))))))
def wl_X12_rulingOf_4 (p1 : Int32) (k_s : Nat → Int32) (k_stands : Nat → Int32) (Q : Int32 → Prop) : Nat → Int32 → Int32 → Prop
  | 0, _, _ => False
  | n + 1, v2_4, v3_4 => wb_X12_rulingOf_4 p1 k_s k_stands Q (wl_X12_rulingOf_4 p1 k_s k_stands Q n) v2_4 v3_4
def wp_X12_rulingOf (p1 : Int32) (k_s : Nat → Int32) (k_stands : Nat → Int32) (Q : Int32 → Prop) : Prop := (∃ n, wl_X12_rulingOf_4 p1 k_s k_stands Q n (-1) (nI 0))
set_option maxHeartbeats 4000000 in
set_option maxRecDepth 100000 in
theorem c_X12_rulingOf {l : Launch} {D : va_G} {cI cZ cJ : ClassId} {h : Nat} {ad : Nat → Nat} {sz : Nat} {k_thrown : Int32} {k_s : Nat → Int32} {k_image : Nat → Int32} {k_hasImage : Int32} {k_steps : Nat → Int32} {k_read : Int32} {k_spot : Int32} {k_isWrong : Int32} {k_open : Int32} {k_act : Int32} {k_letBy : Nat → Int32} {k_letStamp : Nat → Int32} {k_stamp : Int32} {k_fallen : Nat → Int32} {k_held : Nat → Int32} {k_stands : Nat → Int32} {k_falling : Nat → Int32} {k_away : Nat → Int32} {k_round : Nat → Int32} {k_rests : Nat → Int64} {k_may : Nat → Int32} {k_next : Nat → Int32} {k_could : Nat → Int32} {k_couldNight : Nat → Int32} {k_night : Int32} {k_seats : Nat → Int32} {p1 : Int32} {Q : Int32 → Prop} (hw : wp_X12_rulingOf p1 k_s k_stands Q) : Met l yX12_rulingOf (Cond.code yX12_rulingOf cX12_rulingOf 4 (some .int) :: wsG) ({ frames := 1, cells := 0, slots := 0, locals := 20 } : Room) (preW D (tyM cI cZ cJ) (wM cI cZ cJ h ad k_thrown k_s k_image k_hasImage k_steps k_read k_spot k_isWrong k_open k_act k_letBy k_letStamp k_stamp k_fallen k_held k_stands k_falling k_away k_round k_rests k_may k_next k_could k_couldNight k_night k_seats) sz [.ref h, .int p1]) (qi0 D (tyM cI cZ cJ) (va_A (wM cI cZ cJ h ad k_thrown k_s k_image k_hasImage k_steps k_read k_spot k_isWrong k_open k_act k_letBy k_letStamp k_stamp k_fallen k_held k_stands k_falling k_away k_round k_rests k_may k_next k_could k_couldNight k_night k_seats) sz) Q (wM cI cZ cJ h ad k_thrown k_s k_image k_hasImage k_steps k_read k_spot k_isWrong k_open k_act k_letBy k_letStamp k_stamp k_fallen k_held k_stands k_falling k_away k_round k_rests k_may k_next k_could k_couldNight k_night k_seats)) 0 0 (va_A (wM cI cZ cJ h ad k_thrown k_s k_image k_hasImage k_steps k_read k_spot k_isWrong k_open k_act k_letBy k_letStamp k_stamp k_fallen k_held k_stands k_falling k_away k_round k_rests k_may k_next k_could k_couldNight k_night k_seats) sz) := by
  refine st_met (cc := cX12_rulingOf) (maxL := 4) (ret := (some .int)) (lv := [(0, .ref h), (1, .int p1)]) (Qc := fun A => qi0 D (tyM cI cZ cJ) A Q (wM cI cZ cJ h ad k_thrown k_s k_image k_hasImage k_steps k_read k_spot k_isWrong k_open k_act k_letBy k_letStamp k_stamp k_fallen k_held k_stands k_falling k_away k_round k_rests k_may k_next k_could k_couldNight k_night k_seats)) (by decide) rfl (Nat.le_of_ble_eq_true rfl) rfl ?_
  intro p e s m below meth c ls A R args QQ H locs C hr hlk hnm hK hX hsz hl hO hR hQQ
  have hx := C.1
  have hb := C.2.1
  have hown := C.2.2.2.1
  have hts := C.2.2.2.2
  have hin : ∀ w ∈ u_ws RX12 TX12 26, w ∈ (Cond.code yX12_rulingOf cX12_rulingOf 4 (some .int) :: wsG) := fun w h9 => List.mem_cons_of_mem _ (inG12 w h9)
  have lk_s := hts (Cond.fieldLink RX12 7 "FreeCityModel" "s" "[I") (List.mem_cons_of_mem _ qw5_207)
  have lk_stands := hts (Cond.fieldLink RX12 37 "FreeCityModel" "stands" "[Z") (List.mem_cons_of_mem _ qw5_221)
  unfold wp_X12_rulingOf at hw
  refine lv_iconst (v := (-1)) hx hb dX12_rulingOf_0 (by decide) ?_
  refine lv_istore_n (lv' := [(2, .int (-1)), (0, .ref h), (1, .int p1)]) hx hb dX12_rulingOf_1 rfl hl (by decide) rfl (fun ls hl => ?_)
  refine lv_iconst (v := (nI 0)) hx hb dX12_rulingOf_2 (by decide) ?_
  refine lv_istore_n (lv' := [(3, .int (nI 0)), (2, .int (-1)), (0, .ref h), (1, .int p1)]) hx hb dX12_rulingOf_3 rfl hl (by decide) rfl (fun ls hl => ?_)
  obtain ⟨n_4, hw⟩ := hw
  have b_4 : ∀ (L_4 : Int32 → Int32 → Prop) (ih_4 : ∀ (v2_4 : Int32) (v3_4 : Int32) (H : Heap) (locs : List Loc) (ls : Array Slot), okW D A s.heap H locs (wM cI cZ cJ h ad k_thrown k_s k_image k_hasImage k_steps k_read k_spot k_isWrong k_open k_act k_letBy k_letStamp k_stamp k_fallen k_held k_stands k_falling k_away k_round k_rests k_may k_next k_could k_couldNight k_night k_seats) → lv_has ls 4 [(0, .ref h), (1, .int p1), (2, .int v2_4), (3, .int v3_4)] → L_4 v2_4 v3_4 → W p l e R s m args below meth c H locs 0 0 QQ (F0 m 4 ls [])) (v2_4 : Int32) (v3_4 : Int32) (H : Heap) (locs : List Loc) (ls : Array Slot), okW D A s.heap H locs (wM cI cZ cJ h ad k_thrown k_s k_image k_hasImage k_steps k_read k_spot k_isWrong k_open k_act k_letBy k_letStamp k_stamp k_fallen k_held k_stands k_falling k_away k_round k_rests k_may k_next k_could k_couldNight k_night k_seats) → lv_has ls 4 [(0, .ref h), (1, .int p1), (2, .int v2_4), (3, .int v3_4)] → wb_X12_rulingOf_4 p1 k_s k_stands Q L_4 v2_4 v3_4 → W p l e R s m args below meth c H locs 0 0 QQ (F0 m 4 ls []) := by
    intro L_4 ih_4 v2_4 v3_4 H locs ls hO hl hw
    unfold wb_X12_rulingOf_4 at hw
    refine lv_iload_n hx hb dX12_rulingOf_4 rfl (lv_at hl 3 rfl) ?_
    refine lv_aload_n hx hb dX12_rulingOf_5 rfl (lv_at hl 0 rfl) ?_
    refine gM_s C hin hK lk_s hO dX12_rulingOf_6 ?_
    refine lv_iconst (v := (nI 2)) hx hb dX12_rulingOf_9 (by decide) ?_
    refine ldM_s C hK hO (inK 2 6700 (by decide) (by decide)) (clK 2 (by decide)) dX12_rulingOf_10 ?_
    refine lv_icmp_ge (tgt := 84) hx hb dX12_rulingOf_11 (by decide) (fun q_11 => ?_) (fun q_11 => ?_)
    · have hw := hw.1 q_11
      refine lv_iload_n hx hb dX12_rulingOf_84 rfl (lv_at hl 2 rfl) ?_
      exact ri0 hQQ hx hb hr hlk hK hO hw dX12_rulingOf_85
    · have hw := hw.2 q_11
      refine lv_aload_n hx hb dX12_rulingOf_14 rfl (lv_at hl 0 rfl) ?_
      refine gM_s C hin hK lk_s hO dX12_rulingOf_15 ?_
      refine lv_sipush (v := (nI 1310)) hx hb dX12_rulingOf_18 (by decide) ?_
      refine lv_iload_n hx hb dX12_rulingOf_21 rfl (lv_at hl 3 rfl) ?_
      refine lv_iadd hx hb dX12_rulingOf_22 ?_
      obtain ⟨o_23, hw⟩ := hw
      refine ldM_s C hK hO o_23 rfl dX12_rulingOf_23 ?_
      refine lv_bipush (v := (nI 6)) hx hb dX12_rulingOf_24 (by decide) ?_
      obtain ⟨hs, hw⟩ := hw
      have m_77 : ∀ (y0_77 : Int32) (H : Heap) (locs : List Loc) (ls : Array Slot), y0_77 = (if (k_s (((nI 1310) + v3_4)).toNatClampNeg) = (nI 6) then (if (k_s (((nI 1410) + v3_4)).toNatClampNeg) = (f_X12_spotOf p1) then (if (k_s (((nI 1460) + v3_4)).toNatClampNeg) = (f_X12_matterOf p1) then (if (k_stands (v3_4).toNatClampNeg) = 0 then v2_4 else v3_4) else v2_4) else v2_4) else v2_4) → okW D A s.heap H locs (wM cI cZ cJ h ad k_thrown k_s k_image k_hasImage k_steps k_read k_spot k_isWrong k_open k_act k_letBy k_letStamp k_stamp k_fallen k_held k_stands k_falling k_away k_round k_rests k_may k_next k_could k_couldNight k_night k_seats) → lv_has ls 4 [(0, .ref h), (1, .int p1), (3, .int v3_4)] → W p l e R s m args below meth c H locs 0 0 QQ (F0 m 77 ls [.int y0_77]) := by
        intro y0_77 H locs ls ey0_77 hO hl
        have hw := hw y0_77 ey0_77
        refine lv_istore_n (lv' := [(2, .int y0_77), (0, .ref h), (1, .int p1), (3, .int v3_4)]) hx hb dX12_rulingOf_77 rfl hl (by decide) rfl (fun ls hl => ?_)
        refine lv_iinc (v := (v3_4 + (nI 1))) (lv' := [(3, .int (v3_4 + (nI 1))), (2, .int y0_77), (0, .ref h), (1, .int p1)]) hx hb dX12_rulingOf_78 hl (k := 3) rfl (iinc_1 _) (by decide) rfl (fun ls hl => ?_)
        refine lv_goto (tgt := 4) hx hb dX12_rulingOf_81 (by decide) ?_
        exact ih_4 y0_77 (v3_4 + (nI 1)) _ _ _ hO (lv_sub hl [2, 3, 1, 0] rfl) hw
      refine lv_icmp_ne (tgt := 76) hx hb dX12_rulingOf_26 (by decide) (fun q_26 => ?_) (fun q_26 => ?_)
      · refine lv_iload_n hx hb dX12_rulingOf_76 rfl (lv_at hl 2 rfl) ?_
        have hl := lv_sub hl [0, 1, 3] rfl (l' := [(0, .ref h), (1, .int p1), (3, .int v3_4)])
        exact m_77 _ _ _ _ (by rw [if_neg q_26]) hO hl
      · have hs := hs q_26
        obtain ⟨o_38, hs⟩ := hs
        refine lv_aload_n hx hb dX12_rulingOf_29 rfl (lv_at hl 0 rfl) ?_
        refine gM_s C hin hK lk_s hO dX12_rulingOf_30 ?_
        refine lv_sipush (v := (nI 1410)) hx hb dX12_rulingOf_33 (by decide) ?_
        refine lv_iload_n hx hb dX12_rulingOf_36 rfl (lv_at hl 3 rfl) ?_
        refine lv_iadd hx hb dX12_rulingOf_37 ?_
        refine ldM_s C hK hO o_38 rfl dX12_rulingOf_38 ?_
        refine lv_iload_n hx hb dX12_rulingOf_39 rfl (lv_at hl 1 rfl) ?_
        refine cSi0 (As := [.int p1]) (rest := [.int (k_s (((nI 1410) + v3_4)).toNatClampNeg)]) C hK hX hO (c_X12_spotOf (l := l)) (va_cwS 1 hts gd_X12_136 rfl rfl rfl hd_X12_spotOf (rok hR (Nat.le_of_ble_eq_true rfl) (Nat.le_of_ble_eq_true rfl))) rfl hl.1 rfl (Nat.le_of_ble_eq_true rfl) dX12_rulingOf_40 ⟨Nat.zero_le _, Nat.zero_le _⟩ (fun r_40 H locs e_40 hO => ?_)
        subst e_40
        refine lv_icmp_ne (tgt := 76) hx hb dX12_rulingOf_43 (by decide) (fun q_43 => ?_) (fun q_43 => ?_)
        · refine lv_iload_n hx hb dX12_rulingOf_76 rfl (lv_at hl 2 rfl) ?_
          have hl := lv_sub hl [0, 1, 3] rfl (l' := [(0, .ref h), (1, .int p1), (3, .int v3_4)])
          exact m_77 _ _ _ _ (by rw [if_pos q_26, if_neg q_43]) hO hl
        · have hs := hs q_43
          obtain ⟨o_55, hs⟩ := hs
          refine lv_aload_n hx hb dX12_rulingOf_46 rfl (lv_at hl 0 rfl) ?_
          refine gM_s C hin hK lk_s hO dX12_rulingOf_47 ?_
          refine lv_sipush (v := (nI 1460)) hx hb dX12_rulingOf_50 (by decide) ?_
          refine lv_iload_n hx hb dX12_rulingOf_53 rfl (lv_at hl 3 rfl) ?_
          refine lv_iadd hx hb dX12_rulingOf_54 ?_
          refine ldM_s C hK hO o_55 rfl dX12_rulingOf_55 ?_
          refine lv_iload_n hx hb dX12_rulingOf_56 rfl (lv_at hl 1 rfl) ?_
          refine cSi0 (As := [.int p1]) (rest := [.int (k_s (((nI 1460) + v3_4)).toNatClampNeg)]) C hK hX hO (c_X12_matterOf (l := l)) (va_cwS 1 hts gd_X12_139 rfl rfl rfl hd_X12_matterOf (rok hR (Nat.le_of_ble_eq_true rfl) (Nat.le_of_ble_eq_true rfl))) rfl hl.1 rfl (Nat.le_of_ble_eq_true rfl) dX12_rulingOf_57 ⟨Nat.zero_le _, Nat.zero_le _⟩ (fun r_57 H locs e_57 hO => ?_)
          subst e_57
          refine lv_icmp_ne (tgt := 76) hx hb dX12_rulingOf_60 (by decide) (fun q_60 => ?_) (fun q_60 => ?_)
          · refine lv_iload_n hx hb dX12_rulingOf_76 rfl (lv_at hl 2 rfl) ?_
            have hl := lv_sub hl [0, 1, 3] rfl (l' := [(0, .ref h), (1, .int p1), (3, .int v3_4)])
            exact m_77 _ _ _ _ (by rw [if_pos q_26, if_pos q_43, if_neg q_60]) hO hl
          · have hs := hs q_60
            have o_68 := hs
            refine lv_aload_n hx hb dX12_rulingOf_63 rfl (lv_at hl 0 rfl) ?_
            refine gM_stands C hin hK lk_stands hO dX12_rulingOf_64 ?_
            refine lv_iload_n hx hb dX12_rulingOf_67 rfl (lv_at hl 3 rfl) ?_
            refine ldM_stands C hK hO o_68 rfl dX12_rulingOf_68 ?_
            refine lv_if_eq (tgt := 76) hx hb dX12_rulingOf_69 (by decide) (fun q_69 => ?_) (fun q_69 => ?_)
            · refine lv_iload_n hx hb dX12_rulingOf_76 rfl (lv_at hl 2 rfl) ?_
              have hl := lv_sub hl [0, 1, 3] rfl (l' := [(0, .ref h), (1, .int p1), (3, .int v3_4)])
              exact m_77 _ _ _ _ (by rw [if_pos q_26, if_pos q_43, if_pos q_60, if_pos q_69]) hO hl
            · refine lv_iload_n hx hb dX12_rulingOf_72 rfl (lv_at hl 3 rfl) ?_
              refine lv_goto (tgt := 77) hx hb dX12_rulingOf_73 (by decide) ?_
              have hl := lv_sub hl [0, 1, 3] rfl (l' := [(0, .ref h), (1, .int p1), (3, .int v3_4)])
              exact m_77 _ _ _ _ (by rw [if_pos q_26, if_pos q_43, if_pos q_60, if_neg q_69]) hO hl
  have l_4 : ∀ (n : Nat) (v2_4 : Int32) (v3_4 : Int32) (H : Heap) (locs : List Loc) (ls : Array Slot), okW D A s.heap H locs (wM cI cZ cJ h ad k_thrown k_s k_image k_hasImage k_steps k_read k_spot k_isWrong k_open k_act k_letBy k_letStamp k_stamp k_fallen k_held k_stands k_falling k_away k_round k_rests k_may k_next k_could k_couldNight k_night k_seats) → lv_has ls 4 [(0, .ref h), (1, .int p1), (2, .int v2_4), (3, .int v3_4)] → wl_X12_rulingOf_4 p1 k_s k_stands Q n v2_4 v3_4 → W p l e R s m args below meth c H locs 0 0 QQ (F0 m 4 ls []) := by
    intro n
    induction n with
    | zero => intro v2_4 v3_4 H locs ls hO hl hw; exact False.elim hw
    | succ n ih => exact b_4 _ ih
  exact l_4 n_4 (-1) (nI 0) _ _ _ hO (lv_sub hl [2, 3, 1, 0] rfl) hw
