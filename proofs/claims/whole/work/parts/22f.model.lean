def wb_X12_appeal_84 (p1 : Int32) (p2 : Int32) (p3 : Int32) (k_s : Nat → Int32) (Q : Int32 → (Nat → Int32) → (Nat → Int32) → (Nat → Int32) → (Nat → Int32) → Prop) (fallen_35 : Nat → Int32) (held_35 : Nat → Int32) (stands_35 : Nat → Int32) (L_84 : Int32 → Int32 → Prop) (v4_84 : Int32) (v5_84 : Int32) : Prop := (((k_s 2) ≤ v5_84 → ((¬ v4_84 = 0 → ((¬ (k_s 2) = (nI 50) → (vp_in ((nI 1410) + p1) 6700 ∧ (vp_in ((nI 1460) + p1) 6700 ∧ (vp_in ((nI 1510) + p1) 6700 ∧ (wp_X12_right (nI 7) p2 (k_s (((nI 1410) + p1)).toNatClampNeg) (k_s (((nI 1460) + p1)).toNatClampNeg) (k_s (((nI 1510) + p1)).toNatClampNeg) k_s (fun (r_215 : Int32) (s_215 : Nat → Int32) => (vp_in ((nI 1610) + r_215) 6700 ∧ (vp_in ((nI 1710) + r_215) 6700 ∧ (Q r_215 (upd (upd s_215 ((((nI 1610) + r_215)).toNatClampNeg) p1) ((((nI 1710) + r_215)).toNatClampNeg) p3) fallen_35 held_35 stands_35))))))))) ∧ ((k_s 2) = (nI 50) → (Q (-4) k_s fallen_35 held_35 stands_35)))) ∧ (v4_84 = 0 → (Q (-3) k_s fallen_35 held_35 stands_35)))) ∧ (¬ (k_s 2) ≤ v5_84 → (((¬ v4_84 = 0 → (vp_in ((nI 1310) + v5_84) 6700 ∧ ((k_s (((nI 1310) + v5_84)).toNatClampNeg) = (nI 7) → (vp_in ((nI 1610) + v5_84) 6700 ∧ ((k_s (((nI 1610) + v5_84)).toNatClampNeg) = p1 → (vp_in ((nI 1360) + v5_84) 6700))))))) ∧ (∀ y0_151 : Int32, y0_151 = (if v4_84 = 0 then (nI 0) else (if (k_s (((nI 1310) + v5_84)).toNatClampNeg) = (nI 7) then (if (k_s (((nI 1610) + v5_84)).toNatClampNeg) = p1 then (if (k_s (((nI 1360) + v5_84)).toNatClampNeg) = p2 then (nI 0) else (nI 1)) else (nI 1)) else (nI 1))) → (L_84 y0_151 (v5_84 + (nI 1)))))))
def wl_X12_appeal_84 (p1 : Int32) (p2 : Int32) (p3 : Int32) (k_s : Nat → Int32) (Q : Int32 → (Nat → Int32) → (Nat → Int32) → (Nat → Int32) → (Nat → Int32) → Prop) (fallen_35 : Nat → Int32) (held_35 : Nat → Int32) (stands_35 : Nat → Int32) : Nat → Int32 → Int32 → Prop
  | 0, _, _ => False
  | n + 1, v4_84, v5_84 => wb_X12_appeal_84 p1 p2 p3 k_s Q fallen_35 held_35 stands_35 (wl_X12_appeal_84 p1 p2 p3 k_s Q fallen_35 held_35 stands_35 n) v4_84 v5_84
def wp_X12_appeal (p1 : Int32) (p2 : Int32) (p3 : Int32) (k_s : Nat → Int32) (k_fallen : Nat → Int32) (k_held : Nat → Int32) (k_stands : Nat → Int32) (Q : Int32 → (Nat → Int32) → (Nat → Int32) → (Nat → Int32) → (Nat → Int32) → Prop) : Prop := (ok_X12_isOf k_s p1 (nI 6) ∧ ((((f_X12_isOf k_s p1 (nI 6)) = 0 ∨ (f_X12_in p2 (nI 0) (nI 1)) = 0) → (Q (-1) k_s k_fallen k_held k_stands)) ∧ (¬ (((f_X12_isOf k_s p1 (nI 6)) = 0 ∨ (f_X12_in p2 (nI 0) (nI 1)) = 0)) → ((¬ (f_X12_in p3 (nI 0) (nI 100)) = 0 → (wp_X12_looks k_s k_fallen k_held k_stands (fun (fallen_35 : Nat → Int32) (held_35 : Nat → Int32) (stands_35 : Nat → Int32) => (vp_in p1 50 ∧ ((((fallen_35 (p1).toNatClampNeg) = 0 → (vp_in ((nI 1660) + p1) 6700))) ∧ (∀ y0_79 : Int32, y0_79 = (if (fallen_35 (p1).toNatClampNeg) = 0 then (if (k_s 12) < ((k_s 0) - (k_s (((nI 1660) + p1)).toNatClampNeg)) then (nI 0) else (nI 1)) else (nI 0)) → (∃ n, wl_X12_appeal_84 p1 p2 p3 k_s Q fallen_35 held_35 stands_35 n y0_79 (nI 0)))))))) ∧ ((f_X12_in p3 (nI 0) (nI 100)) = 0 → (Q (-2) k_s k_fallen k_held k_stands))))))
set_option maxHeartbeats 4000000 in
set_option maxRecDepth 100000 in
theorem c_X12_appeal {l : Launch} {D : va_G} {cI cZ cJ : ClassId} {h : Nat} {ad : Nat → Nat} {sz : Nat} {k_thrown : Int32} {k_s : Nat → Int32} {k_image : Nat → Int32} {k_hasImage : Int32} {k_steps : Nat → Int32} {k_read : Int32} {k_spot : Int32} {k_isWrong : Int32} {k_open : Int32} {k_act : Int32} {k_letBy : Nat → Int32} {k_letStamp : Nat → Int32} {k_stamp : Int32} {k_fallen : Nat → Int32} {k_held : Nat → Int32} {k_stands : Nat → Int32} {k_falling : Nat → Int32} {k_away : Nat → Int32} {k_round : Nat → Int32} {k_rests : Nat → Int64} {k_may : Nat → Int32} {k_next : Nat → Int32} {k_could : Nat → Int32} {k_couldNight : Nat → Int32} {k_night : Int32} {k_seats : Nat → Int32} {p1 : Int32} {p2 : Int32} {p3 : Int32} {Q : Int32 → (Nat → Int32) → (Nat → Int32) → (Nat → Int32) → (Nat → Int32) → Prop} (hw : wp_X12_appeal p1 p2 p3 k_s k_fallen k_held k_stands Q) : Met l yX12_appeal (Cond.code yX12_appeal cX12_appeal 6 (some .int) :: wsG) ({ frames := 3, cells := 0, slots := 0, locals := 67 } : Room) (preW D (tyM cI cZ cJ) (wM cI cZ cJ h ad k_thrown k_s k_image k_hasImage k_steps k_read k_spot k_isWrong k_open k_act k_letBy k_letStamp k_stamp k_fallen k_held k_stands k_falling k_away k_round k_rests k_may k_next k_could k_couldNight k_night k_seats) sz [.ref h, .int p1, .int p2, .int p3]) (qi4 D (tyM cI cZ cJ) (va_A (wM cI cZ cJ h ad k_thrown k_s k_image k_hasImage k_steps k_read k_spot k_isWrong k_open k_act k_letBy k_letStamp k_stamp k_fallen k_held k_stands k_falling k_away k_round k_rests k_may k_next k_could k_couldNight k_night k_seats) sz) Q (fun k_s' k_fallen' k_held' k_stands' => (wM cI cZ cJ h ad k_thrown k_s' k_image k_hasImage k_steps k_read k_spot k_isWrong k_open k_act k_letBy k_letStamp k_stamp k_fallen' k_held' k_stands' k_falling k_away k_round k_rests k_may k_next k_could k_couldNight k_night k_seats))) 0 0 (va_A (wM cI cZ cJ h ad k_thrown k_s k_image k_hasImage k_steps k_read k_spot k_isWrong k_open k_act k_letBy k_letStamp k_stamp k_fallen k_held k_stands k_falling k_away k_round k_rests k_may k_next k_could k_couldNight k_night k_seats) sz) := by
  refine st_met (cc := cX12_appeal) (maxL := 6) (ret := (some .int)) (lv := [(0, .ref h), (1, .int p1), (2, .int p2), (3, .int p3)]) (Qc := fun A => qi4 D (tyM cI cZ cJ) A Q (fun k_s' k_fallen' k_held' k_stands' => (wM cI cZ cJ h ad k_thrown k_s' k_image k_hasImage k_steps k_read k_spot k_isWrong k_open k_act k_letBy k_letStamp k_stamp k_fallen' k_held' k_stands' k_falling k_away k_round k_rests k_may k_next k_could k_couldNight k_night k_seats))) (by decide) rfl (Nat.le_of_ble_eq_true rfl) rfl ?_
  intro p e s m below meth c ls A R args QQ H locs C hr hlk hnm hK hX hsz hl hO hR hQQ
  have hx := C.1
  have hb := C.2.1
  have hown := C.2.2.2.1
  have hts := C.2.2.2.2
  have hin : ∀ w ∈ u_ws RX12 TX12 26, w ∈ (Cond.code yX12_appeal cX12_appeal 6 (some .int) :: wsG) := fun w h9 => List.mem_cons_of_mem _ (inG12 w h9)
  have lk_fallen := hts (Cond.fieldLink RX12 31 "FreeCityModel" "fallen" "[Z") (List.mem_cons_of_mem _ qw5_219)
  have lk_s := hts (Cond.fieldLink RX12 7 "FreeCityModel" "s" "[I") (List.mem_cons_of_mem _ qw5_207)
  unfold wp_X12_appeal at hw
  refine lv_aload_n hx hb dX12_appeal_0 rfl (lv_at hl 0 rfl) ?_
  refine lv_iload_n hx hb dX12_appeal_1 rfl (lv_at hl 1 rfl) ?_
  refine lv_bipush (v := (nI 6)) hx hb dX12_appeal_2 (by decide) ?_
  obtain ⟨o_4, hw⟩ := hw
  refine cVi0 (As := [.int p1, .int (nI 6)]) (rest := []) C hK hX hO (c_X12_isOf (l := l) o_4) (cwV 2 hts gd_X12_187 rfl rfl rfl hd_X12_isOf (rok hR (Nat.le_of_ble_eq_true rfl) (Nat.le_of_ble_eq_true rfl))) (ci := 12) (q0 := 0) rfl rfl rfl rfl hl.1 rfl (Nat.le_of_ble_eq_true rfl) dX12_appeal_4 ⟨Nat.zero_le _, Nat.zero_le _⟩ (fun r_4 H locs e_4 hO => ?_)
  subst e_4
  have a_19 : ((f_X12_isOf k_s p1 (nI 6)) = 0 ∨ (f_X12_in p2 (nI 0) (nI 1)) = 0) → ∀ (H : Heap) (locs : List Loc) (ls : Array Slot), okW D A s.heap H locs (wM cI cZ cJ h ad k_thrown k_s k_image k_hasImage k_steps k_read k_spot k_isWrong k_open k_act k_letBy k_letStamp k_stamp k_fallen k_held k_stands k_falling k_away k_round k_rests k_may k_next k_could k_couldNight k_night k_seats) → lv_has ls 6 [] → W p l e R s m args below meth c H locs 0 0 QQ (F0 m 19 ls []) := by
    intro cf H locs ls hO hl
    have hw := hw.1 cf
    refine lv_iconst (v := (-1)) hx hb dX12_appeal_19 (by decide) ?_
    exact ri4 hQQ hx hb hr hlk hK hO hw dX12_appeal_20
  have a_21 : ¬ (((f_X12_isOf k_s p1 (nI 6)) = 0 ∨ (f_X12_in p2 (nI 0) (nI 1)) = 0)) → ∀ (H : Heap) (locs : List Loc) (ls : Array Slot), okW D A s.heap H locs (wM cI cZ cJ h ad k_thrown k_s k_image k_hasImage k_steps k_read k_spot k_isWrong k_open k_act k_letBy k_letStamp k_stamp k_fallen k_held k_stands k_falling k_away k_round k_rests k_may k_next k_could k_couldNight k_night k_seats) → lv_has ls 6 [(0, .ref h), (1, .int p1), (2, .int p2), (3, .int p3)] → W p l e R s m args below meth c H locs 0 0 QQ (F0 m 21 ls []) := by
    intro cf H locs ls hO hl
    have hw := hw.2 cf
    refine lv_iload_n hx hb dX12_appeal_21 rfl (lv_at hl 3 rfl) ?_
    refine lv_iconst (v := (nI 0)) hx hb dX12_appeal_22 (by decide) ?_
    refine lv_bipush (v := (nI 100)) hx hb dX12_appeal_23 (by decide) ?_
    refine cSi0 (As := [.int p3, .int (nI 0), .int (nI 100)]) (rest := []) C hK hX hO (c_X12_in (l := l)) (va_cwS 3 hts gd_X12_74 rfl rfl rfl hd_X12_in (rok hR (Nat.le_of_ble_eq_true rfl) (Nat.le_of_ble_eq_true rfl))) rfl hl.1 rfl (Nat.le_of_ble_eq_true rfl) dX12_appeal_25 ⟨Nat.zero_le _, Nat.zero_le _⟩ (fun r_25 H locs e_25 hO => ?_)
    subst e_25
    refine lv_if_ne (tgt := 34) hx hb dX12_appeal_28 (by decide) (fun q_28 => ?_) (fun q_28 => ?_)
    · have hw := hw.1 q_28
      refine lv_aload_n hx hb dX12_appeal_34 rfl (lv_at hl 0 rfl) ?_
      refine cVv3 (As := []) (rest := []) C hK hX hO (c_X12_looks (l := l) hw) (cwV 0 hts gd_X12_169 rfl rfl rfl hd_X12_looks (rok hR (Nat.le_of_ble_eq_true rfl) (Nat.le_of_ble_eq_true rfl))) (ci := 12) (q0 := 0) rfl rfl rfl rfl hl.1 rfl (Nat.le_of_ble_eq_true rfl) dX12_appeal_35 ⟨Nat.zero_le _, Nat.zero_le _⟩ (fun fallen_35 held_35 stands_35 H locs hw hO => ?_)
      refine lv_aload_n hx hb dX12_appeal_38 rfl (lv_at hl 0 rfl) ?_
      refine gM_fallen C hin hK lk_fallen hO dX12_appeal_39 ?_
      refine lv_iload_n hx hb dX12_appeal_42 rfl (lv_at hl 1 rfl) ?_
      obtain ⟨o_43, hw⟩ := hw
      refine ldM_fallen C hK hO o_43 rfl dX12_appeal_43 ?_
      obtain ⟨hs, hw⟩ := hw
      have m_79 : ∀ (y0_79 : Int32) (H : Heap) (locs : List Loc) (ls : Array Slot), y0_79 = (if (fallen_35 (p1).toNatClampNeg) = 0 then (if (k_s 12) < ((k_s 0) - (k_s (((nI 1660) + p1)).toNatClampNeg)) then (nI 0) else (nI 1)) else (nI 0)) → okW D A s.heap H locs (wM cI cZ cJ h ad k_thrown k_s k_image k_hasImage k_steps k_read k_spot k_isWrong k_open k_act k_letBy k_letStamp k_stamp fallen_35 held_35 stands_35 k_falling k_away k_round k_rests k_may k_next k_could k_couldNight k_night k_seats) → lv_has ls 6 [(0, .ref h), (1, .int p1), (2, .int p2), (3, .int p3)] → W p l e R s m args below meth c H locs 0 0 QQ (F0 m 79 ls [.int y0_79]) := by
        intro y0_79 H locs ls ey0_79 hO hl
        have hw := hw y0_79 ey0_79
        refine lv_istore (lv' := [(4, .int y0_79), (0, .ref h), (1, .int p1), (2, .int p2), (3, .int p3)]) hx hb dX12_appeal_79 hl (by decide) rfl (fun ls hl => ?_)
        refine lv_iconst (v := (nI 0)) hx hb dX12_appeal_81 (by decide) ?_
        refine lv_istore (lv' := [(5, .int (nI 0)), (4, .int y0_79), (0, .ref h), (1, .int p1), (2, .int p2), (3, .int p3)]) hx hb dX12_appeal_82 hl (by decide) rfl (fun ls hl => ?_)
        obtain ⟨n_84, hw⟩ := hw
        have b_84 : ∀ (L_84 : Int32 → Int32 → Prop) (ih_84 : ∀ (v4_84 : Int32) (v5_84 : Int32) (H : Heap) (locs : List Loc) (ls : Array Slot), okW D A s.heap H locs (wM cI cZ cJ h ad k_thrown k_s k_image k_hasImage k_steps k_read k_spot k_isWrong k_open k_act k_letBy k_letStamp k_stamp fallen_35 held_35 stands_35 k_falling k_away k_round k_rests k_may k_next k_could k_couldNight k_night k_seats) → lv_has ls 6 [(0, .ref h), (1, .int p1), (2, .int p2), (3, .int p3), (4, .int v4_84), (5, .int v5_84)] → L_84 v4_84 v5_84 → W p l e R s m args below meth c H locs 0 0 QQ (F0 m 84 ls [])) (v4_84 : Int32) (v5_84 : Int32) (H : Heap) (locs : List Loc) (ls : Array Slot), okW D A s.heap H locs (wM cI cZ cJ h ad k_thrown k_s k_image k_hasImage k_steps k_read k_spot k_isWrong k_open k_act k_letBy k_letStamp k_stamp fallen_35 held_35 stands_35 k_falling k_away k_round k_rests k_may k_next k_could k_couldNight k_night k_seats) → lv_has ls 6 [(0, .ref h), (1, .int p1), (2, .int p2), (3, .int p3), (4, .int v4_84), (5, .int v5_84)] → wb_X12_appeal_84 p1 p2 p3 k_s Q fallen_35 held_35 stands_35 L_84 v4_84 v5_84 → W p l e R s m args below meth c H locs 0 0 QQ (F0 m 84 ls []) := by
          intro L_84 ih_84 v4_84 v5_84 H locs ls hO hl hw
          unfold wb_X12_appeal_84 at hw
          refine lv_iload hx hb dX12_appeal_84 (lv_at hl 5 rfl) ?_
          refine lv_aload_n hx hb dX12_appeal_86 rfl (lv_at hl 0 rfl) ?_
          refine gM_s C hin hK lk_s hO dX12_appeal_87 ?_
          refine lv_iconst (v := (nI 2)) hx hb dX12_appeal_90 (by decide) ?_
          refine ldM_s C hK hO (inK 2 6700 (by decide) (by decide)) (clK 2 (by decide)) dX12_appeal_91 ?_
          refine lv_icmp_ge (tgt := 159) hx hb dX12_appeal_92 (by decide) (fun q_92 => ?_) (fun q_92 => ?_)
          · have hw := hw.1 q_92
            refine lv_iload hx hb dX12_appeal_159 (lv_at hl 4 rfl) ?_
            refine lv_if_ne (tgt := 167) hx hb dX12_appeal_161 (by decide) (fun q_161 => ?_) (fun q_161 => ?_)
            · have hw := hw.1 q_161
              refine lv_aload_n hx hb dX12_appeal_167 rfl (lv_at hl 0 rfl) ?_
              refine gM_s C hin hK lk_s hO dX12_appeal_168 ?_
              refine lv_iconst (v := (nI 2)) hx hb dX12_appeal_171 (by decide) ?_
              refine ldM_s C hK hO (inK 2 6700 (by decide) (by decide)) (clK 2 (by decide)) dX12_appeal_172 ?_
              refine lv_bipush (v := (nI 50)) hx hb dX12_appeal_173 (by decide) ?_
              refine lv_icmp_ne (tgt := 181) hx hb dX12_appeal_175 (by decide) (fun q_175 => ?_) (fun q_175 => ?_)
              · have hw := hw.1 q_175
                refine lv_aload_n hx hb dX12_appeal_181 rfl (lv_at hl 0 rfl) ?_
                refine lv_bipush (v := (nI 7)) hx hb dX12_appeal_182 (by decide) ?_
                refine lv_iload_n hx hb dX12_appeal_184 rfl (lv_at hl 2 rfl) ?_
                refine lv_aload_n hx hb dX12_appeal_185 rfl (lv_at hl 0 rfl) ?_
                refine gM_s C hin hK lk_s hO dX12_appeal_186 ?_
                refine lv_sipush (v := (nI 1410)) hx hb dX12_appeal_189 (by decide) ?_
                refine lv_iload_n hx hb dX12_appeal_192 rfl (lv_at hl 1 rfl) ?_
                refine lv_iadd hx hb dX12_appeal_193 ?_
                obtain ⟨o_194, hw⟩ := hw
                refine ldM_s C hK hO o_194 rfl dX12_appeal_194 ?_
                refine lv_aload_n hx hb dX12_appeal_195 rfl (lv_at hl 0 rfl) ?_
                refine gM_s C hin hK lk_s hO dX12_appeal_196 ?_
                refine lv_sipush (v := (nI 1460)) hx hb dX12_appeal_199 (by decide) ?_
                refine lv_iload_n hx hb dX12_appeal_202 rfl (lv_at hl 1 rfl) ?_
                refine lv_iadd hx hb dX12_appeal_203 ?_
                obtain ⟨o_204, hw⟩ := hw
                refine ldM_s C hK hO o_204 rfl dX12_appeal_204 ?_
                refine lv_aload_n hx hb dX12_appeal_205 rfl (lv_at hl 0 rfl) ?_
                refine gM_s C hin hK lk_s hO dX12_appeal_206 ?_
                refine lv_sipush (v := (nI 1510)) hx hb dX12_appeal_209 (by decide) ?_
                refine lv_iload_n hx hb dX12_appeal_212 rfl (lv_at hl 1 rfl) ?_
                refine lv_iadd hx hb dX12_appeal_213 ?_
                obtain ⟨o_214, hw⟩ := hw
                refine ldM_s C hK hO o_214 rfl dX12_appeal_214 ?_
                refine cVi1 (As := [.int (nI 7), .int p2, .int (k_s (((nI 1410) + p1)).toNatClampNeg), .int (k_s (((nI 1460) + p1)).toNatClampNeg), .int (k_s (((nI 1510) + p1)).toNatClampNeg)]) (rest := []) C hK hX hO (c_X12_right (l := l) hw) (cwV 5 hts gd_X12_183 rfl rfl rfl hd_X12_right (rok hR (Nat.le_of_ble_eq_true rfl) (Nat.le_of_ble_eq_true rfl))) (ci := 12) (q0 := 0) rfl rfl rfl rfl hl.1 rfl (Nat.le_of_ble_eq_true rfl) dX12_appeal_215 ⟨Nat.zero_le _, Nat.zero_le _⟩ (fun r_215 s_215 H locs hw hO => ?_)
                refine lv_istore (lv' := [(5, .int r_215), (0, .ref h), (1, .int p1), (2, .int p2), (3, .int p3), (4, .int v4_84)]) hx hb dX12_appeal_218 hl (by decide) rfl (fun ls hl => ?_)
                refine lv_aload_n hx hb dX12_appeal_220 rfl (lv_at hl 1 rfl) ?_
                refine gM_s C hin hK lk_s hO dX12_appeal_221 ?_
                refine lv_sipush (v := (nI 1610)) hx hb dX12_appeal_224 (by decide) ?_
                refine lv_iload hx hb dX12_appeal_227 (lv_at hl 0 rfl) ?_
                refine lv_iadd hx hb dX12_appeal_229 ?_
                refine lv_iload_n hx hb dX12_appeal_230 rfl (lv_at hl 2 rfl) ?_
                obtain ⟨o_231, hw⟩ := hw
                refine stM_s C hK hO o_231 rfl dX12_appeal_231 (fun H locs hO => ?_)
                refine lv_aload_n hx hb dX12_appeal_232 rfl (lv_at hl 1 rfl) ?_
                refine gM_s C hin hK lk_s hO dX12_appeal_233 ?_
                refine lv_sipush (v := (nI 1710)) hx hb dX12_appeal_236 (by decide) ?_
                refine lv_iload hx hb dX12_appeal_239 (lv_at hl 0 rfl) ?_
                refine lv_iadd hx hb dX12_appeal_241 ?_
                refine lv_iload_n hx hb dX12_appeal_242 rfl (lv_at hl 4 rfl) ?_
                obtain ⟨o_243, hw⟩ := hw
                refine stM_s C hK hO o_243 rfl dX12_appeal_243 (fun H locs hO => ?_)
                refine lv_iload hx hb dX12_appeal_244 (lv_at hl 0 rfl) ?_
                exact ri4 hQQ hx hb hr hlk hK hO hw dX12_appeal_246
              · have hw := hw.2 q_175
                refine lv_bipush (v := (-4)) hx hb dX12_appeal_178 (by decide) ?_
                exact ri4 hQQ hx hb hr hlk hK hO hw dX12_appeal_180
            · have hw := hw.2 q_161
              refine lv_bipush (v := (-3)) hx hb dX12_appeal_164 (by decide) ?_
              exact ri4 hQQ hx hb hr hlk hK hO hw dX12_appeal_166
          · have hw := hw.2 q_92
            refine lv_iload hx hb dX12_appeal_95 (lv_at hl 4 rfl) ?_
            obtain ⟨hs, hw⟩ := hw
            have m_151 : ∀ (y0_151 : Int32) (H : Heap) (locs : List Loc) (ls : Array Slot), y0_151 = (if v4_84 = 0 then (nI 0) else (if (k_s (((nI 1310) + v5_84)).toNatClampNeg) = (nI 7) then (if (k_s (((nI 1610) + v5_84)).toNatClampNeg) = p1 then (if (k_s (((nI 1360) + v5_84)).toNatClampNeg) = p2 then (nI 0) else (nI 1)) else (nI 1)) else (nI 1))) → okW D A s.heap H locs (wM cI cZ cJ h ad k_thrown k_s k_image k_hasImage k_steps k_read k_spot k_isWrong k_open k_act k_letBy k_letStamp k_stamp fallen_35 held_35 stands_35 k_falling k_away k_round k_rests k_may k_next k_could k_couldNight k_night k_seats) → lv_has ls 6 [(0, .ref h), (1, .int p1), (2, .int p2), (3, .int p3), (5, .int v5_84)] → W p l e R s m args below meth c H locs 0 0 QQ (F0 m 151 ls [.int y0_151]) := by
              intro y0_151 H locs ls ey0_151 hO hl
              have hw := hw y0_151 ey0_151
              refine lv_istore (lv' := [(4, .int y0_151), (0, .ref h), (1, .int p1), (2, .int p2), (3, .int p3), (5, .int v5_84)]) hx hb dX12_appeal_151 hl (by decide) rfl (fun ls hl => ?_)
              refine lv_iinc (v := (v5_84 + (nI 1))) (lv' := [(5, .int (v5_84 + (nI 1))), (4, .int y0_151), (0, .ref h), (1, .int p1), (2, .int p2), (3, .int p3)]) hx hb dX12_appeal_153 hl (k := 5) rfl (iinc_1 _) (by decide) rfl (fun ls hl => ?_)
              refine lv_goto (tgt := 84) hx hb dX12_appeal_156 (by decide) ?_
              exact ih_84 y0_151 (v5_84 + (nI 1)) _ _ _ hO (lv_sub hl [2, 3, 4, 5, 1, 0] rfl) hw
            refine lv_if_eq (tgt := 150) hx hb dX12_appeal_97 (by decide) (fun q_97 => ?_) (fun q_97 => ?_)
            · refine lv_iconst (v := (nI 0)) hx hb dX12_appeal_150 (by decide) ?_
              have hl := lv_sub hl [0, 1, 2, 3, 5] rfl (l' := [(0, .ref h), (1, .int p1), (2, .int p2), (3, .int p3), (5, .int v5_84)])
              exact m_151 _ _ _ _ (by rw [if_pos q_97]) hO hl
            · have hs := hs q_97
              obtain ⟨o_110, hs⟩ := hs
              refine lv_aload_n hx hb dX12_appeal_100 rfl (lv_at hl 0 rfl) ?_
              refine gM_s C hin hK lk_s hO dX12_appeal_101 ?_
              refine lv_sipush (v := (nI 1310)) hx hb dX12_appeal_104 (by decide) ?_
              refine lv_iload hx hb dX12_appeal_107 (lv_at hl 5 rfl) ?_
              refine lv_iadd hx hb dX12_appeal_109 ?_
              refine ldM_s C hK hO o_110 rfl dX12_appeal_110 ?_
              refine lv_bipush (v := (nI 7)) hx hb dX12_appeal_111 (by decide) ?_
              refine lv_icmp_ne (tgt := 146) hx hb dX12_appeal_113 (by decide) (fun q_113 => ?_) (fun q_113 => ?_)
              · refine lv_iconst (v := (nI 1)) hx hb dX12_appeal_146 (by decide) ?_
                refine lv_goto (tgt := 151) hx hb dX12_appeal_147 (by decide) ?_
                have hl := lv_sub hl [0, 1, 2, 3, 5] rfl (l' := [(0, .ref h), (1, .int p1), (2, .int p2), (3, .int p3), (5, .int v5_84)])
                exact m_151 _ _ _ _ (by rw [if_neg q_97, if_neg q_113]) hO hl
              · have hs := hs q_113
                obtain ⟨o_126, hs⟩ := hs
                refine lv_aload_n hx hb dX12_appeal_116 rfl (lv_at hl 0 rfl) ?_
                refine gM_s C hin hK lk_s hO dX12_appeal_117 ?_
                refine lv_sipush (v := (nI 1610)) hx hb dX12_appeal_120 (by decide) ?_
                refine lv_iload hx hb dX12_appeal_123 (lv_at hl 5 rfl) ?_
                refine lv_iadd hx hb dX12_appeal_125 ?_
                refine ldM_s C hK hO o_126 rfl dX12_appeal_126 ?_
                refine lv_iload_n hx hb dX12_appeal_127 rfl (lv_at hl 1 rfl) ?_
                refine lv_icmp_ne (tgt := 146) hx hb dX12_appeal_128 (by decide) (fun q_128 => ?_) (fun q_128 => ?_)
                · refine lv_iconst (v := (nI 1)) hx hb dX12_appeal_146 (by decide) ?_
                  refine lv_goto (tgt := 151) hx hb dX12_appeal_147 (by decide) ?_
                  have hl := lv_sub hl [0, 1, 2, 3, 5] rfl (l' := [(0, .ref h), (1, .int p1), (2, .int p2), (3, .int p3), (5, .int v5_84)])
                  exact m_151 _ _ _ _ (by rw [if_neg q_97, if_pos q_113, if_neg q_128]) hO hl
                · have hs := hs q_128
                  have o_141 := hs
                  refine lv_aload_n hx hb dX12_appeal_131 rfl (lv_at hl 0 rfl) ?_
                  refine gM_s C hin hK lk_s hO dX12_appeal_132 ?_
                  refine lv_sipush (v := (nI 1360)) hx hb dX12_appeal_135 (by decide) ?_
                  refine lv_iload hx hb dX12_appeal_138 (lv_at hl 5 rfl) ?_
                  refine lv_iadd hx hb dX12_appeal_140 ?_
                  refine ldM_s C hK hO o_141 rfl dX12_appeal_141 ?_
                  refine lv_iload_n hx hb dX12_appeal_142 rfl (lv_at hl 2 rfl) ?_
                  refine lv_icmp_eq (tgt := 150) hx hb dX12_appeal_143 (by decide) (fun q_143 => ?_) (fun q_143 => ?_)
                  · refine lv_iconst (v := (nI 0)) hx hb dX12_appeal_150 (by decide) ?_
                    have hl := lv_sub hl [0, 1, 2, 3, 5] rfl (l' := [(0, .ref h), (1, .int p1), (2, .int p2), (3, .int p3), (5, .int v5_84)])
                    exact m_151 _ _ _ _ (by rw [if_neg q_97, if_pos q_113, if_pos q_128, if_pos q_143]) hO hl
                  · refine lv_iconst (v := (nI 1)) hx hb dX12_appeal_146 (by decide) ?_
                    refine lv_goto (tgt := 151) hx hb dX12_appeal_147 (by decide) ?_
                    have hl := lv_sub hl [0, 1, 2, 3, 5] rfl (l' := [(0, .ref h), (1, .int p1), (2, .int p2), (3, .int p3), (5, .int v5_84)])
                    exact m_151 _ _ _ _ (by rw [if_neg q_97, if_pos q_113, if_pos q_128, if_neg q_143]) hO hl
        have l_84 : ∀ (n : Nat) (v4_84 : Int32) (v5_84 : Int32) (H : Heap) (locs : List Loc) (ls : Array Slot), okW D A s.heap H locs (wM cI cZ cJ h ad k_thrown k_s k_image k_hasImage k_steps k_read k_spot k_isWrong k_open k_act k_letBy k_letStamp k_stamp fallen_35 held_35 stands_35 k_falling k_away k_round k_rests k_may k_next k_could k_couldNight k_night k_seats) → lv_has ls 6 [(0, .ref h), (1, .int p1), (2, .int p2), (3, .int p3), (4, .int v4_84), (5, .int v5_84)] → wl_X12_appeal_84 p1 p2 p3 k_s Q fallen_35 held_35 stands_35 n v4_84 v5_84 → W p l e R s m args below meth c H locs 0 0 QQ (F0 m 84 ls []) := by
          intro n
          induction n with
          | zero => intro v4_84 v5_84 H locs ls hO hl hw; exact False.elim hw
          | succ n ih => exact b_84 _ ih
        exact l_84 n_84 y0_79 (nI 0) _ _ _ hO (lv_sub hl [2, 3, 4, 5, 1, 0] rfl) hw
      refine lv_if_ne (tgt := 78) hx hb dX12_appeal_44 (by decide) (fun q_44 => ?_) (fun q_44 => ?_)
      · refine lv_iconst (v := (nI 0)) hx hb dX12_appeal_78 (by decide) ?_
        have hl := lv_sub hl [0, 1, 2, 3] rfl (l' := [(0, .ref h), (1, .int p1), (2, .int p2), (3, .int p3)])
        exact m_79 _ _ _ _ (by rw [if_neg q_44]) hO hl
      · have hs := hs q_44
        have o_62 := hs
        refine lv_aload_n hx hb dX12_appeal_47 rfl (lv_at hl 0 rfl) ?_
        refine gM_s C hin hK lk_s hO dX12_appeal_48 ?_
        refine lv_iconst (v := (nI 0)) hx hb dX12_appeal_51 (by decide) ?_
        refine ldM_s C hK hO (inK 0 6700 (by decide) (by decide)) (clK 0 (by decide)) dX12_appeal_52 ?_
        refine lv_aload_n hx hb dX12_appeal_53 rfl (lv_at hl 0 rfl) ?_
        refine gM_s C hin hK lk_s hO dX12_appeal_54 ?_
        refine lv_sipush (v := (nI 1660)) hx hb dX12_appeal_57 (by decide) ?_
        refine lv_iload_n hx hb dX12_appeal_60 rfl (lv_at hl 1 rfl) ?_
        refine lv_iadd hx hb dX12_appeal_61 ?_
        refine ldM_s C hK hO o_62 rfl dX12_appeal_62 ?_
        refine lv_isub hx hb dX12_appeal_63 ?_
        refine lv_aload_n hx hb dX12_appeal_64 rfl (lv_at hl 0 rfl) ?_
        refine gM_s C hin hK lk_s hO dX12_appeal_65 ?_
        refine lv_bipush (v := (nI 12)) hx hb dX12_appeal_68 (by decide) ?_
        refine ldM_s C hK hO (inK 12 6700 (by decide) (by decide)) (clK 12 (by decide)) dX12_appeal_70 ?_
        refine lv_icmp_gt (tgt := 78) hx hb dX12_appeal_71 (by decide) (fun q_71 => ?_) (fun q_71 => ?_)
        · refine lv_iconst (v := (nI 0)) hx hb dX12_appeal_78 (by decide) ?_
          have hl := lv_sub hl [0, 1, 2, 3] rfl (l' := [(0, .ref h), (1, .int p1), (2, .int p2), (3, .int p3)])
          exact m_79 _ _ _ _ (by rw [if_pos q_44, if_pos q_71]) hO hl
        · refine lv_iconst (v := (nI 1)) hx hb dX12_appeal_74 (by decide) ?_
          refine lv_goto (tgt := 79) hx hb dX12_appeal_75 (by decide) ?_
          have hl := lv_sub hl [0, 1, 2, 3] rfl (l' := [(0, .ref h), (1, .int p1), (2, .int p2), (3, .int p3)])
          exact m_79 _ _ _ _ (by rw [if_pos q_44, if_neg q_71]) hO hl
    · have hw := hw.2 q_28
      refine lv_bipush (v := (-2)) hx hb dX12_appeal_31 (by decide) ?_
      exact ri4 hQQ hx hb hr hlk hK hO hw dX12_appeal_33
  refine lv_if_eq (tgt := 19) hx hb dX12_appeal_7 (by decide) (fun q_7 => ?_) (fun q_7 => ?_)
  · have hl := lv_sub hl [] rfl (l' := [])
    exact a_19 (Or.inl q_7) _ _ _ hO hl
  · refine lv_iload_n hx hb dX12_appeal_10 rfl (lv_at hl 2 rfl) ?_
    refine lv_iconst (v := (nI 0)) hx hb dX12_appeal_11 (by decide) ?_
    refine lv_iconst (v := (nI 1)) hx hb dX12_appeal_12 (by decide) ?_
    refine cSi0 (As := [.int p2, .int (nI 0), .int (nI 1)]) (rest := []) C hK hX hO (c_X12_in (l := l)) (va_cwS 3 hts gd_X12_74 rfl rfl rfl hd_X12_in (rok hR (Nat.le_of_ble_eq_true rfl) (Nat.le_of_ble_eq_true rfl))) rfl hl.1 rfl (Nat.le_of_ble_eq_true rfl) dX12_appeal_13 ⟨Nat.zero_le _, Nat.zero_le _⟩ (fun r_13 H locs e_13 hO => ?_)
    subst e_13
    refine lv_if_ne (tgt := 21) hx hb dX12_appeal_16 (by decide) (fun q_16 => ?_) (fun q_16 => ?_)
    · have hl := lv_sub hl [0, 1, 2, 3] rfl (l' := [(0, .ref h), (1, .int p1), (2, .int p2), (3, .int p3)])
      exact a_21 (fun h => h.elim q_7 q_16) _ _ _ hO hl
    · have hl := lv_sub hl [] rfl (l' := [])
      exact a_19 (Or.inr q_16) _ _ _ hO hl
def wk_X12_term_41 (p1 : Int32) (p2 : Int32) (k_s : Nat → Int32) (Q : Int32 → (Nat → Int32) → Prop)  : Prop := (∀ y0_52 : Int32, y0_52 = (if p1 = 0 then (nI 12) else (nI 13)) → (vp_in y0_52 6700 ∧ (vp_in y0_52 6700 ∧ (Q (k_s (y0_52).toNatClampNeg) (upd k_s ((y0_52).toNatClampNeg) p2)))))
def wp_X12_term (p1 : Int32) (p2 : Int32) (k_s : Nat → Int32) (Q : Int32 → (Nat → Int32) → Prop) : Prop := ((¬ (f_X12_in p1 (nI 0) (nI 1)) = 0 → ((¬ p1 = 0 → ((¬ (f_X12_in p2 (nI 1) (nI 20)) = 0 → (wk_X12_term_41 p1 p2 k_s Q)) ∧ ((f_X12_in p2 (nI 1) (nI 20)) = 0 → (Q (-2) k_s)))) ∧ (p1 = 0 → ((¬ (f_X12_in p2 (nI 0) (nI 99)) = 0 → (wk_X12_term_41 p1 p2 k_s Q)) ∧ ((f_X12_in p2 (nI 0) (nI 99)) = 0 → (Q (-2) k_s)))))) ∧ ((f_X12_in p1 (nI 0) (nI 1)) = 0 → (Q (-1) k_s)))
set_option maxHeartbeats 4000000 in
set_option maxRecDepth 100000 in
theorem c_X12_term {l : Launch} {D : va_G} {cI cZ cJ : ClassId} {h : Nat} {ad : Nat → Nat} {sz : Nat} {k_thrown : Int32} {k_s : Nat → Int32} {k_image : Nat → Int32} {k_hasImage : Int32} {k_steps : Nat → Int32} {k_read : Int32} {k_spot : Int32} {k_isWrong : Int32} {k_open : Int32} {k_act : Int32} {k_letBy : Nat → Int32} {k_letStamp : Nat → Int32} {k_stamp : Int32} {k_fallen : Nat → Int32} {k_held : Nat → Int32} {k_stands : Nat → Int32} {k_falling : Nat → Int32} {k_away : Nat → Int32} {k_round : Nat → Int32} {k_rests : Nat → Int64} {k_may : Nat → Int32} {k_next : Nat → Int32} {k_could : Nat → Int32} {k_couldNight : Nat → Int32} {k_night : Int32} {k_seats : Nat → Int32} {p1 : Int32} {p2 : Int32} {Q : Int32 → (Nat → Int32) → Prop} (hw : wp_X12_term p1 p2 k_s Q) : Met l yX12_term (Cond.code yX12_term cX12_term 5 (some .int) :: wsG) ({ frames := 1, cells := 0, slots := 0, locals := 22 } : Room) (preW D (tyM cI cZ cJ) (wM cI cZ cJ h ad k_thrown k_s k_image k_hasImage k_steps k_read k_spot k_isWrong k_open k_act k_letBy k_letStamp k_stamp k_fallen k_held k_stands k_falling k_away k_round k_rests k_may k_next k_could k_couldNight k_night k_seats) sz [.ref h, .int p1, .int p2]) (qi1 D (tyM cI cZ cJ) (va_A (wM cI cZ cJ h ad k_thrown k_s k_image k_hasImage k_steps k_read k_spot k_isWrong k_open k_act k_letBy k_letStamp k_stamp k_fallen k_held k_stands k_falling k_away k_round k_rests k_may k_next k_could k_couldNight k_night k_seats) sz) Q (fun k_s' => (wM cI cZ cJ h ad k_thrown k_s' k_image k_hasImage k_steps k_read k_spot k_isWrong k_open k_act k_letBy k_letStamp k_stamp k_fallen k_held k_stands k_falling k_away k_round k_rests k_may k_next k_could k_couldNight k_night k_seats))) 0 0 (va_A (wM cI cZ cJ h ad k_thrown k_s k_image k_hasImage k_steps k_read k_spot k_isWrong k_open k_act k_letBy k_letStamp k_stamp k_fallen k_held k_stands k_falling k_away k_round k_rests k_may k_next k_could k_couldNight k_night k_seats) sz) := by
  refine st_met (cc := cX12_term) (maxL := 5) (ret := (some .int)) (lv := [(0, .ref h), (1, .int p1), (2, .int p2)]) (Qc := fun A => qi1 D (tyM cI cZ cJ) A Q (fun k_s' => (wM cI cZ cJ h ad k_thrown k_s' k_image k_hasImage k_steps k_read k_spot k_isWrong k_open k_act k_letBy k_letStamp k_stamp k_fallen k_held k_stands k_falling k_away k_round k_rests k_may k_next k_could k_couldNight k_night k_seats))) (by decide) rfl (Nat.le_of_ble_eq_true rfl) rfl ?_
  intro p e s m below meth c ls A R args QQ H locs C hr hlk hnm hK hX hsz hl hO hR hQQ
  have hx := C.1
  have hb := C.2.1
  have hown := C.2.2.2.1
  have hts := C.2.2.2.2
  have hin : ∀ w ∈ u_ws RX12 TX12 26, w ∈ (Cond.code yX12_term cX12_term 5 (some .int) :: wsG) := fun w h9 => List.mem_cons_of_mem _ (inG12 w h9)
  have lk_s := hts (Cond.fieldLink RX12 7 "FreeCityModel" "s" "[I") (List.mem_cons_of_mem _ qw5_207)
  unfold wp_X12_term at hw
  refine lv_iload_n hx hb dX12_term_0 rfl (lv_at hl 1 rfl) ?_
  refine lv_iconst (v := (nI 0)) hx hb dX12_term_1 (by decide) ?_
  refine lv_iconst (v := (nI 1)) hx hb dX12_term_2 (by decide) ?_
  refine cSi0 (As := [.int p1, .int (nI 0), .int (nI 1)]) (rest := []) C hK hX hO (c_X12_in (l := l)) (va_cwS 3 hts gd_X12_74 rfl rfl rfl hd_X12_in (rok hR (Nat.le_of_ble_eq_true rfl) (Nat.le_of_ble_eq_true rfl))) rfl hl.1 rfl (Nat.le_of_ble_eq_true rfl) dX12_term_3 ⟨Nat.zero_le _, Nat.zero_le _⟩ (fun r_3 H locs e_3 hO => ?_)
  subst e_3
  refine lv_if_ne (tgt := 11) hx hb dX12_term_6 (by decide) (fun q_6 => ?_) (fun q_6 => ?_)
  · have hw := hw.1 q_6
    refine lv_iload_n hx hb dX12_term_11 rfl (lv_at hl 1 rfl) ?_
    have j_41 : ∀  (H : Heap) (locs : List Loc) (ls : Array Slot), okW D A s.heap H locs (wM cI cZ cJ h ad k_thrown k_s k_image k_hasImage k_steps k_read k_spot k_isWrong k_open k_act k_letBy k_letStamp k_stamp k_fallen k_held k_stands k_falling k_away k_round k_rests k_may k_next k_could k_couldNight k_night k_seats) → lv_has ls 5 [(0, .ref h), (1, .int p1), (2, .int p2)] → wk_X12_term_41 p1 p2 k_s Q  → W p l e R s m args below meth c H locs 0 0 QQ (F0 m 41 ls []) := by
      intro  H locs ls hO hl hw
      unfold wk_X12_term_41 at hw
      refine lv_iload_n hx hb dX12_term_41 rfl (lv_at hl 1 rfl) ?_
      have m_52 : ∀ (y0_52 : Int32) (H : Heap) (locs : List Loc) (ls : Array Slot), y0_52 = (if p1 = 0 then (nI 12) else (nI 13)) → okW D A s.heap H locs (wM cI cZ cJ h ad k_thrown k_s k_image k_hasImage k_steps k_read k_spot k_isWrong k_open k_act k_letBy k_letStamp k_stamp k_fallen k_held k_stands k_falling k_away k_round k_rests k_may k_next k_could k_couldNight k_night k_seats) → lv_has ls 5 [(0, .ref h), (2, .int p2)] → W p l e R s m args below meth c H locs 0 0 QQ (F0 m 52 ls [.int y0_52]) := by
        intro y0_52 H locs ls ey0_52 hO hl
        have hw := hw y0_52 ey0_52
        refine lv_istore_n (lv' := [(3, .int y0_52), (0, .ref h), (2, .int p2)]) hx hb dX12_term_52 rfl hl (by decide) rfl (fun ls hl => ?_)
        refine lv_aload_n hx hb dX12_term_53 rfl (lv_at hl 1 rfl) ?_
        refine gM_s C hin hK lk_s hO dX12_term_54 ?_
        refine lv_iload_n hx hb dX12_term_57 rfl (lv_at hl 0 rfl) ?_
        obtain ⟨o_58, hw⟩ := hw
        refine ldM_s C hK hO o_58 rfl dX12_term_58 ?_
        refine lv_istore (lv' := [(4, .int (k_s (y0_52).toNatClampNeg)), (3, .int y0_52), (0, .ref h), (2, .int p2)]) hx hb dX12_term_59 hl (by decide) rfl (fun ls hl => ?_)
        refine lv_aload_n hx hb dX12_term_61 rfl (lv_at hl 2 rfl) ?_
        refine gM_s C hin hK lk_s hO dX12_term_62 ?_
        refine lv_iload_n hx hb dX12_term_65 rfl (lv_at hl 1 rfl) ?_
        refine lv_iload_n hx hb dX12_term_66 rfl (lv_at hl 3 rfl) ?_
        obtain ⟨o_67, hw⟩ := hw
        refine stM_s C hK hO o_67 rfl dX12_term_67 (fun H locs hO => ?_)
        refine lv_iload hx hb dX12_term_68 (lv_at hl 0 rfl) ?_
        exact ri1 hQQ hx hb hr hlk hK hO hw dX12_term_70
      refine lv_if_ne (tgt := 50) hx hb dX12_term_42 (by decide) (fun q_42 => ?_) (fun q_42 => ?_)
      · refine lv_bipush (v := (nI 13)) hx hb dX12_term_50 (by decide) ?_
        have hl := lv_sub hl [0, 2] rfl (l' := [(0, .ref h), (2, .int p2)])
        exact m_52 _ _ _ _ (by rw [if_neg q_42]) hO hl
      · refine lv_bipush (v := (nI 12)) hx hb dX12_term_45 (by decide) ?_
        refine lv_goto (tgt := 52) hx hb dX12_term_47 (by decide) ?_
        have hl := lv_sub hl [0, 2] rfl (l' := [(0, .ref h), (2, .int p2)])
        exact m_52 _ _ _ _ (by rw [if_pos q_42]) hO hl
    refine lv_if_ne (tgt := 28) hx hb dX12_term_12 (by decide) (fun q_12 => ?_) (fun q_12 => ?_)
    · have hw := hw.1 q_12
      refine lv_iload_n hx hb dX12_term_28 rfl (lv_at hl 2 rfl) ?_
      refine lv_iconst (v := (nI 1)) hx hb dX12_term_29 (by decide) ?_
      refine lv_bipush (v := (nI 20)) hx hb dX12_term_30 (by decide) ?_
      refine cSi0 (As := [.int p2, .int (nI 1), .int (nI 20)]) (rest := []) C hK hX hO (c_X12_in (l := l)) (va_cwS 3 hts gd_X12_74 rfl rfl rfl hd_X12_in (rok hR (Nat.le_of_ble_eq_true rfl) (Nat.le_of_ble_eq_true rfl))) rfl hl.1 rfl (Nat.le_of_ble_eq_true rfl) dX12_term_32 ⟨Nat.zero_le _, Nat.zero_le _⟩ (fun r_32 H locs e_32 hO => ?_)
      subst e_32
      refine lv_if_ne (tgt := 41) hx hb dX12_term_35 (by decide) (fun q_35 => ?_) (fun q_35 => ?_)
      · have hw := hw.1 q_35
        exact j_41  _ _ _ hO (lv_sub hl [0, 1, 2] rfl) hw
      · have hw := hw.2 q_35
        refine lv_bipush (v := (-2)) hx hb dX12_term_38 (by decide) ?_
        exact ri1 hQQ hx hb hr hlk hK hO hw dX12_term_40
    · have hw := hw.2 q_12
      refine lv_iload_n hx hb dX12_term_15 rfl (lv_at hl 2 rfl) ?_
      refine lv_iconst (v := (nI 0)) hx hb dX12_term_16 (by decide) ?_
      refine lv_bipush (v := (nI 99)) hx hb dX12_term_17 (by decide) ?_
      refine cSi0 (As := [.int p2, .int (nI 0), .int (nI 99)]) (rest := []) C hK hX hO (c_X12_in (l := l)) (va_cwS 3 hts gd_X12_74 rfl rfl rfl hd_X12_in (rok hR (Nat.le_of_ble_eq_true rfl) (Nat.le_of_ble_eq_true rfl))) rfl hl.1 rfl (Nat.le_of_ble_eq_true rfl) dX12_term_19 ⟨Nat.zero_le _, Nat.zero_le _⟩ (fun r_19 H locs e_19 hO => ?_)
      subst e_19
      refine lv_if_ne (tgt := 41) hx hb dX12_term_22 (by decide) (fun q_22 => ?_) (fun q_22 => ?_)
      · have hw := hw.1 q_22
        exact j_41  _ _ _ hO (lv_sub hl [0, 1, 2] rfl) hw
      · have hw := hw.2 q_22
        refine lv_goto (tgt := 38) hx hb dX12_term_25 (by decide) ?_
        refine lv_bipush (v := (-2)) hx hb dX12_term_38 (by decide) ?_
        exact ri1 hQQ hx hb hr hlk hK hO hw dX12_term_40
  · have hw := hw.2 q_6
    refine lv_iconst (v := (-1)) hx hb dX12_term_9 (by decide) ?_
    exact ri1 hQQ hx hb hr hlk hK hO hw dX12_term_10
def wb_X12_fall_121 (Q : Int32 → (Nat → Int32) → (Nat → Int32) → (Nat → Int32) → (Nat → Int32) → Prop) (fallen_22 : Nat → Int32) (held_22 : Nat → Int32) (stands_22 : Nat → Int32) (falling_113 : Nat → Int32) (L_121 : Int32 → Int32 → Prop) (v3_121 : Int32) (v4_121 : Int32) : Prop := (((nI 50) ≤ v4_121 → (Q v3_121 fallen_22 held_22 stands_22 falling_113)) ∧ (¬ (nI 50) ≤ v4_121 → (vp_in v4_121 50 ∧ (((¬ (falling_113 (v4_121).toNatClampNeg) = 0 → (vp_in v4_121 50))) ∧ (∀ y1_154 : Int32, y1_154 = (if (falling_113 (v4_121).toNatClampNeg) = 0 then (nI 0) else (if (fallen_22 (v4_121).toNatClampNeg) = 0 then (nI 1) else (nI 0))) → (L_121 (v3_121 + y1_154) (v4_121 + (nI 1))))))))
def wl_X12_fall_121 (Q : Int32 → (Nat → Int32) → (Nat → Int32) → (Nat → Int32) → (Nat → Int32) → Prop) (fallen_22 : Nat → Int32) (held_22 : Nat → Int32) (stands_22 : Nat → Int32) (falling_113 : Nat → Int32) : Nat → Int32 → Int32 → Prop
  | 0, _, _ => False
  | n + 1, v3_121, v4_121 => wb_X12_fall_121 Q fallen_22 held_22 stands_22 falling_113 (wl_X12_fall_121 Q fallen_22 held_22 stands_22 falling_113 n) v3_121 v4_121
def wb_X12_fall_80 (p1 : Int32) (k_s : Nat → Int32) (Q : Int32 → (Nat → Int32) → (Nat → Int32) → (Nat → Int32) → (Nat → Int32) → Prop) (fallen_22 : Nat → Int32) (held_22 : Nat → Int32) (stands_22 : Nat → Int32) (L_80 : Int32 → (Nat → Int32) → Prop) (v3_80 : Int32) (falling_80 : Nat → Int32) : Prop := (((nI 50) ≤ v3_80 → (wp_X12_spreads_falling k_s falling_80 (fun (falling_113 : Nat → Int32) => (∃ n, wl_X12_fall_121 Q fallen_22 held_22 stands_22 falling_113 n (nI 0) (nI 0))))) ∧ (¬ (nI 50) ≤ v3_80 → (∀ y2_101 : Int32, y2_101 = (if v3_80 = p1 then (nI 1) else (nI 0)) → (vp_in v3_80 50 ∧ (L_80 (v3_80 + (nI 1)) (upd falling_80 ((v3_80).toNatClampNeg) (vp_nar .boolean y2_101)))))))
def wl_X12_fall_80 (p1 : Int32) (k_s : Nat → Int32) (Q : Int32 → (Nat → Int32) → (Nat → Int32) → (Nat → Int32) → (Nat → Int32) → Prop) (fallen_22 : Nat → Int32) (held_22 : Nat → Int32) (stands_22 : Nat → Int32) : Nat → Int32 → (Nat → Int32) → Prop
  | 0, _, _ => False
  | n + 1, v3_80, falling_80 => wb_X12_fall_80 p1 k_s Q fallen_22 held_22 stands_22 (wl_X12_fall_80 p1 k_s Q fallen_22 held_22 stands_22 n) v3_80 falling_80
def wp_X12_fall (p1 : Int32) (p2 : Int32) (k_s : Nat → Int32) (k_fallen : Nat → Int32) (k_held : Nat → Int32) (k_stands : Nat → Int32) (k_falling : Nat → Int32) (Q : Int32 → (Nat → Int32) → (Nat → Int32) → (Nat → Int32) → (Nat → Int32) → Prop) : Prop := (ok_X12_isOf k_s p1 (nI 6) ∧ ((((f_X12_isOf k_s p1 (nI 6)) = 0 ∨ (f_X12_in p2 (nI 0) (nI 3)) = 0) → (Q (-1) k_fallen k_held k_stands k_falling)) ∧ (¬ (((f_X12_isOf k_s p1 (nI 6)) = 0 ∨ (f_X12_in p2 (nI 0) (nI 3)) = 0)) → (wp_X12_looks k_s k_fallen k_held k_stands (fun (fallen_22 : Nat → Int32) (held_22 : Nat → Int32) (stands_22 : Nat → Int32) => (((nI 3) ≤ p2 → (∃ n, wl_X12_fall_80 p1 k_s Q fallen_22 held_22 stands_22 n (nI 0) k_falling)) ∧ (¬ (nI 3) ≤ p2 → ((((¬ p2 = 0 → (((¬ p2 = (nI 1) → (vp_in p1 50)) ∧ (p2 = (nI 1) → (vp_in p1 50))))) ∧ (p2 = 0 → (vp_in p1 50)))) ∧ (∀ y0_77 : Int32, y0_77 = (if p2 = 0 then (if (fallen_22 (p1).toNatClampNeg) = 0 then (nI 0) else (nI 1)) else (if p2 = (nI 1) then (if (held_22 (p1).toNatClampNeg) = 0 then (nI 0) else (nI 1)) else (if (stands_22 (p1).toNatClampNeg) = 0 then (nI 0) else (nI 1)))) → (Q y0_77 fallen_22 held_22 stands_22 k_falling))))))))))
set_option maxHeartbeats 4000000 in
set_option maxRecDepth 100000 in
theorem c_X12_fall {l : Launch} {D : va_G} {cI cZ cJ : ClassId} {h : Nat} {ad : Nat → Nat} {sz : Nat} {k_thrown : Int32} {k_s : Nat → Int32} {k_image : Nat → Int32} {k_hasImage : Int32} {k_steps : Nat → Int32} {k_read : Int32} {k_spot : Int32} {k_isWrong : Int32} {k_open : Int32} {k_act : Int32} {k_letBy : Nat → Int32} {k_letStamp : Nat → Int32} {k_stamp : Int32} {k_fallen : Nat → Int32} {k_held : Nat → Int32} {k_stands : Nat → Int32} {k_falling : Nat → Int32} {k_away : Nat → Int32} {k_round : Nat → Int32} {k_rests : Nat → Int64} {k_may : Nat → Int32} {k_next : Nat → Int32} {k_could : Nat → Int32} {k_couldNight : Nat → Int32} {k_night : Int32} {k_seats : Nat → Int32} {p1 : Int32} {p2 : Int32} {Q : Int32 → (Nat → Int32) → (Nat → Int32) → (Nat → Int32) → (Nat → Int32) → Prop} (hw : wp_X12_fall p1 p2 k_s k_fallen k_held k_stands k_falling Q) : Met l yX12_fall (Cond.code yX12_fall cX12_fall 5 (some .int) :: wsG) ({ frames := 3, cells := 0, slots := 0, locals := 67 } : Room) (preW D (tyM cI cZ cJ) (wM cI cZ cJ h ad k_thrown k_s k_image k_hasImage k_steps k_read k_spot k_isWrong k_open k_act k_letBy k_letStamp k_stamp k_fallen k_held k_stands k_falling k_away k_round k_rests k_may k_next k_could k_couldNight k_night k_seats) sz [.ref h, .int p1, .int p2]) (qi4 D (tyM cI cZ cJ) (va_A (wM cI cZ cJ h ad k_thrown k_s k_image k_hasImage k_steps k_read k_spot k_isWrong k_open k_act k_letBy k_letStamp k_stamp k_fallen k_held k_stands k_falling k_away k_round k_rests k_may k_next k_could k_couldNight k_night k_seats) sz) Q (fun k_fallen' k_held' k_stands' k_falling' => (wM cI cZ cJ h ad k_thrown k_s k_image k_hasImage k_steps k_read k_spot k_isWrong k_open k_act k_letBy k_letStamp k_stamp k_fallen' k_held' k_stands' k_falling' k_away k_round k_rests k_may k_next k_could k_couldNight k_night k_seats))) 0 0 (va_A (wM cI cZ cJ h ad k_thrown k_s k_image k_hasImage k_steps k_read k_spot k_isWrong k_open k_act k_letBy k_letStamp k_stamp k_fallen k_held k_stands k_falling k_away k_round k_rests k_may k_next k_could k_couldNight k_night k_seats) sz) := by
  refine st_met (cc := cX12_fall) (maxL := 5) (ret := (some .int)) (lv := [(0, .ref h), (1, .int p1), (2, .int p2)]) (Qc := fun A => qi4 D (tyM cI cZ cJ) A Q (fun k_fallen' k_held' k_stands' k_falling' => (wM cI cZ cJ h ad k_thrown k_s k_image k_hasImage k_steps k_read k_spot k_isWrong k_open k_act k_letBy k_letStamp k_stamp k_fallen' k_held' k_stands' k_falling' k_away k_round k_rests k_may k_next k_could k_couldNight k_night k_seats))) (by decide) rfl (Nat.le_of_ble_eq_true rfl) rfl ?_
  intro p e s m below meth c ls A R args QQ H locs C hr hlk hnm hK hX hsz hl hO hR hQQ
  have hx := C.1
  have hb := C.2.1
  have hown := C.2.2.2.1
  have hts := C.2.2.2.2
  have hin : ∀ w ∈ u_ws RX12 TX12 26, w ∈ (Cond.code yX12_fall cX12_fall 5 (some .int) :: wsG) := fun w h9 => List.mem_cons_of_mem _ (inG12 w h9)
  have lk_falling := hts (Cond.fieldLink RX12 40 "FreeCityModel" "falling" "[Z") (List.mem_cons_of_mem _ qw5_222)
  have lk_fallen := hts (Cond.fieldLink RX12 31 "FreeCityModel" "fallen" "[Z") (List.mem_cons_of_mem _ qw5_219)
  have lk_stands := hts (Cond.fieldLink RX12 37 "FreeCityModel" "stands" "[Z") (List.mem_cons_of_mem _ qw5_221)
  have lk_held := hts (Cond.fieldLink RX12 34 "FreeCityModel" "held" "[Z") (List.mem_cons_of_mem _ qw5_220)
  unfold wp_X12_fall at hw
  refine lv_aload_n hx hb dX12_fall_0 rfl (lv_at hl 0 rfl) ?_
  refine lv_iload_n hx hb dX12_fall_1 rfl (lv_at hl 1 rfl) ?_
  refine lv_bipush (v := (nI 6)) hx hb dX12_fall_2 (by decide) ?_
  obtain ⟨o_4, hw⟩ := hw
  refine cVi0 (As := [.int p1, .int (nI 6)]) (rest := []) C hK hX hO (c_X12_isOf (l := l) o_4) (cwV 2 hts gd_X12_187 rfl rfl rfl hd_X12_isOf (rok hR (Nat.le_of_ble_eq_true rfl) (Nat.le_of_ble_eq_true rfl))) (ci := 12) (q0 := 0) rfl rfl rfl rfl hl.1 rfl (Nat.le_of_ble_eq_true rfl) dX12_fall_4 ⟨Nat.zero_le _, Nat.zero_le _⟩ (fun r_4 H locs e_4 hO => ?_)
  subst e_4
  have a_19 : ((f_X12_isOf k_s p1 (nI 6)) = 0 ∨ (f_X12_in p2 (nI 0) (nI 3)) = 0) → ∀ (H : Heap) (locs : List Loc) (ls : Array Slot), okW D A s.heap H locs (wM cI cZ cJ h ad k_thrown k_s k_image k_hasImage k_steps k_read k_spot k_isWrong k_open k_act k_letBy k_letStamp k_stamp k_fallen k_held k_stands k_falling k_away k_round k_rests k_may k_next k_could k_couldNight k_night k_seats) → lv_has ls 5 [] → W p l e R s m args below meth c H locs 0 0 QQ (F0 m 19 ls []) := by
    intro cf H locs ls hO hl
    have hw := hw.1 cf
    refine lv_iconst (v := (-1)) hx hb dX12_fall_19 (by decide) ?_
    exact ri4 hQQ hx hb hr hlk hK hO hw dX12_fall_20
  have a_21 : ¬ (((f_X12_isOf k_s p1 (nI 6)) = 0 ∨ (f_X12_in p2 (nI 0) (nI 3)) = 0)) → ∀ (H : Heap) (locs : List Loc) (ls : Array Slot), okW D A s.heap H locs (wM cI cZ cJ h ad k_thrown k_s k_image k_hasImage k_steps k_read k_spot k_isWrong k_open k_act k_letBy k_letStamp k_stamp k_fallen k_held k_stands k_falling k_away k_round k_rests k_may k_next k_could k_couldNight k_night k_seats) → lv_has ls 5 [(0, .ref h), (1, .int p1), (2, .int p2)] → W p l e R s m args below meth c H locs 0 0 QQ (F0 m 21 ls []) := by
    intro cf H locs ls hO hl
    have hw := hw.2 cf
    refine lv_aload_n hx hb dX12_fall_21 rfl (lv_at hl 0 rfl) ?_
    refine cVv3 (As := []) (rest := []) C hK hX hO (c_X12_looks (l := l) hw) (cwV 0 hts gd_X12_169 rfl rfl rfl hd_X12_looks (rok hR (Nat.le_of_ble_eq_true rfl) (Nat.le_of_ble_eq_true rfl))) (ci := 12) (q0 := 0) rfl rfl rfl rfl hl.1 rfl (Nat.le_of_ble_eq_true rfl) dX12_fall_22 ⟨Nat.zero_le _, Nat.zero_le _⟩ (fun fallen_22 held_22 stands_22 H locs hw hO => ?_)
    refine lv_iload_n hx hb dX12_fall_25 rfl (lv_at hl 2 rfl) ?_
    refine lv_iconst (v := (nI 3)) hx hb dX12_fall_26 (by decide) ?_
    refine lv_icmp_ge (tgt := 78) hx hb dX12_fall_27 (by decide) (fun q_27 => ?_) (fun q_27 => ?_)
    · have hw := hw.1 q_27
      refine lv_iconst (v := (nI 0)) hx hb dX12_fall_78 (by decide) ?_
      refine lv_istore_n (lv' := [(3, .int (nI 0)), (0, .ref h), (1, .int p1), (2, .int p2)]) hx hb dX12_fall_79 rfl hl (by decide) rfl (fun ls hl => ?_)
      obtain ⟨n_80, hw⟩ := hw
      have b_80 : ∀ (L_80 : Int32 → (Nat → Int32) → Prop) (ih_80 : ∀ (v3_80 : Int32) (falling_80 : Nat → Int32) (H : Heap) (locs : List Loc) (ls : Array Slot), okW D A s.heap H locs (wM cI cZ cJ h ad k_thrown k_s k_image k_hasImage k_steps k_read k_spot k_isWrong k_open k_act k_letBy k_letStamp k_stamp fallen_22 held_22 stands_22 falling_80 k_away k_round k_rests k_may k_next k_could k_couldNight k_night k_seats) → lv_has ls 5 [(0, .ref h), (1, .int p1), (3, .int v3_80)] → L_80 v3_80 falling_80 → W p l e R s m args below meth c H locs 0 0 QQ (F0 m 80 ls [])) (v3_80 : Int32) (falling_80 : Nat → Int32) (H : Heap) (locs : List Loc) (ls : Array Slot), okW D A s.heap H locs (wM cI cZ cJ h ad k_thrown k_s k_image k_hasImage k_steps k_read k_spot k_isWrong k_open k_act k_letBy k_letStamp k_stamp fallen_22 held_22 stands_22 falling_80 k_away k_round k_rests k_may k_next k_could k_couldNight k_night k_seats) → lv_has ls 5 [(0, .ref h), (1, .int p1), (3, .int v3_80)] → wb_X12_fall_80 p1 k_s Q fallen_22 held_22 stands_22 L_80 v3_80 falling_80 → W p l e R s m args below meth c H locs 0 0 QQ (F0 m 80 ls []) := by
        intro L_80 ih_80 v3_80 falling_80 H locs ls hO hl hw
        unfold wb_X12_fall_80 at hw
        refine lv_iload_n hx hb dX12_fall_80 rfl (lv_at hl 2 rfl) ?_
        refine lv_bipush (v := (nI 50)) hx hb dX12_fall_81 (by decide) ?_
        refine lv_icmp_ge (tgt := 108) hx hb dX12_fall_83 (by decide) (fun q_83 => ?_) (fun q_83 => ?_)
        · have hw := hw.1 q_83
          refine lv_aload_n hx hb dX12_fall_108 rfl (lv_at hl 0 rfl) ?_
          refine lv_aload_n hx hb dX12_fall_109 rfl (lv_at hl 0 rfl) ?_
          refine gM_falling C hin hK lk_falling hO dX12_fall_110 ?_
          refine cVv1 (As := [.ref (ad 16)]) (rest := []) C hK hX hO (c_X12_spreads_falling (l := l) hw) (cwV 1 hts gd_X12_193 rfl rfl rfl hd_X12_spreads (rok hR (Nat.le_of_ble_eq_true rfl) (Nat.le_of_ble_eq_true rfl))) (ci := 12) (q0 := 0) rfl rfl rfl rfl hl.1 rfl (Nat.le_of_ble_eq_true rfl) dX12_fall_113 ⟨Nat.zero_le _, Nat.zero_le _⟩ (fun falling_113 H locs hw hO => ?_)
          refine lv_iconst (v := (nI 0)) hx hb dX12_fall_116 (by decide) ?_
          refine lv_istore_n (lv' := [(3, .int (nI 0)), (0, .ref h), (1, .int p1)]) hx hb dX12_fall_117 rfl hl (by decide) rfl (fun ls hl => ?_)
          refine lv_iconst (v := (nI 0)) hx hb dX12_fall_118 (by decide) ?_
          refine lv_istore (lv' := [(4, .int (nI 0)), (3, .int (nI 0)), (0, .ref h), (1, .int p1)]) hx hb dX12_fall_119 hl (by decide) rfl (fun ls hl => ?_)
          obtain ⟨n_121, hw⟩ := hw
          have b_121 : ∀ (L_121 : Int32 → Int32 → Prop) (ih_121 : ∀ (v3_121 : Int32) (v4_121 : Int32) (H : Heap) (locs : List Loc) (ls : Array Slot), okW D A s.heap H locs (wM cI cZ cJ h ad k_thrown k_s k_image k_hasImage k_steps k_read k_spot k_isWrong k_open k_act k_letBy k_letStamp k_stamp fallen_22 held_22 stands_22 falling_113 k_away k_round k_rests k_may k_next k_could k_couldNight k_night k_seats) → lv_has ls 5 [(0, .ref h), (3, .int v3_121), (4, .int v4_121)] → L_121 v3_121 v4_121 → W p l e R s m args below meth c H locs 0 0 QQ (F0 m 121 ls [])) (v3_121 : Int32) (v4_121 : Int32) (H : Heap) (locs : List Loc) (ls : Array Slot), okW D A s.heap H locs (wM cI cZ cJ h ad k_thrown k_s k_image k_hasImage k_steps k_read k_spot k_isWrong k_open k_act k_letBy k_letStamp k_stamp fallen_22 held_22 stands_22 falling_113 k_away k_round k_rests k_may k_next k_could k_couldNight k_night k_seats) → lv_has ls 5 [(0, .ref h), (3, .int v3_121), (4, .int v4_121)] → wb_X12_fall_121 Q fallen_22 held_22 stands_22 falling_113 L_121 v3_121 v4_121 → W p l e R s m args below meth c H locs 0 0 QQ (F0 m 121 ls []) := by
            intro L_121 ih_121 v3_121 v4_121 H locs ls hO hl hw
            unfold wb_X12_fall_121 at hw
            refine lv_iload hx hb dX12_fall_121 (lv_at hl 2 rfl) ?_
            refine lv_bipush (v := (nI 50)) hx hb dX12_fall_123 (by decide) ?_
            refine lv_icmp_ge (tgt := 162) hx hb dX12_fall_125 (by decide) (fun q_125 => ?_) (fun q_125 => ?_)
            · have hw := hw.1 q_125
              refine lv_iload_n hx hb dX12_fall_162 rfl (lv_at hl 1 rfl) ?_
              exact ri4 hQQ hx hb hr hlk hK hO hw dX12_fall_163
            · have hw := hw.2 q_125
              refine lv_iload_n hx hb dX12_fall_128 rfl (lv_at hl 1 rfl) ?_
              refine lv_aload_n hx hb dX12_fall_129 rfl (lv_at hl 0 rfl) ?_
              refine gM_falling C hin hK lk_falling hO dX12_fall_130 ?_
              refine lv_iload hx hb dX12_fall_133 (lv_at hl 2 rfl) ?_
              obtain ⟨o_135, hw⟩ := hw
              refine ldM_falling C hK hO o_135 rfl dX12_fall_135 ?_
              obtain ⟨hs, hw⟩ := hw
              have m_154 : ∀ (y1_154 : Int32) (H : Heap) (locs : List Loc) (ls : Array Slot), y1_154 = (if (falling_113 (v4_121).toNatClampNeg) = 0 then (nI 0) else (if (fallen_22 (v4_121).toNatClampNeg) = 0 then (nI 1) else (nI 0))) → okW D A s.heap H locs (wM cI cZ cJ h ad k_thrown k_s k_image k_hasImage k_steps k_read k_spot k_isWrong k_open k_act k_letBy k_letStamp k_stamp fallen_22 held_22 stands_22 falling_113 k_away k_round k_rests k_may k_next k_could k_couldNight k_night k_seats) → lv_has ls 5 [(0, .ref h), (4, .int v4_121)] → W p l e R s m args below meth c H locs 0 0 QQ (F0 m 154 ls [.int y1_154, .int v3_121]) := by
                intro y1_154 H locs ls ey1_154 hO hl
                have hw := hw y1_154 ey1_154
                refine lv_iadd hx hb dX12_fall_154 ?_
                refine lv_istore_n (lv' := [(3, .int (v3_121 + y1_154)), (0, .ref h), (4, .int v4_121)]) hx hb dX12_fall_155 rfl hl (by decide) rfl (fun ls hl => ?_)
                refine lv_iinc (v := (v4_121 + (nI 1))) (lv' := [(4, .int (v4_121 + (nI 1))), (3, .int (v3_121 + y1_154)), (0, .ref h)]) hx hb dX12_fall_156 hl (k := 2) rfl (iinc_1 _) (by decide) rfl (fun ls hl => ?_)
                refine lv_goto (tgt := 121) hx hb dX12_fall_159 (by decide) ?_
                exact ih_121 (v3_121 + y1_154) (v4_121 + (nI 1)) _ _ _ hO (lv_sub hl [2, 1, 0] rfl) hw
              refine lv_if_eq (tgt := 153) hx hb dX12_fall_136 (by decide) (fun q_136 => ?_) (fun q_136 => ?_)
              · refine lv_iconst (v := (nI 0)) hx hb dX12_fall_153 (by decide) ?_
                have hl := lv_sub hl [0, 2] rfl (l' := [(0, .ref h), (4, .int v4_121)])
                exact m_154 _ _ _ _ (by rw [if_pos q_136]) hO hl
              · have hs := hs q_136
                have o_145 := hs
                refine lv_aload_n hx hb dX12_fall_139 rfl (lv_at hl 0 rfl) ?_
                refine gM_fallen C hin hK lk_fallen hO dX12_fall_140 ?_
                refine lv_iload hx hb dX12_fall_143 (lv_at hl 2 rfl) ?_
                refine ldM_fallen C hK hO o_145 rfl dX12_fall_145 ?_
                refine lv_if_ne (tgt := 153) hx hb dX12_fall_146 (by decide) (fun q_146 => ?_) (fun q_146 => ?_)
                · refine lv_iconst (v := (nI 0)) hx hb dX12_fall_153 (by decide) ?_
                  have hl := lv_sub hl [0, 2] rfl (l' := [(0, .ref h), (4, .int v4_121)])
                  exact m_154 _ _ _ _ (by rw [if_neg q_136, if_neg q_146]) hO hl
                · refine lv_iconst (v := (nI 1)) hx hb dX12_fall_149 (by decide) ?_
                  refine lv_goto (tgt := 154) hx hb dX12_fall_150 (by decide) ?_
                  have hl := lv_sub hl [0, 2] rfl (l' := [(0, .ref h), (4, .int v4_121)])
                  exact m_154 _ _ _ _ (by rw [if_neg q_136, if_pos q_146]) hO hl
          have l_121 : ∀ (n : Nat) (v3_121 : Int32) (v4_121 : Int32) (H : Heap) (locs : List Loc) (ls : Array Slot), okW D A s.heap H locs (wM cI cZ cJ h ad k_thrown k_s k_image k_hasImage k_steps k_read k_spot k_isWrong k_open k_act k_letBy k_letStamp k_stamp fallen_22 held_22 stands_22 falling_113 k_away k_round k_rests k_may k_next k_could k_couldNight k_night k_seats) → lv_has ls 5 [(0, .ref h), (3, .int v3_121), (4, .int v4_121)] → wl_X12_fall_121 Q fallen_22 held_22 stands_22 falling_113 n v3_121 v4_121 → W p l e R s m args below meth c H locs 0 0 QQ (F0 m 121 ls []) := by
            intro n
            induction n with
            | zero => intro v3_121 v4_121 H locs ls hO hl hw; exact False.elim hw
            | succ n ih => exact b_121 _ ih
          exact l_121 n_121 (nI 0) (nI 0) _ _ _ hO (lv_sub hl [2, 1, 0] rfl) hw
        · have hw := hw.2 q_83
          refine lv_aload_n hx hb dX12_fall_86 rfl (lv_at hl 0 rfl) ?_
          refine gM_falling C hin hK lk_falling hO dX12_fall_87 ?_
          refine lv_iload_n hx hb dX12_fall_90 rfl (lv_at hl 2 rfl) ?_
          refine lv_iload_n hx hb dX12_fall_91 rfl (lv_at hl 2 rfl) ?_
          refine lv_iload_n hx hb dX12_fall_92 rfl (lv_at hl 1 rfl) ?_
          have m_101 : ∀ (y2_101 : Int32) (H : Heap) (locs : List Loc) (ls : Array Slot), y2_101 = (if v3_80 = p1 then (nI 1) else (nI 0)) → okW D A s.heap H locs (wM cI cZ cJ h ad k_thrown k_s k_image k_hasImage k_steps k_read k_spot k_isWrong k_open k_act k_letBy k_letStamp k_stamp fallen_22 held_22 stands_22 falling_80 k_away k_round k_rests k_may k_next k_could k_couldNight k_night k_seats) → lv_has ls 5 [(0, .ref h), (1, .int p1), (3, .int v3_80)] → W p l e R s m args below meth c H locs 0 0 QQ (F0 m 101 ls [.int y2_101, .int v3_80, .ref (ad 16)]) := by
            intro y2_101 H locs ls ey2_101 hO hl
            have hw := hw y2_101 ey2_101
            obtain ⟨o_101, hw⟩ := hw
            refine stM_falling C hK hO o_101 rfl dX12_fall_101 (fun H locs hO => ?_)
            refine lv_iinc (v := (v3_80 + (nI 1))) (lv' := [(3, .int (v3_80 + (nI 1))), (0, .ref h), (1, .int p1)]) hx hb dX12_fall_102 hl (k := 2) rfl (iinc_1 _) (by decide) rfl (fun ls hl => ?_)
            refine lv_goto (tgt := 80) hx hb dX12_fall_105 (by decide) ?_
            exact ih_80 (v3_80 + (nI 1)) (upd falling_80 ((v3_80).toNatClampNeg) (vp_nar .boolean y2_101)) _ _ _ hO (lv_sub hl [1, 2, 0] rfl) hw
          refine lv_icmp_ne (tgt := 100) hx hb dX12_fall_93 (by decide) (fun q_93 => ?_) (fun q_93 => ?_)
          · refine lv_iconst (v := (nI 0)) hx hb dX12_fall_100 (by decide) ?_
            have hl := lv_sub hl [0, 1, 2] rfl (l' := [(0, .ref h), (1, .int p1), (3, .int v3_80)])
            exact m_101 _ _ _ _ (by rw [if_neg q_93]) hO hl
          · refine lv_iconst (v := (nI 1)) hx hb dX12_fall_96 (by decide) ?_
            refine lv_goto (tgt := 101) hx hb dX12_fall_97 (by decide) ?_
            have hl := lv_sub hl [0, 1, 2] rfl (l' := [(0, .ref h), (1, .int p1), (3, .int v3_80)])
            exact m_101 _ _ _ _ (by rw [if_pos q_93]) hO hl
      have l_80 : ∀ (n : Nat) (v3_80 : Int32) (falling_80 : Nat → Int32) (H : Heap) (locs : List Loc) (ls : Array Slot), okW D A s.heap H locs (wM cI cZ cJ h ad k_thrown k_s k_image k_hasImage k_steps k_read k_spot k_isWrong k_open k_act k_letBy k_letStamp k_stamp fallen_22 held_22 stands_22 falling_80 k_away k_round k_rests k_may k_next k_could k_couldNight k_night k_seats) → lv_has ls 5 [(0, .ref h), (1, .int p1), (3, .int v3_80)] → wl_X12_fall_80 p1 k_s Q fallen_22 held_22 stands_22 n v3_80 falling_80 → W p l e R s m args below meth c H locs 0 0 QQ (F0 m 80 ls []) := by
        intro n
        induction n with
        | zero => intro v3_80 falling_80 H locs ls hO hl hw; exact False.elim hw
        | succ n ih => exact b_80 _ ih
      exact l_80 n_80 (nI 0) k_falling _ _ _ hO (lv_sub hl [1, 2, 0] rfl) hw
    · have hw := hw.2 q_27
      refine lv_iload_n hx hb dX12_fall_30 rfl (lv_at hl 2 rfl) ?_
      obtain ⟨hs, hw⟩ := hw
      have m_77 : ∀ (y0_77 : Int32) (H : Heap) (locs : List Loc) (ls : Array Slot), y0_77 = (if p2 = 0 then (if (fallen_22 (p1).toNatClampNeg) = 0 then (nI 0) else (nI 1)) else (if p2 = (nI 1) then (if (held_22 (p1).toNatClampNeg) = 0 then (nI 0) else (nI 1)) else (if (stands_22 (p1).toNatClampNeg) = 0 then (nI 0) else (nI 1)))) → okW D A s.heap H locs (wM cI cZ cJ h ad k_thrown k_s k_image k_hasImage k_steps k_read k_spot k_isWrong k_open k_act k_letBy k_letStamp k_stamp fallen_22 held_22 stands_22 k_falling k_away k_round k_rests k_may k_next k_could k_couldNight k_night k_seats) → lv_has ls 5 [] → W p l e R s m args below meth c H locs 0 0 QQ (F0 m 77 ls [.int y0_77]) := by
        intro y0_77 H locs ls ey0_77 hO hl
        have hw := hw y0_77 ey0_77
        exact ri4 hQQ hx hb hr hlk hK hO hw dX12_fall_77
      refine lv_if_ne (tgt := 46) hx hb dX12_fall_31 (by decide) (fun q_31 => ?_) (fun q_31 => ?_)
      · have hs := hs.1 q_31
        refine lv_iload_n hx hb dX12_fall_46 rfl (lv_at hl 2 rfl) ?_
        refine lv_iconst (v := (nI 1)) hx hb dX12_fall_47 (by decide) ?_
        refine lv_icmp_ne (tgt := 63) hx hb dX12_fall_48 (by decide) (fun q_48 => ?_) (fun q_48 => ?_)
        · have hs := hs.1 q_48
          have o_68 := hs
          refine lv_aload_n hx hb dX12_fall_63 rfl (lv_at hl 0 rfl) ?_
          refine gM_stands C hin hK lk_stands hO dX12_fall_64 ?_
          refine lv_iload_n hx hb dX12_fall_67 rfl (lv_at hl 1 rfl) ?_
          refine ldM_stands C hK hO o_68 rfl dX12_fall_68 ?_
          refine lv_if_eq (tgt := 76) hx hb dX12_fall_69 (by decide) (fun q_69 => ?_) (fun q_69 => ?_)
          · refine lv_iconst (v := (nI 0)) hx hb dX12_fall_76 (by decide) ?_
            have hl := lv_sub hl [] rfl (l' := [])
            exact m_77 _ _ _ _ (by rw [if_neg q_31, if_neg q_48, if_pos q_69]) hO hl
          · refine lv_iconst (v := (nI 1)) hx hb dX12_fall_72 (by decide) ?_
            refine lv_goto (tgt := 77) hx hb dX12_fall_73 (by decide) ?_
            have hl := lv_sub hl [] rfl (l' := [])
            exact m_77 _ _ _ _ (by rw [if_neg q_31, if_neg q_48, if_neg q_69]) hO hl
        · have hs := hs.2 q_48
          have o_56 := hs
          refine lv_aload_n hx hb dX12_fall_51 rfl (lv_at hl 0 rfl) ?_
          refine gM_held C hin hK lk_held hO dX12_fall_52 ?_
          refine lv_iload_n hx hb dX12_fall_55 rfl (lv_at hl 1 rfl) ?_
          refine ldM_held C hK hO o_56 rfl dX12_fall_56 ?_
          refine lv_if_eq (tgt := 76) hx hb dX12_fall_57 (by decide) (fun q_57 => ?_) (fun q_57 => ?_)
          · refine lv_iconst (v := (nI 0)) hx hb dX12_fall_76 (by decide) ?_
            have hl := lv_sub hl [] rfl (l' := [])
            exact m_77 _ _ _ _ (by rw [if_neg q_31, if_pos q_48, if_pos q_57]) hO hl
          · refine lv_goto (tgt := 72) hx hb dX12_fall_60 (by decide) ?_
            refine lv_iconst (v := (nI 1)) hx hb dX12_fall_72 (by decide) ?_
            refine lv_goto (tgt := 77) hx hb dX12_fall_73 (by decide) ?_
            have hl := lv_sub hl [] rfl (l' := [])
            exact m_77 _ _ _ _ (by rw [if_neg q_31, if_pos q_48, if_neg q_57]) hO hl
      · have hs := hs.2 q_31
        have o_39 := hs
        refine lv_aload_n hx hb dX12_fall_34 rfl (lv_at hl 0 rfl) ?_
        refine gM_fallen C hin hK lk_fallen hO dX12_fall_35 ?_
        refine lv_iload_n hx hb dX12_fall_38 rfl (lv_at hl 1 rfl) ?_
        refine ldM_fallen C hK hO o_39 rfl dX12_fall_39 ?_
        refine lv_if_eq (tgt := 76) hx hb dX12_fall_40 (by decide) (fun q_40 => ?_) (fun q_40 => ?_)
        · refine lv_iconst (v := (nI 0)) hx hb dX12_fall_76 (by decide) ?_
          have hl := lv_sub hl [] rfl (l' := [])
          exact m_77 _ _ _ _ (by rw [if_pos q_31, if_pos q_40]) hO hl
        · refine lv_goto (tgt := 72) hx hb dX12_fall_43 (by decide) ?_
          refine lv_iconst (v := (nI 1)) hx hb dX12_fall_72 (by decide) ?_
          refine lv_goto (tgt := 77) hx hb dX12_fall_73 (by decide) ?_
          have hl := lv_sub hl [] rfl (l' := [])
          exact m_77 _ _ _ _ (by rw [if_pos q_31, if_neg q_40]) hO hl
  refine lv_if_eq (tgt := 19) hx hb dX12_fall_7 (by decide) (fun q_7 => ?_) (fun q_7 => ?_)
  · have hl := lv_sub hl [] rfl (l' := [])
    exact a_19 (Or.inl q_7) _ _ _ hO hl
  · refine lv_iload_n hx hb dX12_fall_10 rfl (lv_at hl 2 rfl) ?_
    refine lv_iconst (v := (nI 0)) hx hb dX12_fall_11 (by decide) ?_
    refine lv_iconst (v := (nI 3)) hx hb dX12_fall_12 (by decide) ?_
    refine cSi0 (As := [.int p2, .int (nI 0), .int (nI 3)]) (rest := []) C hK hX hO (c_X12_in (l := l)) (va_cwS 3 hts gd_X12_74 rfl rfl rfl hd_X12_in (rok hR (Nat.le_of_ble_eq_true rfl) (Nat.le_of_ble_eq_true rfl))) rfl hl.1 rfl (Nat.le_of_ble_eq_true rfl) dX12_fall_13 ⟨Nat.zero_le _, Nat.zero_le _⟩ (fun r_13 H locs e_13 hO => ?_)
    subst e_13
    refine lv_if_ne (tgt := 21) hx hb dX12_fall_16 (by decide) (fun q_16 => ?_) (fun q_16 => ?_)
    · have hl := lv_sub hl [0, 1, 2] rfl (l' := [(0, .ref h), (1, .int p1), (2, .int p2)])
      exact a_21 (fun h => h.elim q_7 q_16) _ _ _ hO hl
    · have hl := lv_sub hl [] rfl (l' := [])
      exact a_19 (Or.inr q_16) _ _ _ hO hl
def wp_X12_late (p1 : Int32) (p2 : Int32) (k_s : Nat → Int32) (Q : Int32 → Prop) : Prop := (ok_X12_isOf k_s p1 (nI 7) ∧ ((¬ (f_X12_isOf k_s p1 (nI 7)) = 0 → ((p2 = (nI 0) → (vp_in ((nI 1760) + p1) 6700 ∧ (Q (k_s (((nI 1760) + p1)).toNatClampNeg)))) ∧ (p2 = (nI 1) → (vp_in ((nI 1810) + p1) 6700 ∧ (Q (k_s (((nI 1810) + p1)).toNatClampNeg)))) ∧ (p2 = (nI 2) → (vp_in ((nI 1860) + p1) 6700 ∧ (Q (k_s (((nI 1860) + p1)).toNatClampNeg)))) ∧ (¬ p2 = (nI 0) → ¬ p2 = (nI 1) → ¬ p2 = (nI 2) → (Q (-1))))) ∧ ((f_X12_isOf k_s p1 (nI 7)) = 0 → (Q (-1)))))
set_option maxHeartbeats 4000000 in
set_option maxRecDepth 100000 in
theorem c_X12_late {l : Launch} {D : va_G} {cI cZ cJ : ClassId} {h : Nat} {ad : Nat → Nat} {sz : Nat} {k_thrown : Int32} {k_s : Nat → Int32} {k_image : Nat → Int32} {k_hasImage : Int32} {k_steps : Nat → Int32} {k_read : Int32} {k_spot : Int32} {k_isWrong : Int32} {k_open : Int32} {k_act : Int32} {k_letBy : Nat → Int32} {k_letStamp : Nat → Int32} {k_stamp : Int32} {k_fallen : Nat → Int32} {k_held : Nat → Int32} {k_stands : Nat → Int32} {k_falling : Nat → Int32} {k_away : Nat → Int32} {k_round : Nat → Int32} {k_rests : Nat → Int64} {k_may : Nat → Int32} {k_next : Nat → Int32} {k_could : Nat → Int32} {k_couldNight : Nat → Int32} {k_night : Int32} {k_seats : Nat → Int32} {p1 : Int32} {p2 : Int32} {Q : Int32 → Prop} (hw : wp_X12_late p1 p2 k_s Q) : Met l yX12_late (Cond.code yX12_late cX12_late 3 (some .int) :: wsG) ({ frames := 2, cells := 0, slots := 0, locals := 44 } : Room) (preW D (tyM cI cZ cJ) (wM cI cZ cJ h ad k_thrown k_s k_image k_hasImage k_steps k_read k_spot k_isWrong k_open k_act k_letBy k_letStamp k_stamp k_fallen k_held k_stands k_falling k_away k_round k_rests k_may k_next k_could k_couldNight k_night k_seats) sz [.ref h, .int p1, .int p2]) (qi0 D (tyM cI cZ cJ) (va_A (wM cI cZ cJ h ad k_thrown k_s k_image k_hasImage k_steps k_read k_spot k_isWrong k_open k_act k_letBy k_letStamp k_stamp k_fallen k_held k_stands k_falling k_away k_round k_rests k_may k_next k_could k_couldNight k_night k_seats) sz) Q (wM cI cZ cJ h ad k_thrown k_s k_image k_hasImage k_steps k_read k_spot k_isWrong k_open k_act k_letBy k_letStamp k_stamp k_fallen k_held k_stands k_falling k_away k_round k_rests k_may k_next k_could k_couldNight k_night k_seats)) 0 0 (va_A (wM cI cZ cJ h ad k_thrown k_s k_image k_hasImage k_steps k_read k_spot k_isWrong k_open k_act k_letBy k_letStamp k_stamp k_fallen k_held k_stands k_falling k_away k_round k_rests k_may k_next k_could k_couldNight k_night k_seats) sz) := by
  refine st_met (cc := cX12_late) (maxL := 3) (ret := (some .int)) (lv := [(0, .ref h), (1, .int p1), (2, .int p2)]) (Qc := fun A => qi0 D (tyM cI cZ cJ) A Q (wM cI cZ cJ h ad k_thrown k_s k_image k_hasImage k_steps k_read k_spot k_isWrong k_open k_act k_letBy k_letStamp k_stamp k_fallen k_held k_stands k_falling k_away k_round k_rests k_may k_next k_could k_couldNight k_night k_seats)) (by decide) rfl (Nat.le_of_ble_eq_true rfl) rfl ?_
  intro p e s m below meth c ls A R args QQ H locs C hr hlk hnm hK hX hsz hl hO hR hQQ
  have hx := C.1
  have hb := C.2.1
  have hown := C.2.2.2.1
  have hts := C.2.2.2.2
  have hin : ∀ w ∈ u_ws RX12 TX12 26, w ∈ (Cond.code yX12_late cX12_late 3 (some .int) :: wsG) := fun w h9 => List.mem_cons_of_mem _ (inG12 w h9)
  have lk_s := hts (Cond.fieldLink RX12 7 "FreeCityModel" "s" "[I") (List.mem_cons_of_mem _ qw5_207)
  unfold wp_X12_late at hw
  refine lv_aload_n hx hb dX12_late_0 rfl (lv_at hl 0 rfl) ?_
  refine lv_iload_n hx hb dX12_late_1 rfl (lv_at hl 1 rfl) ?_
  refine lv_bipush (v := (nI 7)) hx hb dX12_late_2 (by decide) ?_
  obtain ⟨o_4, hw⟩ := hw
  refine cVi0 (As := [.int p1, .int (nI 7)]) (rest := []) C hK hX hO (c_X12_isOf (l := l) o_4) (cwV 2 hts gd_X12_187 rfl rfl rfl hd_X12_isOf (rok hR (Nat.le_of_ble_eq_true rfl) (Nat.le_of_ble_eq_true rfl))) (ci := 12) (q0 := 0) rfl rfl rfl rfl hl.1 rfl (Nat.le_of_ble_eq_true rfl) dX12_late_4 ⟨Nat.zero_le _, Nat.zero_le _⟩ (fun r_4 H locs e_4 hO => ?_)
  subst e_4
  refine lv_if_ne (tgt := 12) hx hb dX12_late_7 (by decide) (fun q_7 => ?_) (fun q_7 => ?_)
  · have hw := hw.1 q_7
    refine lv_iload_n hx hb dX12_late_12 rfl (lv_at hl 2 rfl) ?_
    by_cases s_13_0 : p2 = (nI 0)
    · have hw := hw.1 s_13_0
      refine lv_tableIn (off := 27) (tgt := 40) hx hb dX12_late_13 (by rw [s_13_0]; decide) (by rw [s_13_0]; decide) (by rw [s_13_0]; decide) (by decide) ?_
      refine lv_aload_n hx hb dX12_late_40 rfl (lv_at hl 0 rfl) ?_
      refine gM_s C hin hK lk_s hO dX12_late_41 ?_
      refine lv_sipush (v := (nI 1760)) hx hb dX12_late_44 (by decide) ?_
      refine lv_iload_n hx hb dX12_late_47 rfl (lv_at hl 1 rfl) ?_
      refine lv_iadd hx hb dX12_late_48 ?_
      obtain ⟨o_49, hw⟩ := hw
      refine ldM_s C hK hO o_49 rfl dX12_late_49 ?_
      exact ri0 hQQ hx hb hr hlk hK hO hw dX12_late_50
    by_cases s_13_1 : p2 = (nI 1)
    · have hw := hw.2.1 s_13_1
      refine lv_tableIn (off := 38) (tgt := 51) hx hb dX12_late_13 (by rw [s_13_1]; decide) (by rw [s_13_1]; decide) (by rw [s_13_1]; decide) (by decide) ?_
      refine lv_aload_n hx hb dX12_late_51 rfl (lv_at hl 0 rfl) ?_
      refine gM_s C hin hK lk_s hO dX12_late_52 ?_
      refine lv_sipush (v := (nI 1810)) hx hb dX12_late_55 (by decide) ?_
      refine lv_iload_n hx hb dX12_late_58 rfl (lv_at hl 1 rfl) ?_
      refine lv_iadd hx hb dX12_late_59 ?_
      obtain ⟨o_60, hw⟩ := hw
      refine ldM_s C hK hO o_60 rfl dX12_late_60 ?_
      exact ri0 hQQ hx hb hr hlk hK hO hw dX12_late_61
    by_cases s_13_2 : p2 = (nI 2)
    · have hw := hw.2.2.1 s_13_2
      refine lv_tableIn (off := 49) (tgt := 62) hx hb dX12_late_13 (by rw [s_13_2]; decide) (by rw [s_13_2]; decide) (by rw [s_13_2]; decide) (by decide) ?_
      refine lv_aload_n hx hb dX12_late_62 rfl (lv_at hl 0 rfl) ?_
      refine gM_s C hin hK lk_s hO dX12_late_63 ?_
      refine lv_sipush (v := (nI 1860)) hx hb dX12_late_66 (by decide) ?_
      refine lv_iload_n hx hb dX12_late_69 rfl (lv_at hl 1 rfl) ?_
      refine lv_iadd hx hb dX12_late_70 ?_
      obtain ⟨o_71, hw⟩ := hw
      refine ldM_s C hK hO o_71 rfl dX12_late_71 ?_
      exact ri0 hQQ hx hb hr hlk hK hO hw dX12_late_72
    have hw := hw.2.2.2 s_13_0 s_13_1 s_13_2
    have hts9 : (p2).toInt < 0 ∨ 2 < (p2).toInt := by
      refine tsw 0 2 (fun k h1 h2 => ?_)
      have h3 : k = 0 ∨ k = 1 ∨ k = 2 := by omega
      rcases h3 with rfl | rfl | rfl
      · exact s_13_0
      · exact s_13_1
      · exact s_13_2
    refine lv_tableOut (tgt := 73) hx hb dX12_late_13 hts9 (by decide) ?_
    refine lv_iconst (v := (-1)) hx hb dX12_late_73 (by decide) ?_
    exact ri0 hQQ hx hb hr hlk hK hO hw dX12_late_74
  · have hw := hw.2 q_7
    refine lv_iconst (v := (-1)) hx hb dX12_late_10 (by decide) ?_
    exact ri0 hQQ hx hb hr hlk hK hO hw dX12_late_11
def wb_X12_roundsTo_56 (k_s : Nat → Int32) (v3_43 : Int32) (L_43 : Int32 → Int32 → (Nat → Int32) → Prop) (L_56 : Int32 → Int32 → (Nat → Int32) → Prop) (v2_56 : Int32) (v4_56 : Int32) (away_56 : Nat → Int32) : Prop := (((k_s 2) ≤ v4_56 → (L_43 v2_56 (v3_43 + (nI 1)) away_56)) ∧ (¬ (k_s 2) ≤ v4_56 → (ok_X12_leans k_s v3_43 v4_56 ∧ (((¬ (f_X12_leans k_s v3_43 v4_56) = 0 → (vp_in v4_56 50 ∧ vp_in v3_43 50))) ∧ (((¬ (f_X12_leans k_s v3_43 v4_56) = 0 ∧ ¬ (away_56 (v3_43).toNatClampNeg) ≤ ((away_56 (v4_56).toNatClampNeg) + (nI 1))) → (vp_in v4_56 50 ∧ (vp_in v3_43 50 ∧ (L_56 (nI 1) (v4_56 + (nI 1)) (upd away_56 ((v3_43).toNatClampNeg) ((away_56 (v4_56).toNatClampNeg) + (nI 1))))))) ∧ (¬ ((¬ (f_X12_leans k_s v3_43 v4_56) = 0 ∧ ¬ (away_56 (v3_43).toNatClampNeg) ≤ ((away_56 (v4_56).toNatClampNeg) + (nI 1)))) → (L_56 v2_56 (v4_56 + (nI 1)) away_56)))))))
def wl_X12_roundsTo_56 (k_s : Nat → Int32) (v3_43 : Int32) (L_43 : Int32 → Int32 → (Nat → Int32) → Prop) : Nat → Int32 → Int32 → (Nat → Int32) → Prop
  | 0, _, _, _ => False
  | n + 1, v2_56, v4_56, away_56 => wb_X12_roundsTo_56 k_s v3_43 L_43 (wl_X12_roundsTo_56 k_s v3_43 L_43 n) v2_56 v4_56 away_56
def wb_X12_roundsTo_43 (p1 : Int32) (k_s : Nat → Int32) (L_33 : Int32 → (Nat → Int32) → Prop) (L_43 : Int32 → Int32 → (Nat → Int32) → Prop) (v2_43 : Int32) (v3_43 : Int32) (away_43 : Nat → Int32) : Prop := (((k_s 2) ≤ v3_43 → (L_33 v2_43 away_43)) ∧ (¬ (k_s 2) ≤ v3_43 → (∃ n, wl_X12_roundsTo_56 k_s v3_43 L_43 n v2_43 p1 away_43)))
def wl_X12_roundsTo_43 (p1 : Int32) (k_s : Nat → Int32) (L_33 : Int32 → (Nat → Int32) → Prop) : Nat → Int32 → Int32 → (Nat → Int32) → Prop
  | 0, _, _, _ => False
  | n + 1, v2_43, v3_43, away_43 => wb_X12_roundsTo_43 p1 k_s L_33 (wl_X12_roundsTo_43 p1 k_s L_33 n) v2_43 v3_43 away_43
def wb_X12_roundsTo_33 (p1 : Int32) (k_s : Nat → Int32) (Q : (Nat → Int32) → Prop) (L_33 : Int32 → (Nat → Int32) → Prop) (v2_33 : Int32) (away_33 : Nat → Int32) : Prop := ((v2_33 = 0 → (Q away_33)) ∧ (¬ v2_33 = 0 → (∃ n, wl_X12_roundsTo_43 p1 k_s L_33 n (nI 0) (p1 + (nI 1)) away_33)))
def wl_X12_roundsTo_33 (p1 : Int32) (k_s : Nat → Int32) (Q : (Nat → Int32) → Prop) : Nat → Int32 → (Nat → Int32) → Prop
  | 0, _, _ => False
  | n + 1, v2_33, away_33 => wb_X12_roundsTo_33 p1 k_s Q (wl_X12_roundsTo_33 p1 k_s Q n) v2_33 away_33
def wb_X12_roundsTo_2 (p1 : Int32) (k_s : Nat → Int32) (Q : (Nat → Int32) → Prop) (L_2 : Int32 → (Nat → Int32) → Prop) (v2_2 : Int32) (away_2 : Nat → Int32) : Prop := (((nI 50) ≤ v2_2 → (∃ n, wl_X12_roundsTo_33 p1 k_s Q n (nI 1) away_2)) ∧ (¬ (nI 50) ≤ v2_2 → (∀ y2_24 : Int32, y2_24 = (if v2_2 = p1 then (nI 0) else (nI 99)) → (vp_in v2_2 50 ∧ (L_2 (v2_2 + (nI 1)) (upd away_2 ((v2_2).toNatClampNeg) y2_24))))))
def wl_X12_roundsTo_2 (p1 : Int32) (k_s : Nat → Int32) (Q : (Nat → Int32) → Prop) : Nat → Int32 → (Nat → Int32) → Prop
  | 0, _, _ => False
  | n + 1, v2_2, away_2 => wb_X12_roundsTo_2 p1 k_s Q (wl_X12_roundsTo_2 p1 k_s Q n) v2_2 away_2
def wp_X12_roundsTo (p1 : Int32) (k_s : Nat → Int32) (k_away : Nat → Int32) (Q : (Nat → Int32) → Prop) : Prop := (∃ n, wl_X12_roundsTo_2 p1 k_s Q n (nI 0) k_away)
set_option maxHeartbeats 4000000 in
set_option maxRecDepth 100000 in
theorem c_X12_roundsTo {l : Launch} {D : va_G} {cI cZ cJ : ClassId} {h : Nat} {ad : Nat → Nat} {sz : Nat} {k_thrown : Int32} {k_s : Nat → Int32} {k_image : Nat → Int32} {k_hasImage : Int32} {k_steps : Nat → Int32} {k_read : Int32} {k_spot : Int32} {k_isWrong : Int32} {k_open : Int32} {k_act : Int32} {k_letBy : Nat → Int32} {k_letStamp : Nat → Int32} {k_stamp : Int32} {k_fallen : Nat → Int32} {k_held : Nat → Int32} {k_stands : Nat → Int32} {k_falling : Nat → Int32} {k_away : Nat → Int32} {k_round : Nat → Int32} {k_rests : Nat → Int64} {k_may : Nat → Int32} {k_next : Nat → Int32} {k_could : Nat → Int32} {k_couldNight : Nat → Int32} {k_night : Int32} {k_seats : Nat → Int32} {p1 : Int32} {Q : (Nat → Int32) → Prop} (hw : wp_X12_roundsTo p1 k_s k_away Q) : Met l yX12_roundsTo (Cond.code yX12_roundsTo cX12_roundsTo 5 none :: wsG) ({ frames := 1, cells := 0, slots := 0, locals := 22 } : Room) (preW D (tyM cI cZ cJ) (wM cI cZ cJ h ad k_thrown k_s k_image k_hasImage k_steps k_read k_spot k_isWrong k_open k_act k_letBy k_letStamp k_stamp k_fallen k_held k_stands k_falling k_away k_round k_rests k_may k_next k_could k_couldNight k_night k_seats) sz [.ref h, .int p1]) (qv1 D (tyM cI cZ cJ) (va_A (wM cI cZ cJ h ad k_thrown k_s k_image k_hasImage k_steps k_read k_spot k_isWrong k_open k_act k_letBy k_letStamp k_stamp k_fallen k_held k_stands k_falling k_away k_round k_rests k_may k_next k_could k_couldNight k_night k_seats) sz) Q (fun k_away' => (wM cI cZ cJ h ad k_thrown k_s k_image k_hasImage k_steps k_read k_spot k_isWrong k_open k_act k_letBy k_letStamp k_stamp k_fallen k_held k_stands k_falling k_away' k_round k_rests k_may k_next k_could k_couldNight k_night k_seats))) 0 0 (va_A (wM cI cZ cJ h ad k_thrown k_s k_image k_hasImage k_steps k_read k_spot k_isWrong k_open k_act k_letBy k_letStamp k_stamp k_fallen k_held k_stands k_falling k_away k_round k_rests k_may k_next k_could k_couldNight k_night k_seats) sz) := by
  refine st_met (cc := cX12_roundsTo) (maxL := 5) (ret := none) (lv := [(0, .ref h), (1, .int p1)]) (Qc := fun A => qv1 D (tyM cI cZ cJ) A Q (fun k_away' => (wM cI cZ cJ h ad k_thrown k_s k_image k_hasImage k_steps k_read k_spot k_isWrong k_open k_act k_letBy k_letStamp k_stamp k_fallen k_held k_stands k_falling k_away' k_round k_rests k_may k_next k_could k_couldNight k_night k_seats))) (by decide) rfl (Nat.le_of_ble_eq_true rfl) rfl ?_
  intro p e s m below meth c ls A R args QQ H locs C hr hlk hnm hK hX hsz hl hO hR hQQ
  have hx := C.1
  have hb := C.2.1
  have hown := C.2.2.2.1
  have hts := C.2.2.2.2
  have hin : ∀ w ∈ u_ws RX12 TX12 26, w ∈ (Cond.code yX12_roundsTo cX12_roundsTo 5 none :: wsG) := fun w h9 => List.mem_cons_of_mem _ (inG12 w h9)
  have lk_away := hts (Cond.fieldLink RX12 43 "FreeCityModel" "away" "[I") (List.mem_cons_of_mem _ qw5_223)
  have lk_s := hts (Cond.fieldLink RX12 7 "FreeCityModel" "s" "[I") (List.mem_cons_of_mem _ qw5_207)
  unfold wp_X12_roundsTo at hw
  refine lv_iconst (v := (nI 0)) hx hb dX12_roundsTo_0 (by decide) ?_
  refine lv_istore_n (lv' := [(2, .int (nI 0)), (0, .ref h), (1, .int p1)]) hx hb dX12_roundsTo_1 rfl hl (by decide) rfl (fun ls hl => ?_)
  obtain ⟨n_2, hw⟩ := hw
  have b_2 : ∀ (L_2 : Int32 → (Nat → Int32) → Prop) (ih_2 : ∀ (v2_2 : Int32) (away_2 : Nat → Int32) (H : Heap) (locs : List Loc) (ls : Array Slot), okW D A s.heap H locs (wM cI cZ cJ h ad k_thrown k_s k_image k_hasImage k_steps k_read k_spot k_isWrong k_open k_act k_letBy k_letStamp k_stamp k_fallen k_held k_stands k_falling away_2 k_round k_rests k_may k_next k_could k_couldNight k_night k_seats) → lv_has ls 5 [(0, .ref h), (1, .int p1), (2, .int v2_2)] → L_2 v2_2 away_2 → W p l e R s m args below meth c H locs 0 0 QQ (F0 m 2 ls [])) (v2_2 : Int32) (away_2 : Nat → Int32) (H : Heap) (locs : List Loc) (ls : Array Slot), okW D A s.heap H locs (wM cI cZ cJ h ad k_thrown k_s k_image k_hasImage k_steps k_read k_spot k_isWrong k_open k_act k_letBy k_letStamp k_stamp k_fallen k_held k_stands k_falling away_2 k_round k_rests k_may k_next k_could k_couldNight k_night k_seats) → lv_has ls 5 [(0, .ref h), (1, .int p1), (2, .int v2_2)] → wb_X12_roundsTo_2 p1 k_s Q L_2 v2_2 away_2 → W p l e R s m args below meth c H locs 0 0 QQ (F0 m 2 ls []) := by
    intro L_2 ih_2 v2_2 away_2 H locs ls hO hl hw
    unfold wb_X12_roundsTo_2 at hw
    refine lv_iload_n hx hb dX12_roundsTo_2 rfl (lv_at hl 2 rfl) ?_
    refine lv_bipush (v := (nI 50)) hx hb dX12_roundsTo_3 (by decide) ?_
    refine lv_icmp_ge (tgt := 31) hx hb dX12_roundsTo_5 (by decide) (fun q_5 => ?_) (fun q_5 => ?_)
    · have hw := hw.1 q_5
      refine lv_iconst (v := (nI 1)) hx hb dX12_roundsTo_31 (by decide) ?_
      refine lv_istore_n (lv' := [(2, .int (nI 1)), (0, .ref h), (1, .int p1)]) hx hb dX12_roundsTo_32 rfl hl (by decide) rfl (fun ls hl => ?_)
      obtain ⟨n_33, hw⟩ := hw
      have b_33 : ∀ (L_33 : Int32 → (Nat → Int32) → Prop) (ih_33 : ∀ (v2_33 : Int32) (away_33 : Nat → Int32) (H : Heap) (locs : List Loc) (ls : Array Slot), okW D A s.heap H locs (wM cI cZ cJ h ad k_thrown k_s k_image k_hasImage k_steps k_read k_spot k_isWrong k_open k_act k_letBy k_letStamp k_stamp k_fallen k_held k_stands k_falling away_33 k_round k_rests k_may k_next k_could k_couldNight k_night k_seats) → lv_has ls 5 [(0, .ref h), (1, .int p1), (2, .int v2_33)] → L_33 v2_33 away_33 → W p l e R s m args below meth c H locs 0 0 QQ (F0 m 33 ls [])) (v2_33 : Int32) (away_33 : Nat → Int32) (H : Heap) (locs : List Loc) (ls : Array Slot), okW D A s.heap H locs (wM cI cZ cJ h ad k_thrown k_s k_image k_hasImage k_steps k_read k_spot k_isWrong k_open k_act k_letBy k_letStamp k_stamp k_fallen k_held k_stands k_falling away_33 k_round k_rests k_may k_next k_could k_couldNight k_night k_seats) → lv_has ls 5 [(0, .ref h), (1, .int p1), (2, .int v2_33)] → wb_X12_roundsTo_33 p1 k_s Q L_33 v2_33 away_33 → W p l e R s m args below meth c H locs 0 0 QQ (F0 m 33 ls []) := by
        intro L_33 ih_33 v2_33 away_33 H locs ls hO hl hw
        unfold wb_X12_roundsTo_33 at hw
        refine lv_iload_n hx hb dX12_roundsTo_33 rfl (lv_at hl 2 rfl) ?_
        refine lv_if_eq (tgt := 127) hx hb dX12_roundsTo_34 (by decide) (fun q_34 => ?_) (fun q_34 => ?_)
        · have hw := hw.1 q_34
          exact rv1 hQQ hx hb hr hlk hK hO hw dX12_roundsTo_127
        · have hw := hw.2 q_34
          refine lv_iconst (v := (nI 0)) hx hb dX12_roundsTo_37 (by decide) ?_
          refine lv_istore_n (lv' := [(2, .int (nI 0)), (0, .ref h), (1, .int p1)]) hx hb dX12_roundsTo_38 rfl hl (by decide) rfl (fun ls hl => ?_)
          refine lv_iload_n hx hb dX12_roundsTo_39 rfl (lv_at hl 2 rfl) ?_
          refine lv_iconst (v := (nI 1)) hx hb dX12_roundsTo_40 (by decide) ?_
          refine lv_iadd hx hb dX12_roundsTo_41 ?_
          refine lv_istore_n (lv' := [(3, .int (p1 + (nI 1))), (2, .int (nI 0)), (0, .ref h), (1, .int p1)]) hx hb dX12_roundsTo_42 rfl hl (by decide) rfl (fun ls hl => ?_)
          obtain ⟨n_43, hw⟩ := hw
          have b_43 : ∀ (L_43 : Int32 → Int32 → (Nat → Int32) → Prop) (ih_43 : ∀ (v2_43 : Int32) (v3_43 : Int32) (away_43 : Nat → Int32) (H : Heap) (locs : List Loc) (ls : Array Slot), okW D A s.heap H locs (wM cI cZ cJ h ad k_thrown k_s k_image k_hasImage k_steps k_read k_spot k_isWrong k_open k_act k_letBy k_letStamp k_stamp k_fallen k_held k_stands k_falling away_43 k_round k_rests k_may k_next k_could k_couldNight k_night k_seats) → lv_has ls 5 [(0, .ref h), (1, .int p1), (2, .int v2_43), (3, .int v3_43)] → L_43 v2_43 v3_43 away_43 → W p l e R s m args below meth c H locs 0 0 QQ (F0 m 43 ls [])) (v2_43 : Int32) (v3_43 : Int32) (away_43 : Nat → Int32) (H : Heap) (locs : List Loc) (ls : Array Slot), okW D A s.heap H locs (wM cI cZ cJ h ad k_thrown k_s k_image k_hasImage k_steps k_read k_spot k_isWrong k_open k_act k_letBy k_letStamp k_stamp k_fallen k_held k_stands k_falling away_43 k_round k_rests k_may k_next k_could k_couldNight k_night k_seats) → lv_has ls 5 [(0, .ref h), (1, .int p1), (2, .int v2_43), (3, .int v3_43)] → wb_X12_roundsTo_43 p1 k_s L_33 L_43 v2_43 v3_43 away_43 → W p l e R s m args below meth c H locs 0 0 QQ (F0 m 43 ls []) := by
            intro L_43 ih_43 v2_43 v3_43 away_43 H locs ls hO hl hw
            unfold wb_X12_roundsTo_43 at hw
            refine lv_iload_n hx hb dX12_roundsTo_43 rfl (lv_at hl 3 rfl) ?_
            refine lv_aload_n hx hb dX12_roundsTo_44 rfl (lv_at hl 0 rfl) ?_
            refine gM_s C hin hK lk_s hO dX12_roundsTo_45 ?_
            refine lv_iconst (v := (nI 2)) hx hb dX12_roundsTo_48 (by decide) ?_
            refine ldM_s C hK hO (inK 2 6700 (by decide) (by decide)) (clK 2 (by decide)) dX12_roundsTo_49 ?_
            refine lv_icmp_ge (tgt := 124) hx hb dX12_roundsTo_50 (by decide) (fun q_50 => ?_) (fun q_50 => ?_)
            · have hw := hw.1 q_50
              refine lv_goto (tgt := 33) hx hb dX12_roundsTo_124 (by decide) ?_
              exact ih_33 v2_43 away_43 _ _ _ hO (lv_sub hl [0, 1, 2] rfl) hw
            · have hw := hw.2 q_50
              refine lv_iload_n hx hb dX12_roundsTo_53 rfl (lv_at hl 1 rfl) ?_
              refine lv_istore (lv' := [(4, .int p1), (0, .ref h), (1, .int p1), (2, .int v2_43), (3, .int v3_43)]) hx hb dX12_roundsTo_54 hl (by decide) rfl (fun ls hl => ?_)
              obtain ⟨n_56, hw⟩ := hw
              have b_56 : ∀ (L_56 : Int32 → Int32 → (Nat → Int32) → Prop) (ih_56 : ∀ (v2_56 : Int32) (v4_56 : Int32) (away_56 : Nat → Int32) (H : Heap) (locs : List Loc) (ls : Array Slot), okW D A s.heap H locs (wM cI cZ cJ h ad k_thrown k_s k_image k_hasImage k_steps k_read k_spot k_isWrong k_open k_act k_letBy k_letStamp k_stamp k_fallen k_held k_stands k_falling away_56 k_round k_rests k_may k_next k_could k_couldNight k_night k_seats) → lv_has ls 5 [(0, .ref h), (1, .int p1), (2, .int v2_56), (3, .int v3_43), (4, .int v4_56)] → L_56 v2_56 v4_56 away_56 → W p l e R s m args below meth c H locs 0 0 QQ (F0 m 56 ls [])) (v2_56 : Int32) (v4_56 : Int32) (away_56 : Nat → Int32) (H : Heap) (locs : List Loc) (ls : Array Slot), okW D A s.heap H locs (wM cI cZ cJ h ad k_thrown k_s k_image k_hasImage k_steps k_read k_spot k_isWrong k_open k_act k_letBy k_letStamp k_stamp k_fallen k_held k_stands k_falling away_56 k_round k_rests k_may k_next k_could k_couldNight k_night k_seats) → lv_has ls 5 [(0, .ref h), (1, .int p1), (2, .int v2_56), (3, .int v3_43), (4, .int v4_56)] → wb_X12_roundsTo_56 k_s v3_43 L_43 L_56 v2_56 v4_56 away_56 → W p l e R s m args below meth c H locs 0 0 QQ (F0 m 56 ls []) := by
                intro L_56 ih_56 v2_56 v4_56 away_56 H locs ls hO hl hw
                unfold wb_X12_roundsTo_56 at hw
                refine lv_iload hx hb dX12_roundsTo_56 (lv_at hl 4 rfl) ?_
                refine lv_aload_n hx hb dX12_roundsTo_58 rfl (lv_at hl 0 rfl) ?_
                refine gM_s C hin hK lk_s hO dX12_roundsTo_59 ?_
                refine lv_iconst (v := (nI 2)) hx hb dX12_roundsTo_62 (by decide) ?_
                refine ldM_s C hK hO (inK 2 6700 (by decide) (by decide)) (clK 2 (by decide)) dX12_roundsTo_63 ?_
                refine lv_icmp_ge (tgt := 118) hx hb dX12_roundsTo_64 (by decide) (fun q_64 => ?_) (fun q_64 => ?_)
                · have hw := hw.1 q_64
                  refine lv_iinc (v := (v3_43 + (nI 1))) (lv' := [(3, .int (v3_43 + (nI 1))), (0, .ref h), (1, .int p1), (2, .int v2_56), (4, .int v4_56)]) hx hb dX12_roundsTo_118 hl (k := 3) rfl (iinc_1 _) (by decide) rfl (fun ls hl => ?_)
                  refine lv_goto (tgt := 43) hx hb dX12_roundsTo_121 (by decide) ?_
                  exact ih_43 v2_56 (v3_43 + (nI 1)) away_56 _ _ _ hO (lv_sub hl [1, 2, 3, 0] rfl) hw
                · have hw := hw.2 q_64
                  refine lv_aload_n hx hb dX12_roundsTo_67 rfl (lv_at hl 0 rfl) ?_
                  refine lv_iload_n hx hb dX12_roundsTo_68 rfl (lv_at hl 3 rfl) ?_
                  refine lv_iload hx hb dX12_roundsTo_69 (lv_at hl 4 rfl) ?_
                  obtain ⟨o_71, hw⟩ := hw
                  refine cVi0 (As := [.int v3_43, .int v4_56]) (rest := []) C hK hX hO (c_X12_leans (l := l) o_71) (cwV 2 hts gd_X12_190 rfl rfl rfl hd_X12_leans (rok hR (Nat.le_of_ble_eq_true rfl) (Nat.le_of_ble_eq_true rfl))) (ci := 12) (q0 := 0) rfl rfl rfl rfl hl.1 rfl (Nat.le_of_ble_eq_true rfl) dX12_roundsTo_71 ⟨Nat.zero_le _, Nat.zero_le _⟩ (fun r_71 H locs e_71 hO => ?_)
                  subst e_71
                  obtain ⟨hs, hw⟩ := hw
                  have a_95 : (¬ (f_X12_leans k_s v3_43 v4_56) = 0 ∧ ¬ (away_56 (v3_43).toNatClampNeg) ≤ ((away_56 (v4_56).toNatClampNeg) + (nI 1))) → ∀ (H : Heap) (locs : List Loc) (ls : Array Slot), okW D A s.heap H locs (wM cI cZ cJ h ad k_thrown k_s k_image k_hasImage k_steps k_read k_spot k_isWrong k_open k_act k_letBy k_letStamp k_stamp k_fallen k_held k_stands k_falling away_56 k_round k_rests k_may k_next k_could k_couldNight k_night k_seats) → lv_has ls 5 [(0, .ref h), (1, .int p1), (3, .int v3_43), (4, .int v4_56)] → W p l e R s m args below meth c H locs 0 0 QQ (F0 m 95 ls []) := by
                    intro cf H locs ls hO hl
                    have hw := hw.1 cf
                    refine lv_aload_n hx hb dX12_roundsTo_95 rfl (lv_at hl 0 rfl) ?_
                    refine gM_away C hin hK lk_away hO dX12_roundsTo_96 ?_
                    refine lv_iload_n hx hb dX12_roundsTo_99 rfl (lv_at hl 2 rfl) ?_
                    refine lv_aload_n hx hb dX12_roundsTo_100 rfl (lv_at hl 0 rfl) ?_
                    refine gM_away C hin hK lk_away hO dX12_roundsTo_101 ?_
                    refine lv_iload hx hb dX12_roundsTo_104 (lv_at hl 3 rfl) ?_
                    obtain ⟨o_106, hw⟩ := hw
                    refine ldM_away C hK hO o_106 rfl dX12_roundsTo_106 ?_
                    refine lv_iconst (v := (nI 1)) hx hb dX12_roundsTo_107 (by decide) ?_
                    refine lv_iadd hx hb dX12_roundsTo_108 ?_
                    obtain ⟨o_109, hw⟩ := hw
                    refine stM_away C hK hO o_109 rfl dX12_roundsTo_109 (fun H locs hO => ?_)
                    refine lv_iconst (v := (nI 1)) hx hb dX12_roundsTo_110 (by decide) ?_
                    refine lv_istore_n (lv' := [(2, .int (nI 1)), (0, .ref h), (1, .int p1), (3, .int v3_43), (4, .int v4_56)]) hx hb dX12_roundsTo_111 rfl hl (by decide) rfl (fun ls hl => ?_)
                    refine lv_iinc (v := (v4_56 + (nI 1))) (lv' := [(4, .int (v4_56 + (nI 1))), (2, .int (nI 1)), (0, .ref h), (1, .int p1), (3, .int v3_43)]) hx hb dX12_roundsTo_112 hl (k := 4) rfl (iinc_1 _) (by decide) rfl (fun ls hl => ?_)
                    refine lv_goto (tgt := 56) hx hb dX12_roundsTo_115 (by decide) ?_
                    exact ih_56 (nI 1) (v4_56 + (nI 1)) (upd away_56 ((v3_43).toNatClampNeg) ((away_56 (v4_56).toNatClampNeg) + (nI 1))) _ _ _ hO (lv_sub hl [2, 3, 1, 4, 0] rfl) hw
                  have a_112 : ¬ ((¬ (f_X12_leans k_s v3_43 v4_56) = 0 ∧ ¬ (away_56 (v3_43).toNatClampNeg) ≤ ((away_56 (v4_56).toNatClampNeg) + (nI 1)))) → ∀ (H : Heap) (locs : List Loc) (ls : Array Slot), okW D A s.heap H locs (wM cI cZ cJ h ad k_thrown k_s k_image k_hasImage k_steps k_read k_spot k_isWrong k_open k_act k_letBy k_letStamp k_stamp k_fallen k_held k_stands k_falling away_56 k_round k_rests k_may k_next k_could k_couldNight k_night k_seats) → lv_has ls 5 [(0, .ref h), (1, .int p1), (2, .int v2_56), (3, .int v3_43), (4, .int v4_56)] → W p l e R s m args below meth c H locs 0 0 QQ (F0 m 112 ls []) := by
                    intro cf H locs ls hO hl
                    have hw := hw.2 cf
                    refine lv_iinc (v := (v4_56 + (nI 1))) (lv' := [(4, .int (v4_56 + (nI 1))), (0, .ref h), (1, .int p1), (2, .int v2_56), (3, .int v3_43)]) hx hb dX12_roundsTo_112 hl (k := 4) rfl (iinc_1 _) (by decide) rfl (fun ls hl => ?_)
                    refine lv_goto (tgt := 56) hx hb dX12_roundsTo_115 (by decide) ?_
                    exact ih_56 v2_56 (v4_56 + (nI 1)) away_56 _ _ _ hO (lv_sub hl [1, 2, 3, 4, 0] rfl) hw
                  refine lv_if_eq (tgt := 112) hx hb dX12_roundsTo_74 (by decide) (fun q_74 => ?_) (fun q_74 => ?_)
                  · have hl := lv_sub hl [0, 1, 2, 3, 4] rfl (l' := [(0, .ref h), (1, .int p1), (2, .int v2_56), (3, .int v3_43), (4, .int v4_56)])
                    exact a_112 (fun h => h.1 q_74) _ _ _ hO hl
                  · have hs := hs q_74
                    obtain ⟨o_83, o_91⟩ := hs
                    refine lv_aload_n hx hb dX12_roundsTo_77 rfl (lv_at hl 0 rfl) ?_
                    refine gM_away C hin hK lk_away hO dX12_roundsTo_78 ?_
                    refine lv_iload hx hb dX12_roundsTo_81 (lv_at hl 4 rfl) ?_
                    refine ldM_away C hK hO o_83 rfl dX12_roundsTo_83 ?_
                    refine lv_iconst (v := (nI 1)) hx hb dX12_roundsTo_84 (by decide) ?_
                    refine lv_iadd hx hb dX12_roundsTo_85 ?_
                    refine lv_aload_n hx hb dX12_roundsTo_86 rfl (lv_at hl 0 rfl) ?_
                    refine gM_away C hin hK lk_away hO dX12_roundsTo_87 ?_
                    refine lv_iload_n hx hb dX12_roundsTo_90 rfl (lv_at hl 3 rfl) ?_
                    refine ldM_away C hK hO o_91 rfl dX12_roundsTo_91 ?_
                    refine lv_icmp_ge (tgt := 112) hx hb dX12_roundsTo_92 (by decide) (fun q_92 => ?_) (fun q_92 => ?_)
                    · have hl := lv_sub hl [0, 1, 2, 3, 4] rfl (l' := [(0, .ref h), (1, .int p1), (2, .int v2_56), (3, .int v3_43), (4, .int v4_56)])
                      exact a_112 (fun h => ((fun h => h q_92)) h.2) _ _ _ hO hl
                    · have hl := lv_sub hl [0, 1, 3, 4] rfl (l' := [(0, .ref h), (1, .int p1), (3, .int v3_43), (4, .int v4_56)])
                      exact a_95 ⟨q_74, q_92⟩ _ _ _ hO hl
              have l_56 : ∀ (n : Nat) (v2_56 : Int32) (v4_56 : Int32) (away_56 : Nat → Int32) (H : Heap) (locs : List Loc) (ls : Array Slot), okW D A s.heap H locs (wM cI cZ cJ h ad k_thrown k_s k_image k_hasImage k_steps k_read k_spot k_isWrong k_open k_act k_letBy k_letStamp k_stamp k_fallen k_held k_stands k_falling away_56 k_round k_rests k_may k_next k_could k_couldNight k_night k_seats) → lv_has ls 5 [(0, .ref h), (1, .int p1), (2, .int v2_56), (3, .int v3_43), (4, .int v4_56)] → wl_X12_roundsTo_56 k_s v3_43 L_43 n v2_56 v4_56 away_56 → W p l e R s m args below meth c H locs 0 0 QQ (F0 m 56 ls []) := by
                intro n
                induction n with
                | zero => intro v2_56 v4_56 away_56 H locs ls hO hl hw; exact False.elim hw
                | succ n ih => exact b_56 _ ih
              exact l_56 n_56 v2_43 p1 away_43 _ _ _ hO (lv_sub hl [1, 2, 3, 4, 0] rfl) hw
          have l_43 : ∀ (n : Nat) (v2_43 : Int32) (v3_43 : Int32) (away_43 : Nat → Int32) (H : Heap) (locs : List Loc) (ls : Array Slot), okW D A s.heap H locs (wM cI cZ cJ h ad k_thrown k_s k_image k_hasImage k_steps k_read k_spot k_isWrong k_open k_act k_letBy k_letStamp k_stamp k_fallen k_held k_stands k_falling away_43 k_round k_rests k_may k_next k_could k_couldNight k_night k_seats) → lv_has ls 5 [(0, .ref h), (1, .int p1), (2, .int v2_43), (3, .int v3_43)] → wl_X12_roundsTo_43 p1 k_s L_33 n v2_43 v3_43 away_43 → W p l e R s m args below meth c H locs 0 0 QQ (F0 m 43 ls []) := by
            intro n
            induction n with
            | zero => intro v2_43 v3_43 away_43 H locs ls hO hl hw; exact False.elim hw
            | succ n ih => exact b_43 _ ih
          exact l_43 n_43 (nI 0) (p1 + (nI 1)) away_33 _ _ _ hO (lv_sub hl [2, 3, 1, 0] rfl) hw
      have l_33 : ∀ (n : Nat) (v2_33 : Int32) (away_33 : Nat → Int32) (H : Heap) (locs : List Loc) (ls : Array Slot), okW D A s.heap H locs (wM cI cZ cJ h ad k_thrown k_s k_image k_hasImage k_steps k_read k_spot k_isWrong k_open k_act k_letBy k_letStamp k_stamp k_fallen k_held k_stands k_falling away_33 k_round k_rests k_may k_next k_could k_couldNight k_night k_seats) → lv_has ls 5 [(0, .ref h), (1, .int p1), (2, .int v2_33)] → wl_X12_roundsTo_33 p1 k_s Q n v2_33 away_33 → W p l e R s m args below meth c H locs 0 0 QQ (F0 m 33 ls []) := by
        intro n
        induction n with
        | zero => intro v2_33 away_33 H locs ls hO hl hw; exact False.elim hw
        | succ n ih => exact b_33 _ ih
      exact l_33 n_33 (nI 1) away_2 _ _ _ hO (lv_sub hl [1, 2, 0] rfl) hw
    · have hw := hw.2 q_5
      refine lv_aload_n hx hb dX12_roundsTo_8 rfl (lv_at hl 0 rfl) ?_
      refine gM_away C hin hK lk_away hO dX12_roundsTo_9 ?_
      refine lv_iload_n hx hb dX12_roundsTo_12 rfl (lv_at hl 2 rfl) ?_
      refine lv_iload_n hx hb dX12_roundsTo_13 rfl (lv_at hl 2 rfl) ?_
      refine lv_iload_n hx hb dX12_roundsTo_14 rfl (lv_at hl 1 rfl) ?_
      have m_24 : ∀ (y2_24 : Int32) (H : Heap) (locs : List Loc) (ls : Array Slot), y2_24 = (if v2_2 = p1 then (nI 0) else (nI 99)) → okW D A s.heap H locs (wM cI cZ cJ h ad k_thrown k_s k_image k_hasImage k_steps k_read k_spot k_isWrong k_open k_act k_letBy k_letStamp k_stamp k_fallen k_held k_stands k_falling away_2 k_round k_rests k_may k_next k_could k_couldNight k_night k_seats) → lv_has ls 5 [(0, .ref h), (1, .int p1), (2, .int v2_2)] → W p l e R s m args below meth c H locs 0 0 QQ (F0 m 24 ls [.int y2_24, .int v2_2, .ref (ad 17)]) := by
        intro y2_24 H locs ls ey2_24 hO hl
        have hw := hw y2_24 ey2_24
        obtain ⟨o_24, hw⟩ := hw
        refine stM_away C hK hO o_24 rfl dX12_roundsTo_24 (fun H locs hO => ?_)
        refine lv_iinc (v := (v2_2 + (nI 1))) (lv' := [(2, .int (v2_2 + (nI 1))), (0, .ref h), (1, .int p1)]) hx hb dX12_roundsTo_25 hl (k := 2) rfl (iinc_1 _) (by decide) rfl (fun ls hl => ?_)
        refine lv_goto (tgt := 2) hx hb dX12_roundsTo_28 (by decide) ?_
        exact ih_2 (v2_2 + (nI 1)) (upd away_2 ((v2_2).toNatClampNeg) y2_24) _ _ _ hO (lv_sub hl [1, 2, 0] rfl) hw
      refine lv_icmp_ne (tgt := 22) hx hb dX12_roundsTo_15 (by decide) (fun q_15 => ?_) (fun q_15 => ?_)
      · refine lv_bipush (v := (nI 99)) hx hb dX12_roundsTo_22 (by decide) ?_
        have hl := lv_sub hl [0, 1, 2] rfl (l' := [(0, .ref h), (1, .int p1), (2, .int v2_2)])
        exact m_24 _ _ _ _ (by rw [if_neg q_15]) hO hl
      · refine lv_iconst (v := (nI 0)) hx hb dX12_roundsTo_18 (by decide) ?_
        refine lv_goto (tgt := 24) hx hb dX12_roundsTo_19 (by decide) ?_
        have hl := lv_sub hl [0, 1, 2] rfl (l' := [(0, .ref h), (1, .int p1), (2, .int v2_2)])
        exact m_24 _ _ _ _ (by rw [if_pos q_15]) hO hl
  have l_2 : ∀ (n : Nat) (v2_2 : Int32) (away_2 : Nat → Int32) (H : Heap) (locs : List Loc) (ls : Array Slot), okW D A s.heap H locs (wM cI cZ cJ h ad k_thrown k_s k_image k_hasImage k_steps k_read k_spot k_isWrong k_open k_act k_letBy k_letStamp k_stamp k_fallen k_held k_stands k_falling away_2 k_round k_rests k_may k_next k_could k_couldNight k_night k_seats) → lv_has ls 5 [(0, .ref h), (1, .int p1), (2, .int v2_2)] → wl_X12_roundsTo_2 p1 k_s Q n v2_2 away_2 → W p l e R s m args below meth c H locs 0 0 QQ (F0 m 2 ls []) := by
    intro n
    induction n with
    | zero => intro v2_2 away_2 H locs ls hO hl hw; exact False.elim hw
    | succ n ih => exact b_2 _ ih
  exact l_2 n_2 (nI 0) k_away _ _ _ hO (lv_sub hl [1, 2, 0] rfl) hw
def wb_X12_soonest_12 (p1 : Int32) (p2 : Int32) (k_s : Nat → Int32) (k_away : Nat → Int32) (Q : Int32 → Prop) (L_12 : Int32 → Int32 → Prop) (v3_12 : Int32) (v4_12 : Int32) : Prop := ((v4_12 < p2 → (Q v3_12)) ∧ (¬ v4_12 < p2 → (ok_X12_leans k_s p1 v4_12 ∧ (((¬ (f_X12_leans k_s p1 v4_12) = 0 → (vp_in v4_12 50))) ∧ (∀ y0_56 : Int32, y0_56 = (if (f_X12_leans k_s p1 v4_12) = 0 then (nI 0) else (if (nI 99) ≤ (k_away (v4_12).toNatClampNeg) then (nI 0) else (if v4_12 = p2 then (if p1 = p2 then (nI 0) else (nI 1)) else (nI 1)))) → (((¬ y0_56 = 0 → ((¬ v3_12 = (-1) → (vp_in v4_12 50 ∧ vp_in v3_12 50))))) ∧ (∀ y0_90 : Int32, y0_90 = (if y0_56 = 0 then v3_12 else (if v3_12 = (-1) then v4_12 else (if (k_away (v3_12).toNatClampNeg) < (k_away (v4_12).toNatClampNeg) then v3_12 else v4_12))) → (L_12 y0_90 (v4_12 + (-1))))))))))
def wl_X12_soonest_12 (p1 : Int32) (p2 : Int32) (k_s : Nat → Int32) (k_away : Nat → Int32) (Q : Int32 → Prop) : Nat → Int32 → Int32 → Prop
  | 0, _, _ => False
  | n + 1, v3_12, v4_12 => wb_X12_soonest_12 p1 p2 k_s k_away Q (wl_X12_soonest_12 p1 p2 k_s k_away Q n) v3_12 v4_12
def wp_X12_soonest (p1 : Int32) (p2 : Int32) (k_s : Nat → Int32) (k_away : Nat → Int32) (Q : Int32 → Prop) : Prop := (∃ n, wl_X12_soonest_12 p1 p2 k_s k_away Q n (-1) ((k_s 2) - (nI 1)))
set_option maxHeartbeats 4000000 in
set_option maxRecDepth 100000 in
theorem c_X12_soonest {l : Launch} {D : va_G} {cI cZ cJ : ClassId} {h : Nat} {ad : Nat → Nat} {sz : Nat} {k_thrown : Int32} {k_s : Nat → Int32} {k_image : Nat → Int32} {k_hasImage : Int32} {k_steps : Nat → Int32} {k_read : Int32} {k_spot : Int32} {k_isWrong : Int32} {k_open : Int32} {k_act : Int32} {k_letBy : Nat → Int32} {k_letStamp : Nat → Int32} {k_stamp : Int32} {k_fallen : Nat → Int32} {k_held : Nat → Int32} {k_stands : Nat → Int32} {k_falling : Nat → Int32} {k_away : Nat → Int32} {k_round : Nat → Int32} {k_rests : Nat → Int64} {k_may : Nat → Int32} {k_next : Nat → Int32} {k_could : Nat → Int32} {k_couldNight : Nat → Int32} {k_night : Int32} {k_seats : Nat → Int32} {p1 : Int32} {p2 : Int32} {Q : Int32 → Prop} (hw : wp_X12_soonest p1 p2 k_s k_away Q) : Met l yX12_soonest (Cond.code yX12_soonest cX12_soonest 6 (some .int) :: wsG) ({ frames := 1, cells := 0, slots := 0, locals := 22 } : Room) (preW D (tyM cI cZ cJ) (wM cI cZ cJ h ad k_thrown k_s k_image k_hasImage k_steps k_read k_spot k_isWrong k_open k_act k_letBy k_letStamp k_stamp k_fallen k_held k_stands k_falling k_away k_round k_rests k_may k_next k_could k_couldNight k_night k_seats) sz [.ref h, .int p1, .int p2]) (qi0 D (tyM cI cZ cJ) (va_A (wM cI cZ cJ h ad k_thrown k_s k_image k_hasImage k_steps k_read k_spot k_isWrong k_open k_act k_letBy k_letStamp k_stamp k_fallen k_held k_stands k_falling k_away k_round k_rests k_may k_next k_could k_couldNight k_night k_seats) sz) Q (wM cI cZ cJ h ad k_thrown k_s k_image k_hasImage k_steps k_read k_spot k_isWrong k_open k_act k_letBy k_letStamp k_stamp k_fallen k_held k_stands k_falling k_away k_round k_rests k_may k_next k_could k_couldNight k_night k_seats)) 0 0 (va_A (wM cI cZ cJ h ad k_thrown k_s k_image k_hasImage k_steps k_read k_spot k_isWrong k_open k_act k_letBy k_letStamp k_stamp k_fallen k_held k_stands k_falling k_away k_round k_rests k_may k_next k_could k_couldNight k_night k_seats) sz) := by
  refine st_met (cc := cX12_soonest) (maxL := 6) (ret := (some .int)) (lv := [(0, .ref h), (1, .int p1), (2, .int p2)]) (Qc := fun A => qi0 D (tyM cI cZ cJ) A Q (wM cI cZ cJ h ad k_thrown k_s k_image k_hasImage k_steps k_read k_spot k_isWrong k_open k_act k_letBy k_letStamp k_stamp k_fallen k_held k_stands k_falling k_away k_round k_rests k_may k_next k_could k_couldNight k_night k_seats)) (by decide) rfl (Nat.le_of_ble_eq_true rfl) rfl ?_
  intro p e s m below meth c ls A R args QQ H locs C hr hlk hnm hK hX hsz hl hO hR hQQ
  have hx := C.1
  have hb := C.2.1
  have hown := C.2.2.2.1
  have hts := C.2.2.2.2
  have hin : ∀ w ∈ u_ws RX12 TX12 26, w ∈ (Cond.code yX12_soonest cX12_soonest 6 (some .int) :: wsG) := fun w h9 => List.mem_cons_of_mem _ (inG12 w h9)
  have lk_s := hts (Cond.fieldLink RX12 7 "FreeCityModel" "s" "[I") (List.mem_cons_of_mem _ qw5_207)
  have lk_away := hts (Cond.fieldLink RX12 43 "FreeCityModel" "away" "[I") (List.mem_cons_of_mem _ qw5_223)
  unfold wp_X12_soonest at hw
  refine lv_iconst (v := (-1)) hx hb dX12_soonest_0 (by decide) ?_
  refine lv_istore_n (lv' := [(3, .int (-1)), (0, .ref h), (1, .int p1), (2, .int p2)]) hx hb dX12_soonest_1 rfl hl (by decide) rfl (fun ls hl => ?_)
  refine lv_aload_n hx hb dX12_soonest_2 rfl (lv_at hl 1 rfl) ?_
  refine gM_s C hin hK lk_s hO dX12_soonest_3 ?_
  refine lv_iconst (v := (nI 2)) hx hb dX12_soonest_6 (by decide) ?_
  refine ldM_s C hK hO (inK 2 6700 (by decide) (by decide)) (clK 2 (by decide)) dX12_soonest_7 ?_
  refine lv_iconst (v := (nI 1)) hx hb dX12_soonest_8 (by decide) ?_
  refine lv_isub hx hb dX12_soonest_9 ?_
  refine lv_istore (lv' := [(4, .int ((k_s 2) - (nI 1))), (3, .int (-1)), (0, .ref h), (1, .int p1), (2, .int p2)]) hx hb dX12_soonest_10 hl (by decide) rfl (fun ls hl => ?_)
  obtain ⟨n_12, hw⟩ := hw
  have b_12 : ∀ (L_12 : Int32 → Int32 → Prop) (ih_12 : ∀ (v3_12 : Int32) (v4_12 : Int32) (H : Heap) (locs : List Loc) (ls : Array Slot), okW D A s.heap H locs (wM cI cZ cJ h ad k_thrown k_s k_image k_hasImage k_steps k_read k_spot k_isWrong k_open k_act k_letBy k_letStamp k_stamp k_fallen k_held k_stands k_falling k_away k_round k_rests k_may k_next k_could k_couldNight k_night k_seats) → lv_has ls 6 [(0, .ref h), (1, .int p1), (2, .int p2), (3, .int v3_12), (4, .int v4_12)] → L_12 v3_12 v4_12 → W p l e R s m args below meth c H locs 0 0 QQ (F0 m 12 ls [])) (v3_12 : Int32) (v4_12 : Int32) (H : Heap) (locs : List Loc) (ls : Array Slot), okW D A s.heap H locs (wM cI cZ cJ h ad k_thrown k_s k_image k_hasImage k_steps k_read k_spot k_isWrong k_open k_act k_letBy k_letStamp k_stamp k_fallen k_held k_stands k_falling k_away k_round k_rests k_may k_next k_could k_couldNight k_night k_seats) → lv_has ls 6 [(0, .ref h), (1, .int p1), (2, .int p2), (3, .int v3_12), (4, .int v4_12)] → wb_X12_soonest_12 p1 p2 k_s k_away Q L_12 v3_12 v4_12 → W p l e R s m args below meth c H locs 0 0 QQ (F0 m 12 ls []) := by
    intro L_12 ih_12 v3_12 v4_12 H locs ls hO hl hw
    unfold wb_X12_soonest_12 at hw
    refine lv_iload hx hb dX12_soonest_12 (lv_at hl 4 rfl) ?_
    refine lv_iload_n hx hb dX12_soonest_14 rfl (lv_at hl 2 rfl) ?_
    refine lv_icmp_lt (tgt := 97) hx hb dX12_soonest_15 (by decide) (fun q_15 => ?_) (fun q_15 => ?_)
    · have hw := hw.1 q_15
      refine lv_iload_n hx hb dX12_soonest_97 rfl (lv_at hl 3 rfl) ?_
      exact ri0 hQQ hx hb hr hlk hK hO hw dX12_soonest_98
    · have hw := hw.2 q_15
      refine lv_aload_n hx hb dX12_soonest_18 rfl (lv_at hl 0 rfl) ?_
      refine lv_iload_n hx hb dX12_soonest_19 rfl (lv_at hl 1 rfl) ?_
      refine lv_iload hx hb dX12_soonest_20 (lv_at hl 4 rfl) ?_
      obtain ⟨o_22, hw⟩ := hw
      refine cVi0 (As := [.int p1, .int v4_12]) (rest := []) C hK hX hO (c_X12_leans (l := l) o_22) (cwV 2 hts gd_X12_190 rfl rfl rfl hd_X12_leans (rok hR (Nat.le_of_ble_eq_true rfl) (Nat.le_of_ble_eq_true rfl))) (ci := 12) (q0 := 0) rfl rfl rfl rfl hl.1 rfl (Nat.le_of_ble_eq_true rfl) dX12_soonest_22 ⟨Nat.zero_le _, Nat.zero_le _⟩ (fun r_22 H locs e_22 hO => ?_)
      subst e_22
      obtain ⟨hs, hw⟩ := hw
      have m_56 : ∀ (y0_56 : Int32) (H : Heap) (locs : List Loc) (ls : Array Slot), y0_56 = (if (f_X12_leans k_s p1 v4_12) = 0 then (nI 0) else (if (nI 99) ≤ (k_away (v4_12).toNatClampNeg) then (nI 0) else (if v4_12 = p2 then (if p1 = p2 then (nI 0) else (nI 1)) else (nI 1)))) → okW D A s.heap H locs (wM cI cZ cJ h ad k_thrown k_s k_image k_hasImage k_steps k_read k_spot k_isWrong k_open k_act k_letBy k_letStamp k_stamp k_fallen k_held k_stands k_falling k_away k_round k_rests k_may k_next k_could k_couldNight k_night k_seats) → lv_has ls 6 [(0, .ref h), (1, .int p1), (2, .int p2), (3, .int v3_12), (4, .int v4_12)] → W p l e R s m args below meth c H locs 0 0 QQ (F0 m 56 ls [.int y0_56]) := by
        intro y0_56 H locs ls ey0_56 hO hl
        have hw := hw y0_56 ey0_56
        refine lv_istore (lv' := [(5, .int y0_56), (0, .ref h), (1, .int p1), (2, .int p2), (3, .int v3_12), (4, .int v4_12)]) hx hb dX12_soonest_56 hl (by decide) rfl (fun ls hl => ?_)
        refine lv_iload hx hb dX12_soonest_58 (lv_at hl 0 rfl) ?_
        obtain ⟨hs, hw⟩ := hw
        have m_90 : ∀ (y0_90 : Int32) (H : Heap) (locs : List Loc) (ls : Array Slot), y0_90 = (if y0_56 = 0 then v3_12 else (if v3_12 = (-1) then v4_12 else (if (k_away (v3_12).toNatClampNeg) < (k_away (v4_12).toNatClampNeg) then v3_12 else v4_12))) → okW D A s.heap H locs (wM cI cZ cJ h ad k_thrown k_s k_image k_hasImage k_steps k_read k_spot k_isWrong k_open k_act k_letBy k_letStamp k_stamp k_fallen k_held k_stands k_falling k_away k_round k_rests k_may k_next k_could k_couldNight k_night k_seats) → lv_has ls 6 [(0, .ref h), (1, .int p1), (2, .int p2), (4, .int v4_12)] → W p l e R s m args below meth c H locs 0 0 QQ (F0 m 90 ls [.int y0_90]) := by
          intro y0_90 H locs ls ey0_90 hO hl
          have hw := hw y0_90 ey0_90
          refine lv_istore_n (lv' := [(3, .int y0_90), (0, .ref h), (1, .int p1), (2, .int p2), (4, .int v4_12)]) hx hb dX12_soonest_90 rfl hl (by decide) rfl (fun ls hl => ?_)
          refine lv_iinc (v := (v4_12 + (-1))) (lv' := [(4, .int (v4_12 + (-1))), (3, .int y0_90), (0, .ref h), (1, .int p1), (2, .int p2)]) hx hb dX12_soonest_91 hl (k := 4) rfl (iinc_m1 _) (by decide) rfl (fun ls hl => ?_)
          refine lv_goto (tgt := 12) hx hb dX12_soonest_94 (by decide) ?_
          exact ih_12 y0_90 (v4_12 + (-1)) _ _ _ hO (lv_sub hl [2, 3, 4, 1, 0] rfl) hw
        refine lv_if_eq (tgt := 89) hx hb dX12_soonest_60 (by decide) (fun q_60 => ?_) (fun q_60 => ?_)
        · refine lv_iload_n hx hb dX12_soonest_89 rfl (lv_at hl 4 rfl) ?_
          have hl := lv_sub hl [1, 2, 3, 5] rfl (l' := [(0, .ref h), (1, .int p1), (2, .int p2), (4, .int v4_12)])
          exact m_90 _ _ _ _ (by rw [if_pos q_60]) hO hl
        · have hs := hs q_60
          refine lv_iload_n hx hb dX12_soonest_63 rfl (lv_at hl 4 rfl) ?_
          refine lv_iconst (v := (-1)) hx hb dX12_soonest_64 (by decide) ?_
          refine lv_icmp_eq (tgt := 84) hx hb dX12_soonest_65 (by decide) (fun q_65 => ?_) (fun q_65 => ?_)
          · refine lv_iload hx hb dX12_soonest_84 (lv_at hl 5 rfl) ?_
            refine lv_goto (tgt := 90) hx hb dX12_soonest_86 (by decide) ?_
            have hl := lv_sub hl [1, 2, 3, 5] rfl (l' := [(0, .ref h), (1, .int p1), (2, .int p2), (4, .int v4_12)])
            exact m_90 _ _ _ _ (by rw [if_neg q_60, if_pos q_65]) hO hl
          · have hs := hs q_65
            obtain ⟨o_74, o_80⟩ := hs
            refine lv_aload_n hx hb dX12_soonest_68 rfl (lv_at hl 1 rfl) ?_
            refine gM_away C hin hK lk_away hO dX12_soonest_69 ?_
            refine lv_iload hx hb dX12_soonest_72 (lv_at hl 5 rfl) ?_
            refine ldM_away C hK hO o_74 rfl dX12_soonest_74 ?_
            refine lv_aload_n hx hb dX12_soonest_75 rfl (lv_at hl 1 rfl) ?_
            refine gM_away C hin hK lk_away hO dX12_soonest_76 ?_
            refine lv_iload_n hx hb dX12_soonest_79 rfl (lv_at hl 4 rfl) ?_
            refine ldM_away C hK hO o_80 rfl dX12_soonest_80 ?_
            refine lv_icmp_gt (tgt := 89) hx hb dX12_soonest_81 (by decide) (fun q_81 => ?_) (fun q_81 => ?_)
            · refine lv_iload_n hx hb dX12_soonest_89 rfl (lv_at hl 4 rfl) ?_
              have hl := lv_sub hl [1, 2, 3, 5] rfl (l' := [(0, .ref h), (1, .int p1), (2, .int p2), (4, .int v4_12)])
              exact m_90 _ _ _ _ (by rw [if_neg q_60, if_neg q_65, if_pos q_81]) hO hl
            · refine lv_iload hx hb dX12_soonest_84 (lv_at hl 5 rfl) ?_
              refine lv_goto (tgt := 90) hx hb dX12_soonest_86 (by decide) ?_
              have hl := lv_sub hl [1, 2, 3, 5] rfl (l' := [(0, .ref h), (1, .int p1), (2, .int p2), (4, .int v4_12)])
              exact m_90 _ _ _ _ (by rw [if_neg q_60, if_neg q_65, if_neg q_81]) hO hl
      refine lv_if_eq (tgt := 55) hx hb dX12_soonest_25 (by decide) (fun q_25 => ?_) (fun q_25 => ?_)
      · refine lv_iconst (v := (nI 0)) hx hb dX12_soonest_55 (by decide) ?_
        have hl := lv_sub hl [0, 1, 2, 3, 4] rfl (l' := [(0, .ref h), (1, .int p1), (2, .int p2), (3, .int v3_12), (4, .int v4_12)])
        exact m_56 _ _ _ _ (by rw [if_pos q_25]) hO hl
      · have hs := hs q_25
        have o_34 := hs
        refine lv_aload_n hx hb dX12_soonest_28 rfl (lv_at hl 0 rfl) ?_
        refine gM_away C hin hK lk_away hO dX12_soonest_29 ?_
        refine lv_iload hx hb dX12_soonest_32 (lv_at hl 4 rfl) ?_
        refine ldM_away C hK hO o_34 rfl dX12_soonest_34 ?_
        refine lv_bipush (v := (nI 99)) hx hb dX12_soonest_35 (by decide) ?_
        refine lv_icmp_ge (tgt := 55) hx hb dX12_soonest_37 (by decide) (fun q_37 => ?_) (fun q_37 => ?_)
        · refine lv_iconst (v := (nI 0)) hx hb dX12_soonest_55 (by decide) ?_
          have hl := lv_sub hl [0, 1, 2, 3, 4] rfl (l' := [(0, .ref h), (1, .int p1), (2, .int p2), (3, .int v3_12), (4, .int v4_12)])
          exact m_56 _ _ _ _ (by rw [if_neg q_25, if_pos q_37]) hO hl
        · refine lv_iload hx hb dX12_soonest_40 (lv_at hl 4 rfl) ?_
          refine lv_iload_n hx hb dX12_soonest_42 rfl (lv_at hl 2 rfl) ?_
          refine lv_icmp_ne (tgt := 51) hx hb dX12_soonest_43 (by decide) (fun q_43 => ?_) (fun q_43 => ?_)
          · refine lv_iconst (v := (nI 1)) hx hb dX12_soonest_51 (by decide) ?_
            refine lv_goto (tgt := 56) hx hb dX12_soonest_52 (by decide) ?_
            have hl := lv_sub hl [0, 1, 2, 3, 4] rfl (l' := [(0, .ref h), (1, .int p1), (2, .int p2), (3, .int v3_12), (4, .int v4_12)])
            exact m_56 _ _ _ _ (by rw [if_neg q_25, if_neg q_37, if_neg q_43]) hO hl
          · refine lv_iload_n hx hb dX12_soonest_46 rfl (lv_at hl 1 rfl) ?_
            refine lv_iload_n hx hb dX12_soonest_47 rfl (lv_at hl 2 rfl) ?_
            refine lv_icmp_eq (tgt := 55) hx hb dX12_soonest_48 (by decide) (fun q_48 => ?_) (fun q_48 => ?_)
            · refine lv_iconst (v := (nI 0)) hx hb dX12_soonest_55 (by decide) ?_
              have hl := lv_sub hl [0, 1, 2, 3, 4] rfl (l' := [(0, .ref h), (1, .int p1), (2, .int p2), (3, .int v3_12), (4, .int v4_12)])
              exact m_56 _ _ _ _ (by rw [if_neg q_25, if_neg q_37, if_pos q_43, if_pos q_48]) hO hl
            · refine lv_iconst (v := (nI 1)) hx hb dX12_soonest_51 (by decide) ?_
              refine lv_goto (tgt := 56) hx hb dX12_soonest_52 (by decide) ?_
              have hl := lv_sub hl [0, 1, 2, 3, 4] rfl (l' := [(0, .ref h), (1, .int p1), (2, .int p2), (3, .int v3_12), (4, .int v4_12)])
              exact m_56 _ _ _ _ (by rw [if_neg q_25, if_neg q_37, if_pos q_43, if_neg q_48]) hO hl
  have l_12 : ∀ (n : Nat) (v3_12 : Int32) (v4_12 : Int32) (H : Heap) (locs : List Loc) (ls : Array Slot), okW D A s.heap H locs (wM cI cZ cJ h ad k_thrown k_s k_image k_hasImage k_steps k_read k_spot k_isWrong k_open k_act k_letBy k_letStamp k_stamp k_fallen k_held k_stands k_falling k_away k_round k_rests k_may k_next k_could k_couldNight k_night k_seats) → lv_has ls 6 [(0, .ref h), (1, .int p1), (2, .int p2), (3, .int v3_12), (4, .int v4_12)] → wl_X12_soonest_12 p1 p2 k_s k_away Q n v3_12 v4_12 → W p l e R s m args below meth c H locs 0 0 QQ (F0 m 12 ls []) := by
    intro n
    induction n with
    | zero => intro v3_12 v4_12 H locs ls hO hl hw; exact False.elim hw
    | succ n ih => exact b_12 _ ih
  exact l_12 n_12 (-1) ((k_s 2) - (nI 1)) _ _ _ hO (lv_sub hl [2, 3, 4, 1, 0] rfl) hw
