theorem gd_X12_197 {a : Cond} : GoodIn (a :: wsG) (wsV RX12 197 RX12 yX12_roundsTo (Cond.code yX12_roundsTo cX12_roundsTo 5 none :: wsG)) := gdV qw6_230 qw6_232 qs_57 qw1_12 qw6_233
theorem hd_X12_roundsTo : yX12_roundsTo.cls = RX12 ∧ yX12_roundsTo.cls ≠ "java/lang/invoke/MethodHandle" ∧ yX12_roundsTo.cls ≠ "java/lang/invoke/VarHandle" ∧ (parseMethodDescriptor yX12_roundsTo.desc).map (fun d => d.parameters.length) = some 1 := by decide +kernel
theorem gd_X12_200 {a : Cond} : GoodIn (a :: wsG) (wsV RX12 200 RX12 yX12_soonest (Cond.code yX12_soonest cX12_soonest 6 (some .int) :: wsG)) := gdV qw6_234 qw6_236 qs_58 qw1_12 qw6_237
theorem hd_X12_soonest : yX12_soonest.cls = RX12 ∧ yX12_soonest.cls ≠ "java/lang/invoke/MethodHandle" ∧ yX12_soonest.cls ≠ "java/lang/invoke/VarHandle" ∧ (parseMethodDescriptor yX12_soonest.desc).map (fun d => d.parameters.length) = some 2 := by decide +kernel
def wb_X12_again_107 (p1 : Int32) (k_s : Nat → Int32) (Q : Int32 → (Nat → Int32) → (Nat → Int32) → Prop) (v2_15 : Int32) (v3_15 : Int32) (away_98 : Nat → Int32) (L_107 : Int32 → Int32 → (Nat → Int32) → Prop) (v4_107 : Int32) (v5_107 : Int32) (round_107 : Nat → Int32) : Prop := ((v2_15 ≤ v5_107 → (((¬ p1 = (-1) → ((¬ v2_15 ≤ p1 → (vp_in p1 50))))) ∧ (∀ y0_161 : Int32, y0_161 = (if p1 = (-1) then v2_15 else (if v2_15 ≤ p1 then (-1) else (round_107 (p1).toNatClampNeg))) → (Q y0_161 away_98 round_107)))) ∧ (¬ v2_15 ≤ v5_107 → (vp_in v5_107 50 ∧ (wp_X12_soonest v4_107 v3_15 k_s away_98 (fun (r_126 : Int32) => (L_107 r_126 (v5_107 + (nI 1)) (upd round_107 ((v5_107).toNatClampNeg) v4_107)))))))
def wl_X12_again_107 (p1 : Int32) (k_s : Nat → Int32) (Q : Int32 → (Nat → Int32) → (Nat → Int32) → Prop) (v2_15 : Int32) (v3_15 : Int32) (away_98 : Nat → Int32) : Nat → Int32 → Int32 → (Nat → Int32) → Prop
  | 0, _, _, _ => False
  | n + 1, v4_107, v5_107, round_107 => wb_X12_again_107 p1 k_s Q v2_15 v3_15 away_98 (wl_X12_again_107 p1 k_s Q v2_15 v3_15 away_98 n) v4_107 v5_107 round_107
def wb_X12_again_15 (p1 : Int32) (k_s : Nat → Int32) (k_round : Nat → Int32) (Q : Int32 → (Nat → Int32) → (Nat → Int32) → Prop) (L_15 : Int32 → Int32 → Int32 → (Nat → Int32) → Prop) (v2_15 : Int32) (v3_15 : Int32) (v4_15 : Int32) (away_15 : Nat → Int32) : Prop := (((k_s 2) ≤ v4_15 → ((¬ v3_15 = (-1) → (wp_X12_roundsTo v3_15 k_s away_15 (fun (away_98 : Nat → Int32) => (∃ n, wl_X12_again_107 p1 k_s Q v2_15 v3_15 away_98 n v3_15 (nI 0) k_round)))) ∧ (v3_15 = (-1) → (∀ y0_95 : Int32, y0_95 = (if p1 = (-1) then (nI 0) else (-1)) → (Q y0_95 away_15 k_round))))) ∧ (¬ (k_s 2) ≤ v4_15 → (wp_X12_roundsTo v4_15 k_s away_15 (fun (away_29 : Nat → Int32) => (wp_X12_soonest v4_15 v4_15 k_s away_29 (fun (r_37 : Int32) => (((¬ r_37 = (-1) → (vp_in r_37 50 ∧ (¬ v2_15 ≤ ((away_29 (r_37).toNatClampNeg) + (nI 1)) → (vp_in r_37 50))))) ∧ (∀ x2_74 : Int32, x2_74 = (if r_37 = (-1) then v2_15 else (if v2_15 ≤ ((away_29 (r_37).toNatClampNeg) + (nI 1)) then v2_15 else ((away_29 (r_37).toNatClampNeg) + (nI 1)))) → (∀ x3_74 : Int32, x3_74 = (if r_37 = (-1) then v3_15 else (if v2_15 ≤ ((away_29 (r_37).toNatClampNeg) + (nI 1)) then v3_15 else v4_15)) → (L_15 x2_74 x3_74 (v4_15 + (nI 1)) away_29))))))))))
def wl_X12_again_15 (p1 : Int32) (k_s : Nat → Int32) (k_round : Nat → Int32) (Q : Int32 → (Nat → Int32) → (Nat → Int32) → Prop) : Nat → Int32 → Int32 → Int32 → (Nat → Int32) → Prop
  | 0, _, _, _, _ => False
  | n + 1, v2_15, v3_15, v4_15, away_15 => wb_X12_again_15 p1 k_s k_round Q (wl_X12_again_15 p1 k_s k_round Q n) v2_15 v3_15 v4_15 away_15
def wp_X12_again (p1 : Int32) (k_s : Nat → Int32) (k_away : Nat → Int32) (k_round : Nat → Int32) (Q : Int32 → (Nat → Int32) → (Nat → Int32) → Prop) : Prop := (((-1) ≤ p1 → (∃ n, wl_X12_again_15 p1 k_s k_round Q n (nI 99) (-1) (nI 0) k_away)) ∧ (¬ (-1) ≤ p1 → (Q (-1) k_away k_round)))
set_option maxHeartbeats 4000000 in
set_option maxRecDepth 100000 in
theorem c_X12_again {l : Launch} {D : va_G} {cI cZ cJ : ClassId} {h : Nat} {ad : Nat → Nat} {sz : Nat} {k_thrown : Int32} {k_s : Nat → Int32} {k_image : Nat → Int32} {k_hasImage : Int32} {k_steps : Nat → Int32} {k_read : Int32} {k_spot : Int32} {k_isWrong : Int32} {k_open : Int32} {k_act : Int32} {k_letBy : Nat → Int32} {k_letStamp : Nat → Int32} {k_stamp : Int32} {k_fallen : Nat → Int32} {k_held : Nat → Int32} {k_stands : Nat → Int32} {k_falling : Nat → Int32} {k_away : Nat → Int32} {k_round : Nat → Int32} {k_rests : Nat → Int64} {k_may : Nat → Int32} {k_next : Nat → Int32} {k_could : Nat → Int32} {k_couldNight : Nat → Int32} {k_night : Int32} {k_seats : Nat → Int32} {p1 : Int32} {Q : Int32 → (Nat → Int32) → (Nat → Int32) → Prop} (hw : wp_X12_again p1 k_s k_away k_round Q) : Met l yX12_again (Cond.code yX12_again cX12_again 6 (some .int) :: wsG) ({ frames := 2, cells := 0, slots := 0, locals := 47 } : Room) (preW D (tyM cI cZ cJ) (wM cI cZ cJ h ad k_thrown k_s k_image k_hasImage k_steps k_read k_spot k_isWrong k_open k_act k_letBy k_letStamp k_stamp k_fallen k_held k_stands k_falling k_away k_round k_rests k_may k_next k_could k_couldNight k_night k_seats) sz [.ref h, .int p1]) (qi2 D (tyM cI cZ cJ) (va_A (wM cI cZ cJ h ad k_thrown k_s k_image k_hasImage k_steps k_read k_spot k_isWrong k_open k_act k_letBy k_letStamp k_stamp k_fallen k_held k_stands k_falling k_away k_round k_rests k_may k_next k_could k_couldNight k_night k_seats) sz) Q (fun k_away' k_round' => (wM cI cZ cJ h ad k_thrown k_s k_image k_hasImage k_steps k_read k_spot k_isWrong k_open k_act k_letBy k_letStamp k_stamp k_fallen k_held k_stands k_falling k_away' k_round' k_rests k_may k_next k_could k_couldNight k_night k_seats))) 0 0 (va_A (wM cI cZ cJ h ad k_thrown k_s k_image k_hasImage k_steps k_read k_spot k_isWrong k_open k_act k_letBy k_letStamp k_stamp k_fallen k_held k_stands k_falling k_away k_round k_rests k_may k_next k_could k_couldNight k_night k_seats) sz) := by
  refine st_met (cc := cX12_again) (maxL := 6) (ret := (some .int)) (lv := [(0, .ref h), (1, .int p1)]) (Qc := fun A => qi2 D (tyM cI cZ cJ) A Q (fun k_away' k_round' => (wM cI cZ cJ h ad k_thrown k_s k_image k_hasImage k_steps k_read k_spot k_isWrong k_open k_act k_letBy k_letStamp k_stamp k_fallen k_held k_stands k_falling k_away' k_round' k_rests k_may k_next k_could k_couldNight k_night k_seats))) (by decide) rfl (Nat.le_of_ble_eq_true rfl) rfl ?_
  intro p e s m below meth c ls A R args QQ H locs C hr hlk hnm hK hX hsz hl hO hR hQQ
  have hx := C.1
  have hb := C.2.1
  have hown := C.2.2.2.1
  have hts := C.2.2.2.2
  have hin : ∀ w ∈ u_ws RX12 TX12 26, w ∈ (Cond.code yX12_again cX12_again 6 (some .int) :: wsG) := fun w h9 => List.mem_cons_of_mem _ (inG12 w h9)
  have lk_s := hts (Cond.fieldLink RX12 7 "FreeCityModel" "s" "[I") (List.mem_cons_of_mem _ qw5_207)
  have lk_round := hts (Cond.fieldLink RX12 46 "FreeCityModel" "round" "[I") (List.mem_cons_of_mem _ qw5_224)
  have lk_away := hts (Cond.fieldLink RX12 43 "FreeCityModel" "away" "[I") (List.mem_cons_of_mem _ qw5_223)
  unfold wp_X12_again at hw
  refine lv_iload_n hx hb dX12_again_0 rfl (lv_at hl 1 rfl) ?_
  refine lv_iconst (v := (-1)) hx hb dX12_again_1 (by decide) ?_
  refine lv_icmp_ge (tgt := 7) hx hb dX12_again_2 (by decide) (fun q_2 => ?_) (fun q_2 => ?_)
  · have hw := hw.1 q_2
    refine lv_bipush (v := (nI 99)) hx hb dX12_again_7 (by decide) ?_
    refine lv_istore_n (lv' := [(2, .int (nI 99)), (0, .ref h), (1, .int p1)]) hx hb dX12_again_9 rfl hl (by decide) rfl (fun ls hl => ?_)
    refine lv_iconst (v := (-1)) hx hb dX12_again_10 (by decide) ?_
    refine lv_istore_n (lv' := [(3, .int (-1)), (2, .int (nI 99)), (0, .ref h), (1, .int p1)]) hx hb dX12_again_11 rfl hl (by decide) rfl (fun ls hl => ?_)
    refine lv_iconst (v := (nI 0)) hx hb dX12_again_12 (by decide) ?_
    refine lv_istore (lv' := [(4, .int (nI 0)), (3, .int (-1)), (2, .int (nI 99)), (0, .ref h), (1, .int p1)]) hx hb dX12_again_13 hl (by decide) rfl (fun ls hl => ?_)
    obtain ⟨n_15, hw⟩ := hw
    have b_15 : ∀ (L_15 : Int32 → Int32 → Int32 → (Nat → Int32) → Prop) (ih_15 : ∀ (v2_15 : Int32) (v3_15 : Int32) (v4_15 : Int32) (away_15 : Nat → Int32) (H : Heap) (locs : List Loc) (ls : Array Slot), okW D A s.heap H locs (wM cI cZ cJ h ad k_thrown k_s k_image k_hasImage k_steps k_read k_spot k_isWrong k_open k_act k_letBy k_letStamp k_stamp k_fallen k_held k_stands k_falling away_15 k_round k_rests k_may k_next k_could k_couldNight k_night k_seats) → lv_has ls 6 [(0, .ref h), (1, .int p1), (2, .int v2_15), (3, .int v3_15), (4, .int v4_15)] → L_15 v2_15 v3_15 v4_15 away_15 → W p l e R s m args below meth c H locs 0 0 QQ (F0 m 15 ls [])) (v2_15 : Int32) (v3_15 : Int32) (v4_15 : Int32) (away_15 : Nat → Int32) (H : Heap) (locs : List Loc) (ls : Array Slot), okW D A s.heap H locs (wM cI cZ cJ h ad k_thrown k_s k_image k_hasImage k_steps k_read k_spot k_isWrong k_open k_act k_letBy k_letStamp k_stamp k_fallen k_held k_stands k_falling away_15 k_round k_rests k_may k_next k_could k_couldNight k_night k_seats) → lv_has ls 6 [(0, .ref h), (1, .int p1), (2, .int v2_15), (3, .int v3_15), (4, .int v4_15)] → wb_X12_again_15 p1 k_s k_round Q L_15 v2_15 v3_15 v4_15 away_15 → W p l e R s m args below meth c H locs 0 0 QQ (F0 m 15 ls []) := by
      intro L_15 ih_15 v2_15 v3_15 v4_15 away_15 H locs ls hO hl hw
      unfold wb_X12_again_15 at hw
      refine lv_iload hx hb dX12_again_15 (lv_at hl 4 rfl) ?_
      refine lv_aload_n hx hb dX12_again_17 rfl (lv_at hl 0 rfl) ?_
      refine gM_s C hin hK lk_s hO dX12_again_18 ?_
      refine lv_iconst (v := (nI 2)) hx hb dX12_again_21 (by decide) ?_
      refine ldM_s C hK hO (inK 2 6700 (by decide) (by decide)) (clK 2 (by decide)) dX12_again_22 ?_
      refine lv_icmp_ge (tgt := 80) hx hb dX12_again_23 (by decide) (fun q_23 => ?_) (fun q_23 => ?_)
      · have hw := hw.1 q_23
        refine lv_iload_n hx hb dX12_again_80 rfl (lv_at hl 3 rfl) ?_
        refine lv_iconst (v := (-1)) hx hb dX12_again_81 (by decide) ?_
        refine lv_icmp_ne (tgt := 96) hx hb dX12_again_82 (by decide) (fun q_82 => ?_) (fun q_82 => ?_)
        · have hw := hw.1 q_82
          refine lv_aload_n hx hb dX12_again_96 rfl (lv_at hl 0 rfl) ?_
          refine lv_iload_n hx hb dX12_again_97 rfl (lv_at hl 3 rfl) ?_
          refine cVv1 (As := [.int v3_15]) (rest := []) C hK hX hO (c_X12_roundsTo (l := l) hw) (cwV 1 hts gd_X12_197 rfl rfl rfl hd_X12_roundsTo (rok hR (Nat.le_of_ble_eq_true rfl) (Nat.le_of_ble_eq_true rfl))) (ci := 12) (q0 := 0) rfl rfl rfl rfl hl.1 rfl (Nat.le_of_ble_eq_true rfl) dX12_again_98 ⟨Nat.zero_le _, Nat.zero_le _⟩ (fun away_98 H locs hw hO => ?_)
          refine lv_iload_n hx hb dX12_again_101 rfl (lv_at hl 3 rfl) ?_
          refine lv_istore (lv' := [(4, .int v3_15), (0, .ref h), (1, .int p1), (2, .int v2_15), (3, .int v3_15)]) hx hb dX12_again_102 hl (by decide) rfl (fun ls hl => ?_)
          refine lv_iconst (v := (nI 0)) hx hb dX12_again_104 (by decide) ?_
          refine lv_istore (lv' := [(5, .int (nI 0)), (4, .int v3_15), (0, .ref h), (1, .int p1), (2, .int v2_15), (3, .int v3_15)]) hx hb dX12_again_105 hl (by decide) rfl (fun ls hl => ?_)
          obtain ⟨n_107, hw⟩ := hw
          have b_107 : ∀ (L_107 : Int32 → Int32 → (Nat → Int32) → Prop) (ih_107 : ∀ (v4_107 : Int32) (v5_107 : Int32) (round_107 : Nat → Int32) (H : Heap) (locs : List Loc) (ls : Array Slot), okW D A s.heap H locs (wM cI cZ cJ h ad k_thrown k_s k_image k_hasImage k_steps k_read k_spot k_isWrong k_open k_act k_letBy k_letStamp k_stamp k_fallen k_held k_stands k_falling away_98 round_107 k_rests k_may k_next k_could k_couldNight k_night k_seats) → lv_has ls 6 [(0, .ref h), (1, .int p1), (2, .int v2_15), (3, .int v3_15), (4, .int v4_107), (5, .int v5_107)] → L_107 v4_107 v5_107 round_107 → W p l e R s m args below meth c H locs 0 0 QQ (F0 m 107 ls [])) (v4_107 : Int32) (v5_107 : Int32) (round_107 : Nat → Int32) (H : Heap) (locs : List Loc) (ls : Array Slot), okW D A s.heap H locs (wM cI cZ cJ h ad k_thrown k_s k_image k_hasImage k_steps k_read k_spot k_isWrong k_open k_act k_letBy k_letStamp k_stamp k_fallen k_held k_stands k_falling away_98 round_107 k_rests k_may k_next k_could k_couldNight k_night k_seats) → lv_has ls 6 [(0, .ref h), (1, .int p1), (2, .int v2_15), (3, .int v3_15), (4, .int v4_107), (5, .int v5_107)] → wb_X12_again_107 p1 k_s Q v2_15 v3_15 away_98 L_107 v4_107 v5_107 round_107 → W p l e R s m args below meth c H locs 0 0 QQ (F0 m 107 ls []) := by
            intro L_107 ih_107 v4_107 v5_107 round_107 H locs ls hO hl hw
            unfold wb_X12_again_107 at hw
            refine lv_iload hx hb dX12_again_107 (lv_at hl 5 rfl) ?_
            refine lv_iload_n hx hb dX12_again_109 rfl (lv_at hl 2 rfl) ?_
            refine lv_icmp_ge (tgt := 137) hx hb dX12_again_110 (by decide) (fun q_110 => ?_) (fun q_110 => ?_)
            · have hw := hw.1 q_110
              refine lv_iload_n hx hb dX12_again_137 rfl (lv_at hl 1 rfl) ?_
              refine lv_iconst (v := (-1)) hx hb dX12_again_138 (by decide) ?_
              obtain ⟨hs, hw⟩ := hw
              have m_161 : ∀ (y0_161 : Int32) (H : Heap) (locs : List Loc) (ls : Array Slot), y0_161 = (if p1 = (-1) then v2_15 else (if v2_15 ≤ p1 then (-1) else (round_107 (p1).toNatClampNeg))) → okW D A s.heap H locs (wM cI cZ cJ h ad k_thrown k_s k_image k_hasImage k_steps k_read k_spot k_isWrong k_open k_act k_letBy k_letStamp k_stamp k_fallen k_held k_stands k_falling away_98 round_107 k_rests k_may k_next k_could k_couldNight k_night k_seats) → lv_has ls 6 [] → W p l e R s m args below meth c H locs 0 0 QQ (F0 m 161 ls [.int y0_161]) := by
                intro y0_161 H locs ls ey0_161 hO hl
                have hw := hw y0_161 ey0_161
                exact ri2 hQQ hx hb hr hlk hK hO hw dX12_again_161
              refine lv_icmp_ne (tgt := 146) hx hb dX12_again_139 (by decide) (fun q_139 => ?_) (fun q_139 => ?_)
              · have hs := hs q_139
                refine lv_iload_n hx hb dX12_again_146 rfl (lv_at hl 1 rfl) ?_
                refine lv_iload_n hx hb dX12_again_147 rfl (lv_at hl 2 rfl) ?_
                refine lv_icmp_ge (tgt := 160) hx hb dX12_again_148 (by decide) (fun q_148 => ?_) (fun q_148 => ?_)
                · refine lv_iconst (v := (-1)) hx hb dX12_again_160 (by decide) ?_
                  have hl := lv_sub hl [] rfl (l' := [])
                  exact m_161 _ _ _ _ (by rw [if_neg q_139, if_pos q_148]) hO hl
                · have hs := hs q_148
                  have o_156 := hs
                  refine lv_aload_n hx hb dX12_again_151 rfl (lv_at hl 0 rfl) ?_
                  refine gM_round C hin hK lk_round hO dX12_again_152 ?_
                  refine lv_iload_n hx hb dX12_again_155 rfl (lv_at hl 1 rfl) ?_
                  refine ldM_round C hK hO o_156 rfl dX12_again_156 ?_
                  refine lv_goto (tgt := 161) hx hb dX12_again_157 (by decide) ?_
                  have hl := lv_sub hl [] rfl (l' := [])
                  exact m_161 _ _ _ _ (by rw [if_neg q_139, if_neg q_148]) hO hl
              · refine lv_iload_n hx hb dX12_again_142 rfl (lv_at hl 2 rfl) ?_
                refine lv_goto (tgt := 161) hx hb dX12_again_143 (by decide) ?_
                have hl := lv_sub hl [] rfl (l' := [])
                exact m_161 _ _ _ _ (by rw [if_pos q_139]) hO hl
            · have hw := hw.2 q_110
              refine lv_aload_n hx hb dX12_again_113 rfl (lv_at hl 0 rfl) ?_
              refine gM_round C hin hK lk_round hO dX12_again_114 ?_
              refine lv_iload hx hb dX12_again_117 (lv_at hl 5 rfl) ?_
              refine lv_iload hx hb dX12_again_119 (lv_at hl 4 rfl) ?_
              obtain ⟨o_121, hw⟩ := hw
              refine stM_round C hK hO o_121 rfl dX12_again_121 (fun H locs hO => ?_)
              refine lv_aload_n hx hb dX12_again_122 rfl (lv_at hl 0 rfl) ?_
              refine lv_iload hx hb dX12_again_123 (lv_at hl 4 rfl) ?_
              refine lv_iload_n hx hb dX12_again_125 rfl (lv_at hl 3 rfl) ?_
              refine cVi0 (As := [.int v4_107, .int v3_15]) (rest := []) C hK hX hO (c_X12_soonest (l := l) hw) (cwV 2 hts gd_X12_200 rfl rfl rfl hd_X12_soonest (rok hR (Nat.le_of_ble_eq_true rfl) (Nat.le_of_ble_eq_true rfl))) (ci := 12) (q0 := 0) rfl rfl rfl rfl hl.1 rfl (Nat.le_of_ble_eq_true rfl) dX12_again_126 ⟨Nat.zero_le _, Nat.zero_le _⟩ (fun r_126 H locs hw hO => ?_)
              refine lv_istore (lv' := [(4, .int r_126), (0, .ref h), (1, .int p1), (2, .int v2_15), (3, .int v3_15), (5, .int v5_107)]) hx hb dX12_again_129 hl (by decide) rfl (fun ls hl => ?_)
              refine lv_iinc (v := (v5_107 + (nI 1))) (lv' := [(5, .int (v5_107 + (nI 1))), (4, .int r_126), (0, .ref h), (1, .int p1), (2, .int v2_15), (3, .int v3_15)]) hx hb dX12_again_131 hl (k := 5) rfl (iinc_1 _) (by decide) rfl (fun ls hl => ?_)
              refine lv_goto (tgt := 107) hx hb dX12_again_134 (by decide) ?_
              exact ih_107 r_126 (v5_107 + (nI 1)) (upd round_107 ((v5_107).toNatClampNeg) v4_107) _ _ _ hO (lv_sub hl [2, 3, 4, 5, 1, 0] rfl) hw
          have l_107 : ∀ (n : Nat) (v4_107 : Int32) (v5_107 : Int32) (round_107 : Nat → Int32) (H : Heap) (locs : List Loc) (ls : Array Slot), okW D A s.heap H locs (wM cI cZ cJ h ad k_thrown k_s k_image k_hasImage k_steps k_read k_spot k_isWrong k_open k_act k_letBy k_letStamp k_stamp k_fallen k_held k_stands k_falling away_98 round_107 k_rests k_may k_next k_could k_couldNight k_night k_seats) → lv_has ls 6 [(0, .ref h), (1, .int p1), (2, .int v2_15), (3, .int v3_15), (4, .int v4_107), (5, .int v5_107)] → wl_X12_again_107 p1 k_s Q v2_15 v3_15 away_98 n v4_107 v5_107 round_107 → W p l e R s m args below meth c H locs 0 0 QQ (F0 m 107 ls []) := by
            intro n
            induction n with
            | zero => intro v4_107 v5_107 round_107 H locs ls hO hl hw; exact False.elim hw
            | succ n ih => exact b_107 _ ih
          exact l_107 n_107 v3_15 (nI 0) k_round _ _ _ hO (lv_sub hl [2, 3, 4, 5, 1, 0] rfl) hw
        · have hw := hw.2 q_82
          refine lv_iload_n hx hb dX12_again_85 rfl (lv_at hl 1 rfl) ?_
          refine lv_iconst (v := (-1)) hx hb dX12_again_86 (by decide) ?_
          have m_95 : ∀ (y0_95 : Int32) (H : Heap) (locs : List Loc) (ls : Array Slot), y0_95 = (if p1 = (-1) then (nI 0) else (-1)) → okW D A s.heap H locs (wM cI cZ cJ h ad k_thrown k_s k_image k_hasImage k_steps k_read k_spot k_isWrong k_open k_act k_letBy k_letStamp k_stamp k_fallen k_held k_stands k_falling away_15 k_round k_rests k_may k_next k_could k_couldNight k_night k_seats) → lv_has ls 6 [] → W p l e R s m args below meth c H locs 0 0 QQ (F0 m 95 ls [.int y0_95]) := by
            intro y0_95 H locs ls ey0_95 hO hl
            have hw := hw y0_95 ey0_95
            exact ri2 hQQ hx hb hr hlk hK hO hw dX12_again_95
          refine lv_icmp_ne (tgt := 94) hx hb dX12_again_87 (by decide) (fun q_87 => ?_) (fun q_87 => ?_)
          · refine lv_iconst (v := (-1)) hx hb dX12_again_94 (by decide) ?_
            have hl := lv_sub hl [] rfl (l' := [])
            exact m_95 _ _ _ _ (by rw [if_neg q_87]) hO hl
          · refine lv_iconst (v := (nI 0)) hx hb dX12_again_90 (by decide) ?_
            refine lv_goto (tgt := 95) hx hb dX12_again_91 (by decide) ?_
            have hl := lv_sub hl [] rfl (l' := [])
            exact m_95 _ _ _ _ (by rw [if_pos q_87]) hO hl
      · have hw := hw.2 q_23
        refine lv_aload_n hx hb dX12_again_26 rfl (lv_at hl 0 rfl) ?_
        refine lv_iload hx hb dX12_again_27 (lv_at hl 4 rfl) ?_
        refine cVv1 (As := [.int v4_15]) (rest := []) C hK hX hO (c_X12_roundsTo (l := l) hw) (cwV 1 hts gd_X12_197 rfl rfl rfl hd_X12_roundsTo (rok hR (Nat.le_of_ble_eq_true rfl) (Nat.le_of_ble_eq_true rfl))) (ci := 12) (q0 := 0) rfl rfl rfl rfl hl.1 rfl (Nat.le_of_ble_eq_true rfl) dX12_again_29 ⟨Nat.zero_le _, Nat.zero_le _⟩ (fun away_29 H locs hw hO => ?_)
        refine lv_aload_n hx hb dX12_again_32 rfl (lv_at hl 0 rfl) ?_
        refine lv_iload hx hb dX12_again_33 (lv_at hl 4 rfl) ?_
        refine lv_iload hx hb dX12_again_35 (lv_at hl 4 rfl) ?_
        refine cVi0 (As := [.int v4_15, .int v4_15]) (rest := []) C hK hX hO (c_X12_soonest (l := l) hw) (cwV 2 hts gd_X12_200 rfl rfl rfl hd_X12_soonest (rok hR (Nat.le_of_ble_eq_true rfl) (Nat.le_of_ble_eq_true rfl))) (ci := 12) (q0 := 0) rfl rfl rfl rfl hl.1 rfl (Nat.le_of_ble_eq_true rfl) dX12_again_37 ⟨Nat.zero_le _, Nat.zero_le _⟩ (fun r_37 H locs hw hO => ?_)
        refine lv_istore (lv' := [(5, .int r_37), (0, .ref h), (1, .int p1), (2, .int v2_15), (3, .int v3_15), (4, .int v4_15)]) hx hb dX12_again_40 hl (by decide) rfl (fun ls hl => ?_)
        refine lv_iload hx hb dX12_again_42 (lv_at hl 0 rfl) ?_
        refine lv_iconst (v := (-1)) hx hb dX12_again_44 (by decide) ?_
        obtain ⟨hs, hw⟩ := hw
        have m_74 : ∀ (x2_74 : Int32) (x3_74 : Int32) (H : Heap) (locs : List Loc) (ls : Array Slot), x2_74 = (if r_37 = (-1) then v2_15 else (if v2_15 ≤ ((away_29 (r_37).toNatClampNeg) + (nI 1)) then v2_15 else ((away_29 (r_37).toNatClampNeg) + (nI 1)))) → x3_74 = (if r_37 = (-1) then v3_15 else (if v2_15 ≤ ((away_29 (r_37).toNatClampNeg) + (nI 1)) then v3_15 else v4_15)) → okW D A s.heap H locs (wM cI cZ cJ h ad k_thrown k_s k_image k_hasImage k_steps k_read k_spot k_isWrong k_open k_act k_letBy k_letStamp k_stamp k_fallen k_held k_stands k_falling away_29 k_round k_rests k_may k_next k_could k_couldNight k_night k_seats) → lv_has ls 6 [(0, .ref h), (1, .int p1), (2, .int x2_74), (3, .int x3_74), (4, .int v4_15)] → W p l e R s m args below meth c H locs 0 0 QQ (F0 m 74 ls []) := by
          intro x2_74 x3_74 H locs ls ex2_74 ex3_74 hO hl
          have hw := hw x2_74 ex2_74
          have hw := hw x3_74 ex3_74
          refine lv_iinc (v := (v4_15 + (nI 1))) (lv' := [(4, .int (v4_15 + (nI 1))), (0, .ref h), (1, .int p1), (2, .int x2_74), (3, .int x3_74)]) hx hb dX12_again_74 hl (k := 4) rfl (iinc_1 _) (by decide) rfl (fun ls hl => ?_)
          refine lv_goto (tgt := 15) hx hb dX12_again_77 (by decide) ?_
          exact ih_15 x2_74 x3_74 (v4_15 + (nI 1)) away_29 _ _ _ hO (lv_sub hl [1, 2, 3, 4, 0] rfl) hw
        refine lv_icmp_eq (tgt := 74) hx hb dX12_again_45 (by decide) (fun q_45 => ?_) (fun q_45 => ?_)
        · have hl := lv_sub hl [1, 2, 3, 4, 5] rfl (l' := [(0, .ref h), (1, .int p1), (2, .int v2_15), (3, .int v3_15), (4, .int v4_15)])
          exact m_74 _ _ _ _ _ (by rw [if_pos q_45]) (by rw [if_pos q_45]) hO hl
        · have hs := hs q_45
          obtain ⟨o_54, hs⟩ := hs
          refine lv_aload_n hx hb dX12_again_48 rfl (lv_at hl 1 rfl) ?_
          refine gM_away C hin hK lk_away hO dX12_again_49 ?_
          refine lv_iload hx hb dX12_again_52 (lv_at hl 0 rfl) ?_
          refine ldM_away C hK hO o_54 rfl dX12_again_54 ?_
          refine lv_iconst (v := (nI 1)) hx hb dX12_again_55 (by decide) ?_
          refine lv_iadd hx hb dX12_again_56 ?_
          refine lv_iload_n hx hb dX12_again_57 rfl (lv_at hl 3 rfl) ?_
          refine lv_icmp_ge (tgt := 74) hx hb dX12_again_58 (by decide) (fun q_58 => ?_) (fun q_58 => ?_)
          · have hl := lv_sub hl [1, 2, 3, 4, 5] rfl (l' := [(0, .ref h), (1, .int p1), (2, .int v2_15), (3, .int v3_15), (4, .int v4_15)])
            exact m_74 _ _ _ _ _ (by rw [if_neg q_45, if_pos q_58]) (by rw [if_neg q_45, if_pos q_58]) hO hl
          · have hs := hs q_58
            have o_67 := hs
            refine lv_aload_n hx hb dX12_again_61 rfl (lv_at hl 1 rfl) ?_
            refine gM_away C hin hK lk_away hO dX12_again_62 ?_
            refine lv_iload hx hb dX12_again_65 (lv_at hl 0 rfl) ?_
            refine ldM_away C hK hO o_67 rfl dX12_again_67 ?_
            refine lv_iconst (v := (nI 1)) hx hb dX12_again_68 (by decide) ?_
            refine lv_iadd hx hb dX12_again_69 ?_
            refine lv_istore_n (lv' := [(2, .int ((away_29 (r_37).toNatClampNeg) + (nI 1))), (5, .int r_37), (0, .ref h), (1, .int p1), (3, .int v3_15), (4, .int v4_15)]) hx hb dX12_again_70 rfl hl (by decide) rfl (fun ls hl => ?_)
            refine lv_iload hx hb dX12_again_71 (lv_at hl 5 rfl) ?_
            refine lv_istore_n (lv' := [(3, .int v4_15), (2, .int ((away_29 (r_37).toNatClampNeg) + (nI 1))), (5, .int r_37), (0, .ref h), (1, .int p1), (4, .int v4_15)]) hx hb dX12_again_73 rfl hl (by decide) rfl (fun ls hl => ?_)
            have hl := lv_sub hl [3, 4, 1, 0, 5] rfl (l' := [(0, .ref h), (1, .int p1), (2, .int ((away_29 (r_37).toNatClampNeg) + (nI 1))), (3, .int v4_15), (4, .int v4_15)])
            exact m_74 _ _ _ _ _ (by rw [if_neg q_45, if_neg q_58]) (by rw [if_neg q_45, if_neg q_58]) hO hl
    have l_15 : ∀ (n : Nat) (v2_15 : Int32) (v3_15 : Int32) (v4_15 : Int32) (away_15 : Nat → Int32) (H : Heap) (locs : List Loc) (ls : Array Slot), okW D A s.heap H locs (wM cI cZ cJ h ad k_thrown k_s k_image k_hasImage k_steps k_read k_spot k_isWrong k_open k_act k_letBy k_letStamp k_stamp k_fallen k_held k_stands k_falling away_15 k_round k_rests k_may k_next k_could k_couldNight k_night k_seats) → lv_has ls 6 [(0, .ref h), (1, .int p1), (2, .int v2_15), (3, .int v3_15), (4, .int v4_15)] → wl_X12_again_15 p1 k_s k_round Q n v2_15 v3_15 v4_15 away_15 → W p l e R s m args below meth c H locs 0 0 QQ (F0 m 15 ls []) := by
      intro n
      induction n with
      | zero => intro v2_15 v3_15 v4_15 away_15 H locs ls hO hl hw; exact False.elim hw
      | succ n ih => exact b_15 _ ih
    exact l_15 n_15 (nI 99) (-1) (nI 0) k_away _ _ _ hO (lv_sub hl [3, 4, 2, 1, 0] rfl) hw
  · have hw := hw.2 q_2
    refine lv_iconst (v := (-1)) hx hb dX12_again_5 (by decide) ?_
    exact ri2 hQQ hx hb hr hlk hK hO hw dX12_again_6
def wp_X12_binds (p1 : Int32) (p2 : Int32) (k_s : Nat → Int32) (Q : Int32 → Prop) : Prop := (vp_in ((nI 1510) + p1) 6700 ∧ (∀ x_9 : Int32, x_9 = (k_s (((nI 1510) + p1)).toNatClampNeg) → (vp_in ((nI 1310) + p1) 6700 ∧ (((k_s (((nI 1310) + p1)).toNatClampNeg) = (nI 2) → (Q ((p2 + x_9) * (nI 3)))) ∧ ((k_s (((nI 1310) + p1)).toNatClampNeg) = (nI 3) → (Q (p2 + x_9))) ∧ ((k_s (((nI 1310) + p1)).toNatClampNeg) = (nI 4) → (Q ((p2 + (nI 5)) + x_9))) ∧ ((k_s (((nI 1310) + p1)).toNatClampNeg) = (nI 5) → (Q ((p2 + (nI 5)) + x_9))) ∧ ((k_s (((nI 1310) + p1)).toNatClampNeg) = (nI 6) → (Q (p2 + x_9))) ∧ ((k_s (((nI 1310) + p1)).toNatClampNeg) = (nI 7) → (Q ((p2 + x_9) ^^^ (nI 9)))) ∧ (¬ (k_s (((nI 1310) + p1)).toNatClampNeg) = (nI 2) → ¬ (k_s (((nI 1310) + p1)).toNatClampNeg) = (nI 3) → ¬ (k_s (((nI 1310) + p1)).toNatClampNeg) = (nI 4) → ¬ (k_s (((nI 1310) + p1)).toNatClampNeg) = (nI 5) → ¬ (k_s (((nI 1310) + p1)).toNatClampNeg) = (nI 6) → ¬ (k_s (((nI 1310) + p1)).toNatClampNeg) = (nI 7) → (Q (p2 + x_9)))))))
set_option maxHeartbeats 4000000 in
set_option maxRecDepth 100000 in
theorem c_X12_binds {l : Launch} {D : va_G} {cI cZ cJ : ClassId} {h : Nat} {ad : Nat → Nat} {sz : Nat} {k_thrown : Int32} {k_s : Nat → Int32} {k_image : Nat → Int32} {k_hasImage : Int32} {k_steps : Nat → Int32} {k_read : Int32} {k_spot : Int32} {k_isWrong : Int32} {k_open : Int32} {k_act : Int32} {k_letBy : Nat → Int32} {k_letStamp : Nat → Int32} {k_stamp : Int32} {k_fallen : Nat → Int32} {k_held : Nat → Int32} {k_stands : Nat → Int32} {k_falling : Nat → Int32} {k_away : Nat → Int32} {k_round : Nat → Int32} {k_rests : Nat → Int64} {k_may : Nat → Int32} {k_next : Nat → Int32} {k_could : Nat → Int32} {k_couldNight : Nat → Int32} {k_night : Int32} {k_seats : Nat → Int32} {p1 : Int32} {p2 : Int32} {Q : Int32 → Prop} (hw : wp_X12_binds p1 p2 k_s Q) : Met l yX12_binds (Cond.code yX12_binds cX12_binds 4 (some .int) :: wsG) ({ frames := 0, cells := 0, slots := 0, locals := 0 } : Room) (preW D (tyM cI cZ cJ) (wM cI cZ cJ h ad k_thrown k_s k_image k_hasImage k_steps k_read k_spot k_isWrong k_open k_act k_letBy k_letStamp k_stamp k_fallen k_held k_stands k_falling k_away k_round k_rests k_may k_next k_could k_couldNight k_night k_seats) sz [.ref h, .int p1, .int p2]) (qi0 D (tyM cI cZ cJ) (va_A (wM cI cZ cJ h ad k_thrown k_s k_image k_hasImage k_steps k_read k_spot k_isWrong k_open k_act k_letBy k_letStamp k_stamp k_fallen k_held k_stands k_falling k_away k_round k_rests k_may k_next k_could k_couldNight k_night k_seats) sz) Q (wM cI cZ cJ h ad k_thrown k_s k_image k_hasImage k_steps k_read k_spot k_isWrong k_open k_act k_letBy k_letStamp k_stamp k_fallen k_held k_stands k_falling k_away k_round k_rests k_may k_next k_could k_couldNight k_night k_seats)) 0 0 (va_A (wM cI cZ cJ h ad k_thrown k_s k_image k_hasImage k_steps k_read k_spot k_isWrong k_open k_act k_letBy k_letStamp k_stamp k_fallen k_held k_stands k_falling k_away k_round k_rests k_may k_next k_could k_couldNight k_night k_seats) sz) := by
  refine st_met (cc := cX12_binds) (maxL := 4) (ret := (some .int)) (lv := [(0, .ref h), (1, .int p1), (2, .int p2)]) (Qc := fun A => qi0 D (tyM cI cZ cJ) A Q (wM cI cZ cJ h ad k_thrown k_s k_image k_hasImage k_steps k_read k_spot k_isWrong k_open k_act k_letBy k_letStamp k_stamp k_fallen k_held k_stands k_falling k_away k_round k_rests k_may k_next k_could k_couldNight k_night k_seats)) (by decide) rfl (Nat.le_of_ble_eq_true rfl) rfl ?_
  intro p e s m below meth c ls A R args QQ H locs C hr hlk hnm hK hX hsz hl hO hR hQQ
  have hx := C.1
  have hb := C.2.1
  have hown := C.2.2.2.1
  have hts := C.2.2.2.2
  have hin : ∀ w ∈ u_ws RX12 TX12 26, w ∈ (Cond.code yX12_binds cX12_binds 4 (some .int) :: wsG) := fun w h9 => List.mem_cons_of_mem _ (inG12 w h9)
  have lk_s := hts (Cond.fieldLink RX12 7 "FreeCityModel" "s" "[I") (List.mem_cons_of_mem _ qw5_207)
  unfold wp_X12_binds at hw
  refine lv_aload_n hx hb dX12_binds_0 rfl (lv_at hl 0 rfl) ?_
  refine gM_s C hin hK lk_s hO dX12_binds_1 ?_
  refine lv_sipush (v := (nI 1510)) hx hb dX12_binds_4 (by decide) ?_
  refine lv_iload_n hx hb dX12_binds_7 rfl (lv_at hl 1 rfl) ?_
  refine lv_iadd hx hb dX12_binds_8 ?_
  obtain ⟨o_9, hw⟩ := hw
  refine ldM_s C hK hO o_9 rfl dX12_binds_9 ?_
  refine lv_topi (fun x_9 ex_9 => ?_)
  have hw := hw x_9 ex_9
  refine lv_istore_n (lv' := [(3, .int x_9), (0, .ref h), (1, .int p1), (2, .int p2)]) hx hb dX12_binds_10 rfl hl (by decide) rfl (fun ls hl => ?_)
  refine lv_aload_n hx hb dX12_binds_11 rfl (lv_at hl 1 rfl) ?_
  refine gM_s C hin hK lk_s hO dX12_binds_12 ?_
  refine lv_sipush (v := (nI 1310)) hx hb dX12_binds_15 (by decide) ?_
  refine lv_iload_n hx hb dX12_binds_18 rfl (lv_at hl 2 rfl) ?_
  refine lv_iadd hx hb dX12_binds_19 ?_
  obtain ⟨o_20, hw⟩ := hw
  refine ldM_s C hK hO o_20 rfl dX12_binds_20 ?_
  by_cases s_21_2 : (k_s (((nI 1310) + p1)).toNatClampNeg) = (nI 2)
  · have hw := hw.1 s_21_2
    refine lv_tableIn (off := 39) (tgt := 60) hx hb dX12_binds_21 (by rw [s_21_2]; decide) (by rw [s_21_2]; decide) (by rw [s_21_2]; decide) (by decide) ?_
    refine lv_iload_n hx hb dX12_binds_60 rfl (lv_at hl 3 rfl) ?_
    refine lv_iload_n hx hb dX12_binds_61 rfl (lv_at hl 0 rfl) ?_
    refine lv_iadd hx hb dX12_binds_62 ?_
    refine lv_iconst (v := (nI 3)) hx hb dX12_binds_63 (by decide) ?_
    refine lv_imul hx hb dX12_binds_64 ?_
    exact ri0 hQQ hx hb hr hlk hK hO hw dX12_binds_65
  by_cases s_21_3 : (k_s (((nI 1310) + p1)).toNatClampNeg) = (nI 3)
  · have hw := hw.2.1 s_21_3
    refine lv_tableIn (off := 58) (tgt := 79) hx hb dX12_binds_21 (by rw [s_21_3]; decide) (by rw [s_21_3]; decide) (by rw [s_21_3]; decide) (by decide) ?_
    refine lv_iload_n hx hb dX12_binds_79 rfl (lv_at hl 3 rfl) ?_
    refine lv_iload_n hx hb dX12_binds_80 rfl (lv_at hl 0 rfl) ?_
    refine lv_iadd hx hb dX12_binds_81 ?_
    exact ri0 hQQ hx hb hr hlk hK hO hw dX12_binds_82
  by_cases s_21_4 : (k_s (((nI 1310) + p1)).toNatClampNeg) = (nI 4)
  · have hw := hw.2.2.1 s_21_4
    refine lv_tableIn (off := 45) (tgt := 66) hx hb dX12_binds_21 (by rw [s_21_4]; decide) (by rw [s_21_4]; decide) (by rw [s_21_4]; decide) (by decide) ?_
    refine lv_iload_n hx hb dX12_binds_66 rfl (lv_at hl 3 rfl) ?_
    refine lv_iconst (v := (nI 5)) hx hb dX12_binds_67 (by decide) ?_
    refine lv_iadd hx hb dX12_binds_68 ?_
    refine lv_iload_n hx hb dX12_binds_69 rfl (lv_at hl 0 rfl) ?_
    refine lv_iadd hx hb dX12_binds_70 ?_
    exact ri0 hQQ hx hb hr hlk hK hO hw dX12_binds_71
  by_cases s_21_5 : (k_s (((nI 1310) + p1)).toNatClampNeg) = (nI 5)
  · have hw := hw.2.2.2.1 s_21_5
    refine lv_tableIn (off := 45) (tgt := 66) hx hb dX12_binds_21 (by rw [s_21_5]; decide) (by rw [s_21_5]; decide) (by rw [s_21_5]; decide) (by decide) ?_
    refine lv_iload_n hx hb dX12_binds_66 rfl (lv_at hl 3 rfl) ?_
    refine lv_iconst (v := (nI 5)) hx hb dX12_binds_67 (by decide) ?_
    refine lv_iadd hx hb dX12_binds_68 ?_
    refine lv_iload_n hx hb dX12_binds_69 rfl (lv_at hl 0 rfl) ?_
    refine lv_iadd hx hb dX12_binds_70 ?_
    exact ri0 hQQ hx hb hr hlk hK hO hw dX12_binds_71
  by_cases s_21_6 : (k_s (((nI 1310) + p1)).toNatClampNeg) = (nI 6)
  · have hw := hw.2.2.2.2.1 s_21_6
    refine lv_tableIn (off := 58) (tgt := 79) hx hb dX12_binds_21 (by rw [s_21_6]; decide) (by rw [s_21_6]; decide) (by rw [s_21_6]; decide) (by decide) ?_
    refine lv_iload_n hx hb dX12_binds_79 rfl (lv_at hl 3 rfl) ?_
    refine lv_iload_n hx hb dX12_binds_80 rfl (lv_at hl 0 rfl) ?_
    refine lv_iadd hx hb dX12_binds_81 ?_
    exact ri0 hQQ hx hb hr hlk hK hO hw dX12_binds_82
  by_cases s_21_7 : (k_s (((nI 1310) + p1)).toNatClampNeg) = (nI 7)
  · have hw := hw.2.2.2.2.2.1 s_21_7
    refine lv_tableIn (off := 51) (tgt := 72) hx hb dX12_binds_21 (by rw [s_21_7]; decide) (by rw [s_21_7]; decide) (by rw [s_21_7]; decide) (by decide) ?_
    refine lv_iload_n hx hb dX12_binds_72 rfl (lv_at hl 3 rfl) ?_
    refine lv_iload_n hx hb dX12_binds_73 rfl (lv_at hl 0 rfl) ?_
    refine lv_iadd hx hb dX12_binds_74 ?_
    refine lv_bipush (v := (nI 9)) hx hb dX12_binds_75 (by decide) ?_
    refine lv_ixor hx hb dX12_binds_77 ?_
    exact ri0 hQQ hx hb hr hlk hK hO hw dX12_binds_78
  have hw := hw.2.2.2.2.2.2 s_21_2 s_21_3 s_21_4 s_21_5 s_21_6 s_21_7
  have hts9 : ((k_s (((nI 1310) + p1)).toNatClampNeg)).toInt < 2 ∨ 7 < ((k_s (((nI 1310) + p1)).toNatClampNeg)).toInt := by
    refine tsw 2 7 (fun k h1 h2 => ?_)
    have h3 : k = 2 ∨ k = 3 ∨ k = 4 ∨ k = 5 ∨ k = 6 ∨ k = 7 := by omega
    rcases h3 with rfl | rfl | rfl | rfl | rfl | rfl
    · exact s_21_2
    · exact s_21_3
    · exact s_21_4
    · exact s_21_5
    · exact s_21_6
    · exact s_21_7
  refine lv_tableOut (tgt := 79) hx hb dX12_binds_21 hts9 (by decide) ?_
  refine lv_iload_n hx hb dX12_binds_79 rfl (lv_at hl 3 rfl) ?_
  refine lv_iload_n hx hb dX12_binds_80 rfl (lv_at hl 0 rfl) ?_
  refine lv_iadd hx hb dX12_binds_81 ?_
  exact ri0 hQQ hx hb hr hlk hK hO hw dX12_binds_82
theorem gd_X12_203 {a : Cond} : GoodIn (a :: wsG) (wsV RX12 203 RX12 yX12_binds (Cond.code yX12_binds cX12_binds 4 (some .int) :: wsG)) := gdV qw7_2 qw7_4 qs_59 qw1_12 qw7_5
theorem hd_X12_binds : yX12_binds.cls = RX12 ∧ yX12_binds.cls ≠ "java/lang/invoke/MethodHandle" ∧ yX12_binds.cls ≠ "java/lang/invoke/VarHandle" ∧ (parseMethodDescriptor yX12_binds.desc).map (fun d => d.parameters.length) = some 2 := by decide +kernel
def wp_X12_gives (p1 : Int32) (p2 : Int32) (k_s : Nat → Int32) (Q : Int32 → Prop) : Prop := (wp_X12_binds p1 p2 k_s (fun (r_3 : Int32) => (vp_in ((nI 1360) + p1) 6700 ∧ (∀ x_16 : Int32, x_16 = (r_3 - (k_s (((nI 1360) + p1)).toNatClampNeg)) → (vp_in ((nI 1310) + p1) 6700 ∧ (∀ x_27 : Int32, x_27 = (k_s (((nI 1310) + p1)).toNatClampNeg) → (∀ y0_54 : Int32, y0_54 = (if (nI 4) ≤ x_27 then (if x_27 = (nI 5) then (-x_16) else x_16) else (x_16 ^^^ p1)) → (Q y0_54))))))))
set_option maxHeartbeats 4000000 in
set_option maxRecDepth 100000 in
theorem c_X12_gives {l : Launch} {D : va_G} {cI cZ cJ : ClassId} {h : Nat} {ad : Nat → Nat} {sz : Nat} {k_thrown : Int32} {k_s : Nat → Int32} {k_image : Nat → Int32} {k_hasImage : Int32} {k_steps : Nat → Int32} {k_read : Int32} {k_spot : Int32} {k_isWrong : Int32} {k_open : Int32} {k_act : Int32} {k_letBy : Nat → Int32} {k_letStamp : Nat → Int32} {k_stamp : Int32} {k_fallen : Nat → Int32} {k_held : Nat → Int32} {k_stands : Nat → Int32} {k_falling : Nat → Int32} {k_away : Nat → Int32} {k_round : Nat → Int32} {k_rests : Nat → Int64} {k_may : Nat → Int32} {k_next : Nat → Int32} {k_could : Nat → Int32} {k_couldNight : Nat → Int32} {k_night : Int32} {k_seats : Nat → Int32} {p1 : Int32} {p2 : Int32} {Q : Int32 → Prop} (hw : wp_X12_gives p1 p2 k_s Q) : Met l yX12_gives (Cond.code yX12_gives cX12_gives 5 (some .int) :: wsG) ({ frames := 1, cells := 0, slots := 0, locals := 23 } : Room) (preW D (tyM cI cZ cJ) (wM cI cZ cJ h ad k_thrown k_s k_image k_hasImage k_steps k_read k_spot k_isWrong k_open k_act k_letBy k_letStamp k_stamp k_fallen k_held k_stands k_falling k_away k_round k_rests k_may k_next k_could k_couldNight k_night k_seats) sz [.ref h, .int p1, .int p2]) (qi0 D (tyM cI cZ cJ) (va_A (wM cI cZ cJ h ad k_thrown k_s k_image k_hasImage k_steps k_read k_spot k_isWrong k_open k_act k_letBy k_letStamp k_stamp k_fallen k_held k_stands k_falling k_away k_round k_rests k_may k_next k_could k_couldNight k_night k_seats) sz) Q (wM cI cZ cJ h ad k_thrown k_s k_image k_hasImage k_steps k_read k_spot k_isWrong k_open k_act k_letBy k_letStamp k_stamp k_fallen k_held k_stands k_falling k_away k_round k_rests k_may k_next k_could k_couldNight k_night k_seats)) 0 0 (va_A (wM cI cZ cJ h ad k_thrown k_s k_image k_hasImage k_steps k_read k_spot k_isWrong k_open k_act k_letBy k_letStamp k_stamp k_fallen k_held k_stands k_falling k_away k_round k_rests k_may k_next k_could k_couldNight k_night k_seats) sz) := by
  refine st_met (cc := cX12_gives) (maxL := 5) (ret := (some .int)) (lv := [(0, .ref h), (1, .int p1), (2, .int p2)]) (Qc := fun A => qi0 D (tyM cI cZ cJ) A Q (wM cI cZ cJ h ad k_thrown k_s k_image k_hasImage k_steps k_read k_spot k_isWrong k_open k_act k_letBy k_letStamp k_stamp k_fallen k_held k_stands k_falling k_away k_round k_rests k_may k_next k_could k_couldNight k_night k_seats)) (by decide) rfl (Nat.le_of_ble_eq_true rfl) rfl ?_
  intro p e s m below meth c ls A R args QQ H locs C hr hlk hnm hK hX hsz hl hO hR hQQ
  have hx := C.1
  have hb := C.2.1
  have hown := C.2.2.2.1
  have hts := C.2.2.2.2
  have hin : ∀ w ∈ u_ws RX12 TX12 26, w ∈ (Cond.code yX12_gives cX12_gives 5 (some .int) :: wsG) := fun w h9 => List.mem_cons_of_mem _ (inG12 w h9)
  have lk_s := hts (Cond.fieldLink RX12 7 "FreeCityModel" "s" "[I") (List.mem_cons_of_mem _ qw5_207)
  unfold wp_X12_gives at hw
  refine lv_aload_n hx hb dX12_gives_0 rfl (lv_at hl 0 rfl) ?_
  refine lv_iload_n hx hb dX12_gives_1 rfl (lv_at hl 1 rfl) ?_
  refine lv_iload_n hx hb dX12_gives_2 rfl (lv_at hl 2 rfl) ?_
  refine cVi0 (As := [.int p1, .int p2]) (rest := []) C hK hX hO (c_X12_binds (l := l) hw) (cwV 2 hts gd_X12_203 rfl rfl rfl hd_X12_binds (rok hR (Nat.le_of_ble_eq_true rfl) (Nat.le_of_ble_eq_true rfl))) (ci := 12) (q0 := 0) rfl rfl rfl rfl hl.1 rfl (Nat.le_of_ble_eq_true rfl) dX12_gives_3 ⟨Nat.zero_le _, Nat.zero_le _⟩ (fun r_3 H locs hw hO => ?_)
  refine lv_aload_n hx hb dX12_gives_6 rfl (lv_at hl 0 rfl) ?_
  refine gM_s C hin hK lk_s hO dX12_gives_7 ?_
  refine lv_sipush (v := (nI 1360)) hx hb dX12_gives_10 (by decide) ?_
  refine lv_iload_n hx hb dX12_gives_13 rfl (lv_at hl 1 rfl) ?_
  refine lv_iadd hx hb dX12_gives_14 ?_
  obtain ⟨o_15, hw⟩ := hw
  refine ldM_s C hK hO o_15 rfl dX12_gives_15 ?_
  refine lv_isub hx hb dX12_gives_16 ?_
  refine lv_topi (fun x_16 ex_16 => ?_)
  have hw := hw x_16 ex_16
  refine lv_istore_n (lv' := [(3, .int x_16), (0, .ref h), (1, .int p1), (2, .int p2)]) hx hb dX12_gives_17 rfl hl (by decide) rfl (fun ls hl => ?_)
  refine lv_aload_n hx hb dX12_gives_18 rfl (lv_at hl 1 rfl) ?_
  refine gM_s C hin hK lk_s hO dX12_gives_19 ?_
  refine lv_sipush (v := (nI 1310)) hx hb dX12_gives_22 (by decide) ?_
  refine lv_iload_n hx hb dX12_gives_25 rfl (lv_at hl 2 rfl) ?_
  refine lv_iadd hx hb dX12_gives_26 ?_
  obtain ⟨o_27, hw⟩ := hw
  refine ldM_s C hK hO o_27 rfl dX12_gives_27 ?_
  refine lv_topi (fun x_27 ex_27 => ?_)
  have hw := hw x_27 ex_27
  refine lv_istore (lv' := [(4, .int x_27), (3, .int x_16), (0, .ref h), (1, .int p1), (2, .int p2)]) hx hb dX12_gives_28 hl (by decide) rfl (fun ls hl => ?_)
  refine lv_iload hx hb dX12_gives_30 (lv_at hl 0 rfl) ?_
  refine lv_iconst (v := (nI 4)) hx hb dX12_gives_32 (by decide) ?_
  have m_54 : ∀ (y0_54 : Int32) (H : Heap) (locs : List Loc) (ls : Array Slot), y0_54 = (if (nI 4) ≤ x_27 then (if x_27 = (nI 5) then (-x_16) else x_16) else (x_16 ^^^ p1)) → okW D A s.heap H locs (wM cI cZ cJ h ad k_thrown k_s k_image k_hasImage k_steps k_read k_spot k_isWrong k_open k_act k_letBy k_letStamp k_stamp k_fallen k_held k_stands k_falling k_away k_round k_rests k_may k_next k_could k_couldNight k_night k_seats) → lv_has ls 5 [] → W p l e R s m args below meth c H locs 0 0 QQ (F0 m 54 ls [.int y0_54]) := by
    intro y0_54 H locs ls ey0_54 hO hl
    have hw := hw y0_54 ey0_54
    exact ri0 hQQ hx hb hr hlk hK hO hw dX12_gives_54
  refine lv_icmp_ge (tgt := 42) hx hb dX12_gives_33 (by decide) (fun q_33 => ?_) (fun q_33 => ?_)
  · refine lv_iload hx hb dX12_gives_42 (lv_at hl 0 rfl) ?_
    refine lv_iconst (v := (nI 5)) hx hb dX12_gives_44 (by decide) ?_
    refine lv_icmp_ne (tgt := 53) hx hb dX12_gives_45 (by decide) (fun q_45 => ?_) (fun q_45 => ?_)
    · refine lv_iload_n hx hb dX12_gives_53 rfl (lv_at hl 1 rfl) ?_
      have hl := lv_sub hl [] rfl (l' := [])
      exact m_54 _ _ _ _ (by rw [if_pos q_33, if_neg q_45]) hO hl
    · refine lv_iload_n hx hb dX12_gives_48 rfl (lv_at hl 1 rfl) ?_
      refine lv_ineg hx hb dX12_gives_49 ?_
      refine lv_goto (tgt := 54) hx hb dX12_gives_50 (by decide) ?_
      have hl := lv_sub hl [] rfl (l' := [])
      exact m_54 _ _ _ _ (by rw [if_pos q_33, if_pos q_45]) hO hl
  · refine lv_iload_n hx hb dX12_gives_36 rfl (lv_at hl 1 rfl) ?_
    refine lv_iload_n hx hb dX12_gives_37 rfl (lv_at hl 3 rfl) ?_
    refine lv_ixor hx hb dX12_gives_38 ?_
    refine lv_goto (tgt := 54) hx hb dX12_gives_39 (by decide) ?_
    have hl := lv_sub hl [] rfl (l' := [])
    exact m_54 _ _ _ _ (by rw [if_neg q_33]) hO hl
theorem gd_X12_206 {a : Cond} : GoodIn (a :: wsG) (wsV RX12 206 RX12 yX12_gives (Cond.code yX12_gives cX12_gives 5 (some .int) :: wsG)) := gdV qw7_6 qw7_8 qs_60 qw1_12 qw7_9
theorem hd_X12_gives : yX12_gives.cls = RX12 ∧ yX12_gives.cls ≠ "java/lang/invoke/MethodHandle" ∧ yX12_gives.cls ≠ "java/lang/invoke/VarHandle" ∧ (parseMethodDescriptor yX12_gives.desc).map (fun d => d.parameters.length) = some 2 := by decide +kernel
def wp_X12_hangs (p1 : Int32) (p2 : Int32) (k_s : Nat → Int32) (Q : Int32 → Prop) : Prop := (wp_X12_gives p1 p2 k_s (fun (r_3 : Int32) => (vp_in ((nI 1310) + p1) 6700 ∧ (∀ x_18 : Int32, x_18 = (k_s (((nI 1310) + p1)).toNatClampNeg) → ((¬ x_18 = (nI 6) → ((¬ x_18 = (nI 7) → ((¬ x_18 = (nI 3) → (Q (r_3 * (nI 2)))) ∧ (x_18 = (nI 3) → (wp_X12_gives p1 (nI 1) k_s (fun (r_74 : Int32) => (Q ((r_3 * (nI 2)) + r_74))))))) ∧ (x_18 = (nI 7) → (wp_X12_binds p1 (p2 - (nI 1)) k_s (fun (r_49 : Int32) => (wp_X12_gives p1 (p2 - (nI 1)) k_s (fun (r_57 : Int32) => (Q (r_49 - (r_57 * (nI 2))))))))))) ∧ (x_18 = (nI 6) → (wp_X12_binds p1 p2 k_s (fun (r_31 : Int32) => (Q (r_31 - (r_3 * (nI 2))))))))))))
set_option maxHeartbeats 4000000 in
set_option maxRecDepth 100000 in
theorem c_X12_hangs {l : Launch} {D : va_G} {cI cZ cJ : ClassId} {h : Nat} {ad : Nat → Nat} {sz : Nat} {k_thrown : Int32} {k_s : Nat → Int32} {k_image : Nat → Int32} {k_hasImage : Int32} {k_steps : Nat → Int32} {k_read : Int32} {k_spot : Int32} {k_isWrong : Int32} {k_open : Int32} {k_act : Int32} {k_letBy : Nat → Int32} {k_letStamp : Nat → Int32} {k_stamp : Int32} {k_fallen : Nat → Int32} {k_held : Nat → Int32} {k_stands : Nat → Int32} {k_falling : Nat → Int32} {k_away : Nat → Int32} {k_round : Nat → Int32} {k_rests : Nat → Int64} {k_may : Nat → Int32} {k_next : Nat → Int32} {k_could : Nat → Int32} {k_couldNight : Nat → Int32} {k_night : Int32} {k_seats : Nat → Int32} {p1 : Int32} {p2 : Int32} {Q : Int32 → Prop} (hw : wp_X12_hangs p1 p2 k_s Q) : Met l yX12_hangs (Cond.code yX12_hangs cX12_hangs 5 (some .int) :: wsG) ({ frames := 2, cells := 0, slots := 0, locals := 47 } : Room) (preW D (tyM cI cZ cJ) (wM cI cZ cJ h ad k_thrown k_s k_image k_hasImage k_steps k_read k_spot k_isWrong k_open k_act k_letBy k_letStamp k_stamp k_fallen k_held k_stands k_falling k_away k_round k_rests k_may k_next k_could k_couldNight k_night k_seats) sz [.ref h, .int p1, .int p2]) (qi0 D (tyM cI cZ cJ) (va_A (wM cI cZ cJ h ad k_thrown k_s k_image k_hasImage k_steps k_read k_spot k_isWrong k_open k_act k_letBy k_letStamp k_stamp k_fallen k_held k_stands k_falling k_away k_round k_rests k_may k_next k_could k_couldNight k_night k_seats) sz) Q (wM cI cZ cJ h ad k_thrown k_s k_image k_hasImage k_steps k_read k_spot k_isWrong k_open k_act k_letBy k_letStamp k_stamp k_fallen k_held k_stands k_falling k_away k_round k_rests k_may k_next k_could k_couldNight k_night k_seats)) 0 0 (va_A (wM cI cZ cJ h ad k_thrown k_s k_image k_hasImage k_steps k_read k_spot k_isWrong k_open k_act k_letBy k_letStamp k_stamp k_fallen k_held k_stands k_falling k_away k_round k_rests k_may k_next k_could k_couldNight k_night k_seats) sz) := by
  refine st_met (cc := cX12_hangs) (maxL := 5) (ret := (some .int)) (lv := [(0, .ref h), (1, .int p1), (2, .int p2)]) (Qc := fun A => qi0 D (tyM cI cZ cJ) A Q (wM cI cZ cJ h ad k_thrown k_s k_image k_hasImage k_steps k_read k_spot k_isWrong k_open k_act k_letBy k_letStamp k_stamp k_fallen k_held k_stands k_falling k_away k_round k_rests k_may k_next k_could k_couldNight k_night k_seats)) (by decide) rfl (Nat.le_of_ble_eq_true rfl) rfl ?_
  intro p e s m below meth c ls A R args QQ H locs C hr hlk hnm hK hX hsz hl hO hR hQQ
  have hx := C.1
  have hb := C.2.1
  have hown := C.2.2.2.1
  have hts := C.2.2.2.2
  have hin : ∀ w ∈ u_ws RX12 TX12 26, w ∈ (Cond.code yX12_hangs cX12_hangs 5 (some .int) :: wsG) := fun w h9 => List.mem_cons_of_mem _ (inG12 w h9)
  have lk_s := hts (Cond.fieldLink RX12 7 "FreeCityModel" "s" "[I") (List.mem_cons_of_mem _ qw5_207)
  unfold wp_X12_hangs at hw
  refine lv_aload_n hx hb dX12_hangs_0 rfl (lv_at hl 0 rfl) ?_
  refine lv_iload_n hx hb dX12_hangs_1 rfl (lv_at hl 1 rfl) ?_
  refine lv_iload_n hx hb dX12_hangs_2 rfl (lv_at hl 2 rfl) ?_
  refine cVi0 (As := [.int p1, .int p2]) (rest := []) C hK hX hO (c_X12_gives (l := l) hw) (cwV 2 hts gd_X12_206 rfl rfl rfl hd_X12_gives (rok hR (Nat.le_of_ble_eq_true rfl) (Nat.le_of_ble_eq_true rfl))) (ci := 12) (q0 := 0) rfl rfl rfl rfl hl.1 rfl (Nat.le_of_ble_eq_true rfl) dX12_hangs_3 ⟨Nat.zero_le _, Nat.zero_le _⟩ (fun r_3 H locs hw hO => ?_)
  refine lv_iconst (v := (nI 2)) hx hb dX12_hangs_6 (by decide) ?_
  refine lv_imul hx hb dX12_hangs_7 ?_
  refine lv_istore_n (lv' := [(3, .int (r_3 * (nI 2))), (0, .ref h), (1, .int p1), (2, .int p2)]) hx hb dX12_hangs_8 rfl hl (by decide) rfl (fun ls hl => ?_)
  refine lv_aload_n hx hb dX12_hangs_9 rfl (lv_at hl 1 rfl) ?_
  refine gM_s C hin hK lk_s hO dX12_hangs_10 ?_
  refine lv_sipush (v := (nI 1310)) hx hb dX12_hangs_13 (by decide) ?_
  refine lv_iload_n hx hb dX12_hangs_16 rfl (lv_at hl 2 rfl) ?_
  refine lv_iadd hx hb dX12_hangs_17 ?_
  obtain ⟨o_18, hw⟩ := hw
  refine ldM_s C hK hO o_18 rfl dX12_hangs_18 ?_
  refine lv_topi (fun x_18 ex_18 => ?_)
  have hw := hw x_18 ex_18
  refine lv_istore (lv' := [(4, .int x_18), (3, .int (r_3 * (nI 2))), (0, .ref h), (1, .int p1), (2, .int p2)]) hx hb dX12_hangs_19 hl (by decide) rfl (fun ls hl => ?_)
  refine lv_iload hx hb dX12_hangs_21 (lv_at hl 0 rfl) ?_
  refine lv_bipush (v := (nI 6)) hx hb dX12_hangs_23 (by decide) ?_
  refine lv_icmp_ne (tgt := 37) hx hb dX12_hangs_25 (by decide) (fun q_25 => ?_) (fun q_25 => ?_)
  · have hw := hw.1 q_25
    refine lv_iload hx hb dX12_hangs_37 (lv_at hl 0 rfl) ?_
    refine lv_bipush (v := (nI 7)) hx hb dX12_hangs_39 (by decide) ?_
    refine lv_icmp_ne (tgt := 64) hx hb dX12_hangs_41 (by decide) (fun q_41 => ?_) (fun q_41 => ?_)
    · have hw := hw.1 q_41
      refine lv_iload hx hb dX12_hangs_64 (lv_at hl 0 rfl) ?_
      refine lv_iconst (v := (nI 3)) hx hb dX12_hangs_66 (by decide) ?_
      refine lv_icmp_ne (tgt := 81) hx hb dX12_hangs_67 (by decide) (fun q_67 => ?_) (fun q_67 => ?_)
      · have hw := hw.1 q_67
        refine lv_iload_n hx hb dX12_hangs_81 rfl (lv_at hl 1 rfl) ?_
        exact ri0 hQQ hx hb hr hlk hK hO hw dX12_hangs_82
      · have hw := hw.2 q_67
        refine lv_iload_n hx hb dX12_hangs_70 rfl (lv_at hl 1 rfl) ?_
        refine lv_aload_n hx hb dX12_hangs_71 rfl (lv_at hl 2 rfl) ?_
        refine lv_iload_n hx hb dX12_hangs_72 rfl (lv_at hl 3 rfl) ?_
        refine lv_iconst (v := (nI 1)) hx hb dX12_hangs_73 (by decide) ?_
        refine cVi0 (As := [.int p1, .int (nI 1)]) (rest := [.int (r_3 * (nI 2))]) C hK hX hO (c_X12_gives (l := l) hw) (cwV 2 hts gd_X12_206 rfl rfl rfl hd_X12_gives (rok hR (Nat.le_of_ble_eq_true rfl) (Nat.le_of_ble_eq_true rfl))) (ci := 12) (q0 := 0) rfl rfl rfl rfl hl.1 rfl (Nat.le_of_ble_eq_true rfl) dX12_hangs_74 ⟨Nat.zero_le _, Nat.zero_le _⟩ (fun r_74 H locs hw hO => ?_)
        refine lv_iadd hx hb dX12_hangs_77 ?_
        refine lv_goto (tgt := 82) hx hb dX12_hangs_78 (by decide) ?_
        exact ri0 hQQ hx hb hr hlk hK hO hw dX12_hangs_82
    · have hw := hw.2 q_41
      refine lv_aload_n hx hb dX12_hangs_44 rfl (lv_at hl 2 rfl) ?_
      refine lv_iload_n hx hb dX12_hangs_45 rfl (lv_at hl 3 rfl) ?_
      refine lv_iload_n hx hb dX12_hangs_46 rfl (lv_at hl 4 rfl) ?_
      refine lv_iconst (v := (nI 1)) hx hb dX12_hangs_47 (by decide) ?_
      refine lv_isub hx hb dX12_hangs_48 ?_
      refine cVi0 (As := [.int p1, .int (p2 - (nI 1))]) (rest := []) C hK hX hO (c_X12_binds (l := l) hw) (cwV 2 hts gd_X12_203 rfl rfl rfl hd_X12_binds (rok hR (Nat.le_of_ble_eq_true rfl) (Nat.le_of_ble_eq_true rfl))) (ci := 12) (q0 := 0) rfl rfl rfl rfl hl.1 rfl (Nat.le_of_ble_eq_true rfl) dX12_hangs_49 ⟨Nat.zero_le _, Nat.zero_le _⟩ (fun r_49 H locs hw hO => ?_)
      refine lv_aload_n hx hb dX12_hangs_52 rfl (lv_at hl 2 rfl) ?_
      refine lv_iload_n hx hb dX12_hangs_53 rfl (lv_at hl 3 rfl) ?_
      refine lv_iload_n hx hb dX12_hangs_54 rfl (lv_at hl 4 rfl) ?_
      refine lv_iconst (v := (nI 1)) hx hb dX12_hangs_55 (by decide) ?_
      refine lv_isub hx hb dX12_hangs_56 ?_
      refine cVi0 (As := [.int p1, .int (p2 - (nI 1))]) (rest := [.int r_49]) C hK hX hO (c_X12_gives (l := l) hw) (cwV 2 hts gd_X12_206 rfl rfl rfl hd_X12_gives (rok hR (Nat.le_of_ble_eq_true rfl) (Nat.le_of_ble_eq_true rfl))) (ci := 12) (q0 := 0) rfl rfl rfl rfl hl.1 rfl (Nat.le_of_ble_eq_true rfl) dX12_hangs_57 ⟨Nat.zero_le _, Nat.zero_le _⟩ (fun r_57 H locs hw hO => ?_)
      refine lv_iconst (v := (nI 2)) hx hb dX12_hangs_60 (by decide) ?_
      refine lv_imul hx hb dX12_hangs_61 ?_
      refine lv_isub hx hb dX12_hangs_62 ?_
      exact ri0 hQQ hx hb hr hlk hK hO hw dX12_hangs_63
  · have hw := hw.2 q_25
    refine lv_aload_n hx hb dX12_hangs_28 rfl (lv_at hl 2 rfl) ?_
    refine lv_iload_n hx hb dX12_hangs_29 rfl (lv_at hl 3 rfl) ?_
    refine lv_iload_n hx hb dX12_hangs_30 rfl (lv_at hl 4 rfl) ?_
    refine cVi0 (As := [.int p1, .int p2]) (rest := []) C hK hX hO (c_X12_binds (l := l) hw) (cwV 2 hts gd_X12_203 rfl rfl rfl hd_X12_binds (rok hR (Nat.le_of_ble_eq_true rfl) (Nat.le_of_ble_eq_true rfl))) (ci := 12) (q0 := 0) rfl rfl rfl rfl hl.1 rfl (Nat.le_of_ble_eq_true rfl) dX12_hangs_31 ⟨Nat.zero_le _, Nat.zero_le _⟩ (fun r_31 H locs hw hO => ?_)
    refine lv_iload_n hx hb dX12_hangs_34 rfl (lv_at hl 1 rfl) ?_
    refine lv_isub hx hb dX12_hangs_35 ?_
    exact ri0 hQQ hx hb hr hlk hK hO hw dX12_hangs_36
theorem gd_X12_209 {a : Cond} : GoodIn (a :: wsG) (wsV RX12 209 RX12 yX12_hangs (Cond.code yX12_hangs cX12_hangs 5 (some .int) :: wsG)) := gdV qw7_10 qw7_12 qs_61 qw1_12 qw7_13
theorem hd_X12_hangs : yX12_hangs.cls = RX12 ∧ yX12_hangs.cls ≠ "java/lang/invoke/MethodHandle" ∧ yX12_hangs.cls ≠ "java/lang/invoke/VarHandle" ∧ (parseMethodDescriptor yX12_hangs.desc).map (fun d => d.parameters.length) = some 2 := by decide +kernel
def wp_X12_act (p1 : Int32) (p2 : Int32) (p3 : Int32) (k_s : Nat → Int32) (Q : Int32 → Prop) : Prop := ((((f_X12_in p1 (nI 0) ((k_s 2) - (nI 1))) = 0 ∨ (f_X12_in p2 (nI 0) (nI 2)) = 0) → (Q (nI 0))) ∧ (¬ (((f_X12_in p1 (nI 0) ((k_s 2) - (nI 1))) = 0 ∨ (f_X12_in p2 (nI 0) (nI 2)) = 0)) → ((¬ p2 = 0 → ((¬ p2 = (nI 1) → (wp_X12_hangs p1 p3 k_s (fun (r_57 : Int32) => (Q r_57)))) ∧ (p2 = (nI 1) → (wp_X12_gives p1 p3 k_s (fun (r_48 : Int32) => (Q r_48)))))) ∧ (p2 = 0 → (wp_X12_binds p1 p3 k_s (fun (r_34 : Int32) => (Q r_34)))))))
set_option maxHeartbeats 4000000 in
set_option maxRecDepth 100000 in
theorem c_X12_act {l : Launch} {D : va_G} {cI cZ cJ : ClassId} {h : Nat} {ad : Nat → Nat} {sz : Nat} {k_thrown : Int32} {k_s : Nat → Int32} {k_image : Nat → Int32} {k_hasImage : Int32} {k_steps : Nat → Int32} {k_read : Int32} {k_spot : Int32} {k_isWrong : Int32} {k_open : Int32} {k_act : Int32} {k_letBy : Nat → Int32} {k_letStamp : Nat → Int32} {k_stamp : Int32} {k_fallen : Nat → Int32} {k_held : Nat → Int32} {k_stands : Nat → Int32} {k_falling : Nat → Int32} {k_away : Nat → Int32} {k_round : Nat → Int32} {k_rests : Nat → Int64} {k_may : Nat → Int32} {k_next : Nat → Int32} {k_could : Nat → Int32} {k_couldNight : Nat → Int32} {k_night : Int32} {k_seats : Nat → Int32} {p1 : Int32} {p2 : Int32} {p3 : Int32} {Q : Int32 → Prop} (hw : wp_X12_act p1 p2 p3 k_s Q) : Met l yX12_act (Cond.code yX12_act cX12_act 4 (some .int) :: wsG) ({ frames := 3, cells := 0, slots := 0, locals := 71 } : Room) (preW D (tyM cI cZ cJ) (wM cI cZ cJ h ad k_thrown k_s k_image k_hasImage k_steps k_read k_spot k_isWrong k_open k_act k_letBy k_letStamp k_stamp k_fallen k_held k_stands k_falling k_away k_round k_rests k_may k_next k_could k_couldNight k_night k_seats) sz [.ref h, .int p1, .int p2, .int p3]) (qi0 D (tyM cI cZ cJ) (va_A (wM cI cZ cJ h ad k_thrown k_s k_image k_hasImage k_steps k_read k_spot k_isWrong k_open k_act k_letBy k_letStamp k_stamp k_fallen k_held k_stands k_falling k_away k_round k_rests k_may k_next k_could k_couldNight k_night k_seats) sz) Q (wM cI cZ cJ h ad k_thrown k_s k_image k_hasImage k_steps k_read k_spot k_isWrong k_open k_act k_letBy k_letStamp k_stamp k_fallen k_held k_stands k_falling k_away k_round k_rests k_may k_next k_could k_couldNight k_night k_seats)) 0 0 (va_A (wM cI cZ cJ h ad k_thrown k_s k_image k_hasImage k_steps k_read k_spot k_isWrong k_open k_act k_letBy k_letStamp k_stamp k_fallen k_held k_stands k_falling k_away k_round k_rests k_may k_next k_could k_couldNight k_night k_seats) sz) := by
  refine st_met (cc := cX12_act) (maxL := 4) (ret := (some .int)) (lv := [(0, .ref h), (1, .int p1), (2, .int p2), (3, .int p3)]) (Qc := fun A => qi0 D (tyM cI cZ cJ) A Q (wM cI cZ cJ h ad k_thrown k_s k_image k_hasImage k_steps k_read k_spot k_isWrong k_open k_act k_letBy k_letStamp k_stamp k_fallen k_held k_stands k_falling k_away k_round k_rests k_may k_next k_could k_couldNight k_night k_seats)) (by decide) rfl (Nat.le_of_ble_eq_true rfl) rfl ?_
  intro p e s m below meth c ls A R args QQ H locs C hr hlk hnm hK hX hsz hl hO hR hQQ
  have hx := C.1
  have hb := C.2.1
  have hown := C.2.2.2.1
  have hts := C.2.2.2.2
  have hin : ∀ w ∈ u_ws RX12 TX12 26, w ∈ (Cond.code yX12_act cX12_act 4 (some .int) :: wsG) := fun w h9 => List.mem_cons_of_mem _ (inG12 w h9)
  have lk_s := hts (Cond.fieldLink RX12 7 "FreeCityModel" "s" "[I") (List.mem_cons_of_mem _ qw5_207)
  unfold wp_X12_act at hw
  refine lv_iload_n hx hb dX12_act_0 rfl (lv_at hl 1 rfl) ?_
  refine lv_iconst (v := (nI 0)) hx hb dX12_act_1 (by decide) ?_
  refine lv_aload_n hx hb dX12_act_2 rfl (lv_at hl 0 rfl) ?_
  refine gM_s C hin hK lk_s hO dX12_act_3 ?_
  refine lv_iconst (v := (nI 2)) hx hb dX12_act_6 (by decide) ?_
  refine ldM_s C hK hO (inK 2 6700 (by decide) (by decide)) (clK 2 (by decide)) dX12_act_7 ?_
  refine lv_iconst (v := (nI 1)) hx hb dX12_act_8 (by decide) ?_
  refine lv_isub hx hb dX12_act_9 ?_
  refine cSi0 (As := [.int p1, .int (nI 0), .int ((k_s 2) - (nI 1))]) (rest := []) C hK hX hO (c_X12_in (l := l)) (va_cwS 3 hts gd_X12_74 rfl rfl rfl hd_X12_in (rok hR (Nat.le_of_ble_eq_true rfl) (Nat.le_of_ble_eq_true rfl))) rfl hl.1 rfl (Nat.le_of_ble_eq_true rfl) dX12_act_10 ⟨Nat.zero_le _, Nat.zero_le _⟩ (fun r_10 H locs e_10 hO => ?_)
  subst e_10
  have a_25 : ((f_X12_in p1 (nI 0) ((k_s 2) - (nI 1))) = 0 ∨ (f_X12_in p2 (nI 0) (nI 2)) = 0) → ∀ (H : Heap) (locs : List Loc) (ls : Array Slot), okW D A s.heap H locs (wM cI cZ cJ h ad k_thrown k_s k_image k_hasImage k_steps k_read k_spot k_isWrong k_open k_act k_letBy k_letStamp k_stamp k_fallen k_held k_stands k_falling k_away k_round k_rests k_may k_next k_could k_couldNight k_night k_seats) → lv_has ls 4 [] → W p l e R s m args below meth c H locs 0 0 QQ (F0 m 25 ls []) := by
    intro cf H locs ls hO hl
    have hw := hw.1 cf
    refine lv_iconst (v := (nI 0)) hx hb dX12_act_25 (by decide) ?_
    exact ri0 hQQ hx hb hr hlk hK hO hw dX12_act_26
  have a_27 : ¬ (((f_X12_in p1 (nI 0) ((k_s 2) - (nI 1))) = 0 ∨ (f_X12_in p2 (nI 0) (nI 2)) = 0)) → ∀ (H : Heap) (locs : List Loc) (ls : Array Slot), okW D A s.heap H locs (wM cI cZ cJ h ad k_thrown k_s k_image k_hasImage k_steps k_read k_spot k_isWrong k_open k_act k_letBy k_letStamp k_stamp k_fallen k_held k_stands k_falling k_away k_round k_rests k_may k_next k_could k_couldNight k_night k_seats) → lv_has ls 4 [(0, .ref h), (1, .int p1), (2, .int p2), (3, .int p3)] → W p l e R s m args below meth c H locs 0 0 QQ (F0 m 27 ls []) := by
    intro cf H locs ls hO hl
    have hw := hw.2 cf
    refine lv_iload_n hx hb dX12_act_27 rfl (lv_at hl 2 rfl) ?_
    refine lv_if_ne (tgt := 40) hx hb dX12_act_28 (by decide) (fun q_28 => ?_) (fun q_28 => ?_)
    · have hw := hw.1 q_28
      refine lv_iload_n hx hb dX12_act_40 rfl (lv_at hl 2 rfl) ?_
      refine lv_iconst (v := (nI 1)) hx hb dX12_act_41 (by decide) ?_
      refine lv_icmp_ne (tgt := 54) hx hb dX12_act_42 (by decide) (fun q_42 => ?_) (fun q_42 => ?_)
      · have hw := hw.1 q_42
        refine lv_aload_n hx hb dX12_act_54 rfl (lv_at hl 0 rfl) ?_
        refine lv_iload_n hx hb dX12_act_55 rfl (lv_at hl 1 rfl) ?_
        refine lv_iload_n hx hb dX12_act_56 rfl (lv_at hl 3 rfl) ?_
        refine cVi0 (As := [.int p1, .int p3]) (rest := []) C hK hX hO (c_X12_hangs (l := l) hw) (cwV 2 hts gd_X12_209 rfl rfl rfl hd_X12_hangs (rok hR (Nat.le_of_ble_eq_true rfl) (Nat.le_of_ble_eq_true rfl))) (ci := 12) (q0 := 0) rfl rfl rfl rfl hl.1 rfl (Nat.le_of_ble_eq_true rfl) dX12_act_57 ⟨Nat.zero_le _, Nat.zero_le _⟩ (fun r_57 H locs hw hO => ?_)
        exact ri0 hQQ hx hb hr hlk hK hO hw dX12_act_60
      · have hw := hw.2 q_42
        refine lv_aload_n hx hb dX12_act_45 rfl (lv_at hl 0 rfl) ?_
        refine lv_iload_n hx hb dX12_act_46 rfl (lv_at hl 1 rfl) ?_
        refine lv_iload_n hx hb dX12_act_47 rfl (lv_at hl 3 rfl) ?_
        refine cVi0 (As := [.int p1, .int p3]) (rest := []) C hK hX hO (c_X12_gives (l := l) hw) (cwV 2 hts gd_X12_206 rfl rfl rfl hd_X12_gives (rok hR (Nat.le_of_ble_eq_true rfl) (Nat.le_of_ble_eq_true rfl))) (ci := 12) (q0 := 0) rfl rfl rfl rfl hl.1 rfl (Nat.le_of_ble_eq_true rfl) dX12_act_48 ⟨Nat.zero_le _, Nat.zero_le _⟩ (fun r_48 H locs hw hO => ?_)
        refine lv_goto (tgt := 60) hx hb dX12_act_51 (by decide) ?_
        exact ri0 hQQ hx hb hr hlk hK hO hw dX12_act_60
    · have hw := hw.2 q_28
      refine lv_aload_n hx hb dX12_act_31 rfl (lv_at hl 0 rfl) ?_
      refine lv_iload_n hx hb dX12_act_32 rfl (lv_at hl 1 rfl) ?_
      refine lv_iload_n hx hb dX12_act_33 rfl (lv_at hl 3 rfl) ?_
      refine cVi0 (As := [.int p1, .int p3]) (rest := []) C hK hX hO (c_X12_binds (l := l) hw) (cwV 2 hts gd_X12_203 rfl rfl rfl hd_X12_binds (rok hR (Nat.le_of_ble_eq_true rfl) (Nat.le_of_ble_eq_true rfl))) (ci := 12) (q0 := 0) rfl rfl rfl rfl hl.1 rfl (Nat.le_of_ble_eq_true rfl) dX12_act_34 ⟨Nat.zero_le _, Nat.zero_le _⟩ (fun r_34 H locs hw hO => ?_)
      refine lv_goto (tgt := 60) hx hb dX12_act_37 (by decide) ?_
      exact ri0 hQQ hx hb hr hlk hK hO hw dX12_act_60
  refine lv_if_eq (tgt := 25) hx hb dX12_act_13 (by decide) (fun q_13 => ?_) (fun q_13 => ?_)
  · have hl := lv_sub hl [] rfl (l' := [])
    exact a_25 (Or.inl q_13) _ _ _ hO hl
  · refine lv_iload_n hx hb dX12_act_16 rfl (lv_at hl 2 rfl) ?_
    refine lv_iconst (v := (nI 0)) hx hb dX12_act_17 (by decide) ?_
    refine lv_iconst (v := (nI 2)) hx hb dX12_act_18 (by decide) ?_
    refine cSi0 (As := [.int p2, .int (nI 0), .int (nI 2)]) (rest := []) C hK hX hO (c_X12_in (l := l)) (va_cwS 3 hts gd_X12_74 rfl rfl rfl hd_X12_in (rok hR (Nat.le_of_ble_eq_true rfl) (Nat.le_of_ble_eq_true rfl))) rfl hl.1 rfl (Nat.le_of_ble_eq_true rfl) dX12_act_19 ⟨Nat.zero_le _, Nat.zero_le _⟩ (fun r_19 H locs e_19 hO => ?_)
    subst e_19
    refine lv_if_ne (tgt := 27) hx hb dX12_act_22 (by decide) (fun q_22 => ?_) (fun q_22 => ?_)
    · have hl := lv_sub hl [0, 1, 2, 3] rfl (l' := [(0, .ref h), (1, .int p1), (2, .int p2), (3, .int p3)])
      exact a_27 (fun h => h.elim q_13 q_22) _ _ _ hO hl
    · have hl := lv_sub hl [] rfl (l' := [])
      exact a_25 (Or.inr q_22) _ _ _ hO hl
def wp_X12_whose (p1 : Int32) (p2 : Int32) (k_s : Nat → Int32) (Q : Int32 → Prop) : Prop := ((((f_X12_in p1 (nI 0) ((k_s 2) - (nI 1))) = 0 ∨ (f_X12_in p2 (nI 0) (nI 7)) = 0) → (Q (-1))) ∧ (¬ (((f_X12_in p1 (nI 0) ((k_s 2) - (nI 1))) = 0 ∨ (f_X12_in p2 (nI 0) (nI 7)) = 0)) → (vp_in ((nI 1310) + p1) 6700 ∧ (∀ x_37 : Int32, x_37 = (k_s (((nI 1310) + p1)).toNatClampNeg) → (∀ y0_89 : Int32, y0_89 = (if p2 = 0 then (nI 1) else (if p2 = x_37 then (nI 1) else (if p2 = (nI 1) then (if (f_X12_in x_37 (nI 2) (nI 3)) = 0 then (if p2 = (nI 4) then (if x_37 = (nI 5) then (nI 1) else (if p2 = (nI 6) then (if x_37 = (nI 7) then (nI 1) else (nI 0)) else (nI 0))) else (if p2 = (nI 6) then (if x_37 = (nI 7) then (nI 1) else (nI 0)) else (nI 0))) else (nI 1)) else (if p2 = (nI 4) then (if x_37 = (nI 5) then (nI 1) else (if p2 = (nI 6) then (if x_37 = (nI 7) then (nI 1) else (nI 0)) else (nI 0))) else (if p2 = (nI 6) then (if x_37 = (nI 7) then (nI 1) else (nI 0)) else (nI 0)))))) → (((¬ y0_89 = 0 → (vp_in ((nI 1510) + p1) 6700))) ∧ (∀ y0_111 : Int32, y0_111 = (if y0_89 = 0 then (-6) else (k_s (((nI 1510) + p1)).toNatClampNeg)) → (Q y0_111))))))))
set_option maxHeartbeats 4000000 in
set_option maxRecDepth 100000 in
theorem c_X12_whose {l : Launch} {D : va_G} {cI cZ cJ : ClassId} {h : Nat} {ad : Nat → Nat} {sz : Nat} {k_thrown : Int32} {k_s : Nat → Int32} {k_image : Nat → Int32} {k_hasImage : Int32} {k_steps : Nat → Int32} {k_read : Int32} {k_spot : Int32} {k_isWrong : Int32} {k_open : Int32} {k_act : Int32} {k_letBy : Nat → Int32} {k_letStamp : Nat → Int32} {k_stamp : Int32} {k_fallen : Nat → Int32} {k_held : Nat → Int32} {k_stands : Nat → Int32} {k_falling : Nat → Int32} {k_away : Nat → Int32} {k_round : Nat → Int32} {k_rests : Nat → Int64} {k_may : Nat → Int32} {k_next : Nat → Int32} {k_could : Nat → Int32} {k_couldNight : Nat → Int32} {k_night : Int32} {k_seats : Nat → Int32} {p1 : Int32} {p2 : Int32} {Q : Int32 → Prop} (hw : wp_X12_whose p1 p2 k_s Q) : Met l yX12_whose (Cond.code yX12_whose cX12_whose 5 (some .int) :: wsG) ({ frames := 1, cells := 0, slots := 0, locals := 22 } : Room) (preW D (tyM cI cZ cJ) (wM cI cZ cJ h ad k_thrown k_s k_image k_hasImage k_steps k_read k_spot k_isWrong k_open k_act k_letBy k_letStamp k_stamp k_fallen k_held k_stands k_falling k_away k_round k_rests k_may k_next k_could k_couldNight k_night k_seats) sz [.ref h, .int p1, .int p2]) (qi0 D (tyM cI cZ cJ) (va_A (wM cI cZ cJ h ad k_thrown k_s k_image k_hasImage k_steps k_read k_spot k_isWrong k_open k_act k_letBy k_letStamp k_stamp k_fallen k_held k_stands k_falling k_away k_round k_rests k_may k_next k_could k_couldNight k_night k_seats) sz) Q (wM cI cZ cJ h ad k_thrown k_s k_image k_hasImage k_steps k_read k_spot k_isWrong k_open k_act k_letBy k_letStamp k_stamp k_fallen k_held k_stands k_falling k_away k_round k_rests k_may k_next k_could k_couldNight k_night k_seats)) 0 0 (va_A (wM cI cZ cJ h ad k_thrown k_s k_image k_hasImage k_steps k_read k_spot k_isWrong k_open k_act k_letBy k_letStamp k_stamp k_fallen k_held k_stands k_falling k_away k_round k_rests k_may k_next k_could k_couldNight k_night k_seats) sz) := by
  refine st_met (cc := cX12_whose) (maxL := 5) (ret := (some .int)) (lv := [(0, .ref h), (1, .int p1), (2, .int p2)]) (Qc := fun A => qi0 D (tyM cI cZ cJ) A Q (wM cI cZ cJ h ad k_thrown k_s k_image k_hasImage k_steps k_read k_spot k_isWrong k_open k_act k_letBy k_letStamp k_stamp k_fallen k_held k_stands k_falling k_away k_round k_rests k_may k_next k_could k_couldNight k_night k_seats)) (by decide) rfl (Nat.le_of_ble_eq_true rfl) rfl ?_
  intro p e s m below meth c ls A R args QQ H locs C hr hlk hnm hK hX hsz hl hO hR hQQ
  have hx := C.1
  have hb := C.2.1
  have hown := C.2.2.2.1
  have hts := C.2.2.2.2
  have hin : ∀ w ∈ u_ws RX12 TX12 26, w ∈ (Cond.code yX12_whose cX12_whose 5 (some .int) :: wsG) := fun w h9 => List.mem_cons_of_mem _ (inG12 w h9)
  have lk_s := hts (Cond.fieldLink RX12 7 "FreeCityModel" "s" "[I") (List.mem_cons_of_mem _ qw5_207)
  unfold wp_X12_whose at hw
  refine lv_iload_n hx hb dX12_whose_0 rfl (lv_at hl 1 rfl) ?_
  refine lv_iconst (v := (nI 0)) hx hb dX12_whose_1 (by decide) ?_
  refine lv_aload_n hx hb dX12_whose_2 rfl (lv_at hl 0 rfl) ?_
  refine gM_s C hin hK lk_s hO dX12_whose_3 ?_
  refine lv_iconst (v := (nI 2)) hx hb dX12_whose_6 (by decide) ?_
  refine ldM_s C hK hO (inK 2 6700 (by decide) (by decide)) (clK 2 (by decide)) dX12_whose_7 ?_
  refine lv_iconst (v := (nI 1)) hx hb dX12_whose_8 (by decide) ?_
  refine lv_isub hx hb dX12_whose_9 ?_
  refine cSi0 (As := [.int p1, .int (nI 0), .int ((k_s 2) - (nI 1))]) (rest := []) C hK hX hO (c_X12_in (l := l)) (va_cwS 3 hts gd_X12_74 rfl rfl rfl hd_X12_in (rok hR (Nat.le_of_ble_eq_true rfl) (Nat.le_of_ble_eq_true rfl))) rfl hl.1 rfl (Nat.le_of_ble_eq_true rfl) dX12_whose_10 ⟨Nat.zero_le _, Nat.zero_le _⟩ (fun r_10 H locs e_10 hO => ?_)
  subst e_10
  have a_26 : ((f_X12_in p1 (nI 0) ((k_s 2) - (nI 1))) = 0 ∨ (f_X12_in p2 (nI 0) (nI 7)) = 0) → ∀ (H : Heap) (locs : List Loc) (ls : Array Slot), okW D A s.heap H locs (wM cI cZ cJ h ad k_thrown k_s k_image k_hasImage k_steps k_read k_spot k_isWrong k_open k_act k_letBy k_letStamp k_stamp k_fallen k_held k_stands k_falling k_away k_round k_rests k_may k_next k_could k_couldNight k_night k_seats) → lv_has ls 5 [] → W p l e R s m args below meth c H locs 0 0 QQ (F0 m 26 ls []) := by
    intro cf H locs ls hO hl
    have hw := hw.1 cf
    refine lv_iconst (v := (-1)) hx hb dX12_whose_26 (by decide) ?_
    exact ri0 hQQ hx hb hr hlk hK hO hw dX12_whose_27
  have a_28 : ¬ (((f_X12_in p1 (nI 0) ((k_s 2) - (nI 1))) = 0 ∨ (f_X12_in p2 (nI 0) (nI 7)) = 0)) → ∀ (H : Heap) (locs : List Loc) (ls : Array Slot), okW D A s.heap H locs (wM cI cZ cJ h ad k_thrown k_s k_image k_hasImage k_steps k_read k_spot k_isWrong k_open k_act k_letBy k_letStamp k_stamp k_fallen k_held k_stands k_falling k_away k_round k_rests k_may k_next k_could k_couldNight k_night k_seats) → lv_has ls 5 [(0, .ref h), (1, .int p1), (2, .int p2)] → W p l e R s m args below meth c H locs 0 0 QQ (F0 m 28 ls []) := by
    intro cf H locs ls hO hl
    have hw := hw.2 cf
    refine lv_aload_n hx hb dX12_whose_28 rfl (lv_at hl 0 rfl) ?_
    refine gM_s C hin hK lk_s hO dX12_whose_29 ?_
    refine lv_sipush (v := (nI 1310)) hx hb dX12_whose_32 (by decide) ?_
    refine lv_iload_n hx hb dX12_whose_35 rfl (lv_at hl 1 rfl) ?_
    refine lv_iadd hx hb dX12_whose_36 ?_
    obtain ⟨o_37, hw⟩ := hw
    refine ldM_s C hK hO o_37 rfl dX12_whose_37 ?_
    refine lv_topi (fun x_37 ex_37 => ?_)
    have hw := hw x_37 ex_37
    refine lv_istore_n (lv' := [(3, .int x_37), (0, .ref h), (1, .int p1), (2, .int p2)]) hx hb dX12_whose_38 rfl hl (by decide) rfl (fun ls hl => ?_)
    refine lv_iload_n hx hb dX12_whose_39 rfl (lv_at hl 3 rfl) ?_
    have m_89 : ∀ (y0_89 : Int32) (H : Heap) (locs : List Loc) (ls : Array Slot), y0_89 = (if p2 = 0 then (nI 1) else (if p2 = x_37 then (nI 1) else (if p2 = (nI 1) then (if (f_X12_in x_37 (nI 2) (nI 3)) = 0 then (if p2 = (nI 4) then (if x_37 = (nI 5) then (nI 1) else (if p2 = (nI 6) then (if x_37 = (nI 7) then (nI 1) else (nI 0)) else (nI 0))) else (if p2 = (nI 6) then (if x_37 = (nI 7) then (nI 1) else (nI 0)) else (nI 0))) else (nI 1)) else (if p2 = (nI 4) then (if x_37 = (nI 5) then (nI 1) else (if p2 = (nI 6) then (if x_37 = (nI 7) then (nI 1) else (nI 0)) else (nI 0))) else (if p2 = (nI 6) then (if x_37 = (nI 7) then (nI 1) else (nI 0)) else (nI 0)))))) → okW D A s.heap H locs (wM cI cZ cJ h ad k_thrown k_s k_image k_hasImage k_steps k_read k_spot k_isWrong k_open k_act k_letBy k_letStamp k_stamp k_fallen k_held k_stands k_falling k_away k_round k_rests k_may k_next k_could k_couldNight k_night k_seats) → lv_has ls 5 [(0, .ref h), (1, .int p1)] → W p l e R s m args below meth c H locs 0 0 QQ (F0 m 89 ls [.int y0_89]) := by
      intro y0_89 H locs ls ey0_89 hO hl
      have hw := hw y0_89 ey0_89
      refine lv_istore (lv' := [(4, .int y0_89), (0, .ref h), (1, .int p1)]) hx hb dX12_whose_89 hl (by decide) rfl (fun ls hl => ?_)
      refine lv_iload hx hb dX12_whose_91 (lv_at hl 0 rfl) ?_
      obtain ⟨hs, hw⟩ := hw
      have m_111 : ∀ (y0_111 : Int32) (H : Heap) (locs : List Loc) (ls : Array Slot), y0_111 = (if y0_89 = 0 then (-6) else (k_s (((nI 1510) + p1)).toNatClampNeg)) → okW D A s.heap H locs (wM cI cZ cJ h ad k_thrown k_s k_image k_hasImage k_steps k_read k_spot k_isWrong k_open k_act k_letBy k_letStamp k_stamp k_fallen k_held k_stands k_falling k_away k_round k_rests k_may k_next k_could k_couldNight k_night k_seats) → lv_has ls 5 [] → W p l e R s m args below meth c H locs 0 0 QQ (F0 m 111 ls [.int y0_111]) := by
        intro y0_111 H locs ls ey0_111 hO hl
        have hw := hw y0_111 ey0_111
        exact ri0 hQQ hx hb hr hlk hK hO hw dX12_whose_111
      refine lv_if_eq (tgt := 109) hx hb dX12_whose_93 (by decide) (fun q_93 => ?_) (fun q_93 => ?_)
      · refine lv_bipush (v := (-6)) hx hb dX12_whose_109 (by decide) ?_
        have hl := lv_sub hl [] rfl (l' := [])
        exact m_111 _ _ _ _ (by rw [if_pos q_93]) hO hl
      · have hs := hs q_93
        have o_105 := hs
        refine lv_aload_n hx hb dX12_whose_96 rfl (lv_at hl 1 rfl) ?_
        refine gM_s C hin hK lk_s hO dX12_whose_97 ?_
        refine lv_sipush (v := (nI 1510)) hx hb dX12_whose_100 (by decide) ?_
        refine lv_iload_n hx hb dX12_whose_103 rfl (lv_at hl 2 rfl) ?_
        refine lv_iadd hx hb dX12_whose_104 ?_
        refine ldM_s C hK hO o_105 rfl dX12_whose_105 ?_
        refine lv_goto (tgt := 111) hx hb dX12_whose_106 (by decide) ?_
        have hl := lv_sub hl [] rfl (l' := [])
        exact m_111 _ _ _ _ (by rw [if_neg q_93]) hO hl
    refine lv_if_eq (tgt := 84) hx hb dX12_whose_40 (by decide) (fun q_40 => ?_) (fun q_40 => ?_)
    · refine lv_iconst (v := (nI 1)) hx hb dX12_whose_84 (by decide) ?_
      refine lv_goto (tgt := 89) hx hb dX12_whose_85 (by decide) ?_
      have hl := lv_sub hl [1, 2] rfl (l' := [(0, .ref h), (1, .int p1)])
      exact m_89 _ _ _ _ (by rw [if_pos q_40]) hO hl
    · refine lv_iload_n hx hb dX12_whose_43 rfl (lv_at hl 3 rfl) ?_
      refine lv_iload_n hx hb dX12_whose_44 rfl (lv_at hl 0 rfl) ?_
      refine lv_icmp_eq (tgt := 84) hx hb dX12_whose_45 (by decide) (fun q_45 => ?_) (fun q_45 => ?_)
      · refine lv_iconst (v := (nI 1)) hx hb dX12_whose_84 (by decide) ?_
        refine lv_goto (tgt := 89) hx hb dX12_whose_85 (by decide) ?_
        have hl := lv_sub hl [1, 2] rfl (l' := [(0, .ref h), (1, .int p1)])
        exact m_89 _ _ _ _ (by rw [if_neg q_40, if_pos q_45]) hO hl
      · refine lv_iload_n hx hb dX12_whose_48 rfl (lv_at hl 3 rfl) ?_
        refine lv_iconst (v := (nI 1)) hx hb dX12_whose_49 (by decide) ?_
        refine lv_icmp_ne (tgt := 62) hx hb dX12_whose_50 (by decide) (fun q_50 => ?_) (fun q_50 => ?_)
        · refine lv_iload_n hx hb dX12_whose_62 rfl (lv_at hl 3 rfl) ?_
          refine lv_iconst (v := (nI 4)) hx hb dX12_whose_63 (by decide) ?_
          refine lv_icmp_ne (tgt := 72) hx hb dX12_whose_64 (by decide) (fun q_64 => ?_) (fun q_64 => ?_)
          · refine lv_iload_n hx hb dX12_whose_72 rfl (lv_at hl 3 rfl) ?_
            refine lv_bipush (v := (nI 6)) hx hb dX12_whose_73 (by decide) ?_
            refine lv_icmp_ne (tgt := 88) hx hb dX12_whose_75 (by decide) (fun q_75 => ?_) (fun q_75 => ?_)
            · refine lv_iconst (v := (nI 0)) hx hb dX12_whose_88 (by decide) ?_
              have hl := lv_sub hl [1, 2] rfl (l' := [(0, .ref h), (1, .int p1)])
              exact m_89 _ _ _ _ (by rw [if_neg q_40, if_neg q_45, if_neg q_50, if_neg q_64, if_neg q_75]) hO hl
            · refine lv_iload_n hx hb dX12_whose_78 rfl (lv_at hl 0 rfl) ?_
              refine lv_bipush (v := (nI 7)) hx hb dX12_whose_79 (by decide) ?_
              refine lv_icmp_ne (tgt := 88) hx hb dX12_whose_81 (by decide) (fun q_81 => ?_) (fun q_81 => ?_)
              · refine lv_iconst (v := (nI 0)) hx hb dX12_whose_88 (by decide) ?_
                have hl := lv_sub hl [1, 2] rfl (l' := [(0, .ref h), (1, .int p1)])
                exact m_89 _ _ _ _ (by rw [if_neg q_40, if_neg q_45, if_neg q_50, if_neg q_64, if_pos q_75, if_neg q_81]) hO hl
              · refine lv_iconst (v := (nI 1)) hx hb dX12_whose_84 (by decide) ?_
                refine lv_goto (tgt := 89) hx hb dX12_whose_85 (by decide) ?_
                have hl := lv_sub hl [1, 2] rfl (l' := [(0, .ref h), (1, .int p1)])
                exact m_89 _ _ _ _ (by rw [if_neg q_40, if_neg q_45, if_neg q_50, if_neg q_64, if_pos q_75, if_pos q_81]) hO hl
          · refine lv_iload_n hx hb dX12_whose_67 rfl (lv_at hl 0 rfl) ?_
            refine lv_iconst (v := (nI 5)) hx hb dX12_whose_68 (by decide) ?_
            refine lv_icmp_eq (tgt := 84) hx hb dX12_whose_69 (by decide) (fun q_69 => ?_) (fun q_69 => ?_)
            · refine lv_iconst (v := (nI 1)) hx hb dX12_whose_84 (by decide) ?_
              refine lv_goto (tgt := 89) hx hb dX12_whose_85 (by decide) ?_
              have hl := lv_sub hl [1, 2] rfl (l' := [(0, .ref h), (1, .int p1)])
              exact m_89 _ _ _ _ (by rw [if_neg q_40, if_neg q_45, if_neg q_50, if_pos q_64, if_pos q_69]) hO hl
            · refine lv_iload_n hx hb dX12_whose_72 rfl (lv_at hl 3 rfl) ?_
              refine lv_bipush (v := (nI 6)) hx hb dX12_whose_73 (by decide) ?_
              refine lv_icmp_ne (tgt := 88) hx hb dX12_whose_75 (by decide) (fun q_75 => ?_) (fun q_75 => ?_)
              · refine lv_iconst (v := (nI 0)) hx hb dX12_whose_88 (by decide) ?_
                have hl := lv_sub hl [1, 2] rfl (l' := [(0, .ref h), (1, .int p1)])
                exact m_89 _ _ _ _ (by rw [if_neg q_40, if_neg q_45, if_neg q_50, if_pos q_64, if_neg q_69, if_neg q_75]) hO hl
              · refine lv_iload_n hx hb dX12_whose_78 rfl (lv_at hl 0 rfl) ?_
                refine lv_bipush (v := (nI 7)) hx hb dX12_whose_79 (by decide) ?_
                refine lv_icmp_ne (tgt := 88) hx hb dX12_whose_81 (by decide) (fun q_81 => ?_) (fun q_81 => ?_)
                · refine lv_iconst (v := (nI 0)) hx hb dX12_whose_88 (by decide) ?_
                  have hl := lv_sub hl [1, 2] rfl (l' := [(0, .ref h), (1, .int p1)])
                  exact m_89 _ _ _ _ (by rw [if_neg q_40, if_neg q_45, if_neg q_50, if_pos q_64, if_neg q_69, if_pos q_75, if_neg q_81]) hO hl
                · refine lv_iconst (v := (nI 1)) hx hb dX12_whose_84 (by decide) ?_
                  refine lv_goto (tgt := 89) hx hb dX12_whose_85 (by decide) ?_
                  have hl := lv_sub hl [1, 2] rfl (l' := [(0, .ref h), (1, .int p1)])
                  exact m_89 _ _ _ _ (by rw [if_neg q_40, if_neg q_45, if_neg q_50, if_pos q_64, if_neg q_69, if_pos q_75, if_pos q_81]) hO hl
        · refine lv_iload_n hx hb dX12_whose_53 rfl (lv_at hl 0 rfl) ?_
          refine lv_iconst (v := (nI 2)) hx hb dX12_whose_54 (by decide) ?_
          refine lv_iconst (v := (nI 3)) hx hb dX12_whose_55 (by decide) ?_
          refine cSi0 (As := [.int x_37, .int (nI 2), .int (nI 3)]) (rest := []) C hK hX hO (c_X12_in (l := l)) (va_cwS 3 hts gd_X12_74 rfl rfl rfl hd_X12_in (rok hR (Nat.le_of_ble_eq_true rfl) (Nat.le_of_ble_eq_true rfl))) rfl hl.1 rfl (Nat.le_of_ble_eq_true rfl) dX12_whose_56 ⟨Nat.zero_le _, Nat.zero_le _⟩ (fun r_56 H locs e_56 hO => ?_)
          subst e_56
          refine lv_if_ne (tgt := 84) hx hb dX12_whose_59 (by decide) (fun q_59 => ?_) (fun q_59 => ?_)
          · refine lv_iconst (v := (nI 1)) hx hb dX12_whose_84 (by decide) ?_
            refine lv_goto (tgt := 89) hx hb dX12_whose_85 (by decide) ?_
            have hl := lv_sub hl [1, 2] rfl (l' := [(0, .ref h), (1, .int p1)])
            exact m_89 _ _ _ _ (by rw [if_neg q_40, if_neg q_45, if_pos q_50, if_neg q_59]) hO hl
          · refine lv_iload_n hx hb dX12_whose_62 rfl (lv_at hl 3 rfl) ?_
            refine lv_iconst (v := (nI 4)) hx hb dX12_whose_63 (by decide) ?_
            refine lv_icmp_ne (tgt := 72) hx hb dX12_whose_64 (by decide) (fun q_64 => ?_) (fun q_64 => ?_)
            · refine lv_iload_n hx hb dX12_whose_72 rfl (lv_at hl 3 rfl) ?_
              refine lv_bipush (v := (nI 6)) hx hb dX12_whose_73 (by decide) ?_
              refine lv_icmp_ne (tgt := 88) hx hb dX12_whose_75 (by decide) (fun q_75 => ?_) (fun q_75 => ?_)
              · refine lv_iconst (v := (nI 0)) hx hb dX12_whose_88 (by decide) ?_
                have hl := lv_sub hl [1, 2] rfl (l' := [(0, .ref h), (1, .int p1)])
                exact m_89 _ _ _ _ (by rw [if_neg q_40, if_neg q_45, if_pos q_50, if_pos q_59, if_neg q_64, if_neg q_75]) hO hl
              · refine lv_iload_n hx hb dX12_whose_78 rfl (lv_at hl 0 rfl) ?_
                refine lv_bipush (v := (nI 7)) hx hb dX12_whose_79 (by decide) ?_
                refine lv_icmp_ne (tgt := 88) hx hb dX12_whose_81 (by decide) (fun q_81 => ?_) (fun q_81 => ?_)
                · refine lv_iconst (v := (nI 0)) hx hb dX12_whose_88 (by decide) ?_
                  have hl := lv_sub hl [1, 2] rfl (l' := [(0, .ref h), (1, .int p1)])
                  exact m_89 _ _ _ _ (by rw [if_neg q_40, if_neg q_45, if_pos q_50, if_pos q_59, if_neg q_64, if_pos q_75, if_neg q_81]) hO hl
                · refine lv_iconst (v := (nI 1)) hx hb dX12_whose_84 (by decide) ?_
                  refine lv_goto (tgt := 89) hx hb dX12_whose_85 (by decide) ?_
                  have hl := lv_sub hl [1, 2] rfl (l' := [(0, .ref h), (1, .int p1)])
                  exact m_89 _ _ _ _ (by rw [if_neg q_40, if_neg q_45, if_pos q_50, if_pos q_59, if_neg q_64, if_pos q_75, if_pos q_81]) hO hl
            · refine lv_iload_n hx hb dX12_whose_67 rfl (lv_at hl 0 rfl) ?_
              refine lv_iconst (v := (nI 5)) hx hb dX12_whose_68 (by decide) ?_
              refine lv_icmp_eq (tgt := 84) hx hb dX12_whose_69 (by decide) (fun q_69 => ?_) (fun q_69 => ?_)
              · refine lv_iconst (v := (nI 1)) hx hb dX12_whose_84 (by decide) ?_
                refine lv_goto (tgt := 89) hx hb dX12_whose_85 (by decide) ?_
                have hl := lv_sub hl [1, 2] rfl (l' := [(0, .ref h), (1, .int p1)])
                exact m_89 _ _ _ _ (by rw [if_neg q_40, if_neg q_45, if_pos q_50, if_pos q_59, if_pos q_64, if_pos q_69]) hO hl
              · refine lv_iload_n hx hb dX12_whose_72 rfl (lv_at hl 3 rfl) ?_
                refine lv_bipush (v := (nI 6)) hx hb dX12_whose_73 (by decide) ?_
                refine lv_icmp_ne (tgt := 88) hx hb dX12_whose_75 (by decide) (fun q_75 => ?_) (fun q_75 => ?_)
                · refine lv_iconst (v := (nI 0)) hx hb dX12_whose_88 (by decide) ?_
                  have hl := lv_sub hl [1, 2] rfl (l' := [(0, .ref h), (1, .int p1)])
                  exact m_89 _ _ _ _ (by rw [if_neg q_40, if_neg q_45, if_pos q_50, if_pos q_59, if_pos q_64, if_neg q_69, if_neg q_75]) hO hl
                · refine lv_iload_n hx hb dX12_whose_78 rfl (lv_at hl 0 rfl) ?_
                  refine lv_bipush (v := (nI 7)) hx hb dX12_whose_79 (by decide) ?_
                  refine lv_icmp_ne (tgt := 88) hx hb dX12_whose_81 (by decide) (fun q_81 => ?_) (fun q_81 => ?_)
                  · refine lv_iconst (v := (nI 0)) hx hb dX12_whose_88 (by decide) ?_
                    have hl := lv_sub hl [1, 2] rfl (l' := [(0, .ref h), (1, .int p1)])
                    exact m_89 _ _ _ _ (by rw [if_neg q_40, if_neg q_45, if_pos q_50, if_pos q_59, if_pos q_64, if_neg q_69, if_pos q_75, if_neg q_81]) hO hl
                  · refine lv_iconst (v := (nI 1)) hx hb dX12_whose_84 (by decide) ?_
                    refine lv_goto (tgt := 89) hx hb dX12_whose_85 (by decide) ?_
                    have hl := lv_sub hl [1, 2] rfl (l' := [(0, .ref h), (1, .int p1)])
                    exact m_89 _ _ _ _ (by rw [if_neg q_40, if_neg q_45, if_pos q_50, if_pos q_59, if_pos q_64, if_neg q_69, if_pos q_75, if_pos q_81]) hO hl
  refine lv_if_eq (tgt := 26) hx hb dX12_whose_13 (by decide) (fun q_13 => ?_) (fun q_13 => ?_)
  · have hl := lv_sub hl [] rfl (l' := [])
    exact a_26 (Or.inl q_13) _ _ _ hO hl
  · refine lv_iload_n hx hb dX12_whose_16 rfl (lv_at hl 2 rfl) ?_
    refine lv_iconst (v := (nI 0)) hx hb dX12_whose_17 (by decide) ?_
    refine lv_bipush (v := (nI 7)) hx hb dX12_whose_18 (by decide) ?_
    refine cSi0 (As := [.int p2, .int (nI 0), .int (nI 7)]) (rest := []) C hK hX hO (c_X12_in (l := l)) (va_cwS 3 hts gd_X12_74 rfl rfl rfl hd_X12_in (rok hR (Nat.le_of_ble_eq_true rfl) (Nat.le_of_ble_eq_true rfl))) rfl hl.1 rfl (Nat.le_of_ble_eq_true rfl) dX12_whose_20 ⟨Nat.zero_le _, Nat.zero_le _⟩ (fun r_20 H locs e_20 hO => ?_)
    subst e_20
    refine lv_if_ne (tgt := 28) hx hb dX12_whose_23 (by decide) (fun q_23 => ?_) (fun q_23 => ?_)
    · have hl := lv_sub hl [0, 1, 2] rfl (l' := [(0, .ref h), (1, .int p1), (2, .int p2)])
      exact a_28 (fun h => h.elim q_13 q_23) _ _ _ hO hl
    · have hl := lv_sub hl [] rfl (l' := [])
      exact a_26 (Or.inr q_23) _ _ _ hO hl
def f_X12_isShip (k_s : Nat → Int32) (p1 : Int32) : Int32 := (f_X12_in p1 (nI 0) ((k_s 3) - (nI 1)))
theorem z_X12_isShip (k_s : Nat → Int32) (p1 : Int32) : zb (f_X12_isShip k_s p1) := by
  unfold f_X12_isShip
  exact (z_X12_in p1 (nI 0) ((k_s 3) - (nI 1)))
set_option maxHeartbeats 4000000 in
set_option maxRecDepth 100000 in
theorem c_X12_isShip {l : Launch} {D : va_G} {cI cZ cJ : ClassId} {h : Nat} {ad : Nat → Nat} {sz : Nat} {k_thrown : Int32} {k_s : Nat → Int32} {k_image : Nat → Int32} {k_hasImage : Int32} {k_steps : Nat → Int32} {k_read : Int32} {k_spot : Int32} {k_isWrong : Int32} {k_open : Int32} {k_act : Int32} {k_letBy : Nat → Int32} {k_letStamp : Nat → Int32} {k_stamp : Int32} {k_fallen : Nat → Int32} {k_held : Nat → Int32} {k_stands : Nat → Int32} {k_falling : Nat → Int32} {k_away : Nat → Int32} {k_round : Nat → Int32} {k_rests : Nat → Int64} {k_may : Nat → Int32} {k_next : Nat → Int32} {k_could : Nat → Int32} {k_couldNight : Nat → Int32} {k_night : Int32} {k_seats : Nat → Int32} {p1 : Int32} : Met l yX12_isShip (Cond.code yX12_isShip cX12_isShip 2 (some .boolean) :: wsG) ({ frames := 1, cells := 0, slots := 0, locals := 22 } : Room) (preW D (tyM cI cZ cJ) (wM cI cZ cJ h ad k_thrown k_s k_image k_hasImage k_steps k_read k_spot k_isWrong k_open k_act k_letBy k_letStamp k_stamp k_fallen k_held k_stands k_falling k_away k_round k_rests k_may k_next k_could k_couldNight k_night k_seats) sz [.ref h, .int p1]) (qi0 D (tyM cI cZ cJ) (va_A (wM cI cZ cJ h ad k_thrown k_s k_image k_hasImage k_steps k_read k_spot k_isWrong k_open k_act k_letBy k_letStamp k_stamp k_fallen k_held k_stands k_falling k_away k_round k_rests k_may k_next k_could k_couldNight k_night k_seats) sz) (fun r => r = f_X12_isShip k_s p1) (wM cI cZ cJ h ad k_thrown k_s k_image k_hasImage k_steps k_read k_spot k_isWrong k_open k_act k_letBy k_letStamp k_stamp k_fallen k_held k_stands k_falling k_away k_round k_rests k_may k_next k_could k_couldNight k_night k_seats)) 0 0 (va_A (wM cI cZ cJ h ad k_thrown k_s k_image k_hasImage k_steps k_read k_spot k_isWrong k_open k_act k_letBy k_letStamp k_stamp k_fallen k_held k_stands k_falling k_away k_round k_rests k_may k_next k_could k_couldNight k_night k_seats) sz) := by
  refine st_met (cc := cX12_isShip) (maxL := 2) (ret := (some .boolean)) (lv := [(0, .ref h), (1, .int p1)]) (Qc := fun A => qi0 D (tyM cI cZ cJ) A (fun r => r = f_X12_isShip k_s p1) (wM cI cZ cJ h ad k_thrown k_s k_image k_hasImage k_steps k_read k_spot k_isWrong k_open k_act k_letBy k_letStamp k_stamp k_fallen k_held k_stands k_falling k_away k_round k_rests k_may k_next k_could k_couldNight k_night k_seats)) (by decide) rfl (Nat.le_of_ble_eq_true rfl) rfl ?_
  intro p e s m below meth c ls A R args QQ H locs C hr hlk hnm hK hX hsz hl hO hR hQQ
  have hx := C.1
  have hb := C.2.1
  have hown := C.2.2.2.1
  have hts := C.2.2.2.2
  have hin : ∀ w ∈ u_ws RX12 TX12 26, w ∈ (Cond.code yX12_isShip cX12_isShip 2 (some .boolean) :: wsG) := fun w h9 => List.mem_cons_of_mem _ (inG12 w h9)
  have lk_s := hts (Cond.fieldLink RX12 7 "FreeCityModel" "s" "[I") (List.mem_cons_of_mem _ qw5_207)
  refine lv_iload_n hx hb dX12_isShip_0 rfl (lv_at hl 1 rfl) ?_
  refine lv_iconst (v := (nI 0)) hx hb dX12_isShip_1 (by decide) ?_
  refine lv_aload_n hx hb dX12_isShip_2 rfl (lv_at hl 0 rfl) ?_
  refine gM_s C hin hK lk_s hO dX12_isShip_3 ?_
  refine lv_iconst (v := (nI 3)) hx hb dX12_isShip_6 (by decide) ?_
  refine ldM_s C hK hO (inK 3 6700 (by decide) (by decide)) (clK 3 (by decide)) dX12_isShip_7 ?_
  refine lv_iconst (v := (nI 1)) hx hb dX12_isShip_8 (by decide) ?_
  refine lv_isub hx hb dX12_isShip_9 ?_
  refine cSi0 (As := [.int p1, .int (nI 0), .int ((k_s 3) - (nI 1))]) (rest := []) C hK hX hO (c_X12_in (l := l)) (va_cwS 3 hts gd_X12_74 rfl rfl rfl hd_X12_in (rok hR (Nat.le_of_ble_eq_true rfl) (Nat.le_of_ble_eq_true rfl))) rfl hl.1 rfl (Nat.le_of_ble_eq_true rfl) dX12_isShip_10 ⟨Nat.zero_le _, Nat.zero_le _⟩ (fun r_10 H locs e_10 hO => ?_)
  subst e_10
  exact rz0 hQQ hx hb hr hlk hK hO (z_X12_in p1 (nI 0) ((k_s 3) - (nI 1))) (by unfold f_X12_isShip; rfl) dX12_isShip_13
def f_X12_isGood  (p1 : Int32) : Int32 := (f_X12_in p1 (nI 0) (nI 3))
theorem z_X12_isGood  (p1 : Int32) : zb (f_X12_isGood p1) := by
  unfold f_X12_isGood
  exact (z_X12_in p1 (nI 0) (nI 3))
set_option maxHeartbeats 4000000 in
set_option maxRecDepth 100000 in
theorem c_X12_isGood {l : Launch} {D : va_G} {T : List (ClassId × FieldType)} {ws : va_W} {sz : Nat} {p1 : Int32} : Met l yX12_isGood (Cond.code yX12_isGood cX12_isGood 1 (some .boolean) :: wsG) ({ frames := 1, cells := 0, slots := 0, locals := 22 } : Room) (preW D T ws sz [.int p1]) (qi0 D T (va_A ws sz) (fun r => r = f_X12_isGood p1) ws) 0 0 (va_A ws sz) := by
  refine st_met (cc := cX12_isGood) (maxL := 1) (ret := (some .boolean)) (lv := [(0, .int p1)]) (Qc := fun A => qi0 D T A (fun r => r = f_X12_isGood p1) ws) (by decide) rfl (Nat.le_of_ble_eq_true rfl) rfl ?_
  intro p e s m below meth c ls A R args QQ H locs C hr hlk hnm hK hX hsz hl hO hR hQQ
  have hx := C.1
  have hb := C.2.1
  have hown := C.2.2.2.1
  have hts := C.2.2.2.2
  refine lv_iload_n hx hb dX12_isGood_0 rfl (lv_at hl 0 rfl) ?_
  refine lv_iconst (v := (nI 0)) hx hb dX12_isGood_1 (by decide) ?_
  refine lv_iconst (v := (nI 3)) hx hb dX12_isGood_2 (by decide) ?_
  refine cSi0 (As := [.int p1, .int (nI 0), .int (nI 3)]) (rest := []) C hK hX hO (c_X12_in (l := l)) (va_cwS 3 hts gd_X12_74 rfl rfl rfl hd_X12_in (rok hR (Nat.le_of_ble_eq_true rfl) (Nat.le_of_ble_eq_true rfl))) rfl hl.1 rfl (Nat.le_of_ble_eq_true rfl) dX12_isGood_3 ⟨Nat.zero_le _, Nat.zero_le _⟩ (fun r_3 H locs e_3 hO => ?_)
  subst e_3
  exact rz0 hQQ hx hb hr hlk hK hO (z_X12_in p1 (nI 0) (nI 3)) (by unfold f_X12_isGood; rfl) dX12_isGood_6
theorem gd_X12_212 {a : Cond} : GoodIn (a :: wsG) (va_wsS RX12 212 yX12_isGood (Cond.code yX12_isGood cX12_isGood 1 (some .boolean) :: wsG)) := gdS qw7_22 qw7_23 qw1_12 qw7_24
theorem hd_X12_isGood : yX12_isGood.cls ≠ "java/lang/invoke/MethodHandle" ∧ yX12_isGood.cls ≠ "java/lang/invoke/VarHandle" ∧ (parseMethodDescriptor yX12_isGood.desc).map (fun d => d.parameters.length) = some 1 := by decide +kernel
def wp_X12_ship (p1 : Int32) (p2 : Int32) (k_s : Nat → Int32) (Q : Int32 → (Nat → Int32) → Prop) : Prop := ((¬ (f_X12_isGood p1) = 0 → ((¬ (f_X12_in p2 (nI 1) (nI 999)) = 0 → ((¬ (k_s 3) = (nI 12) → (vp_in ((nI 90) + (k_s 3)) 6700 ∧ (vp_in ((nI 102) + (k_s 3)) 6700 ∧ (vp_in ((nI 114) + (k_s 3)) 6700 ∧ (Q (k_s 3) (upd (upd (upd (upd k_s ((((nI 90) + (k_s 3))).toNatClampNeg) p1) ((((nI 102) + (k_s 3))).toNatClampNeg) p2) ((((nI 114) + (k_s 3))).toNatClampNeg) (-2)) 3 (((upd (upd (upd k_s ((((nI 90) + (k_s 3))).toNatClampNeg) p1) ((((nI 102) + (k_s 3))).toNatClampNeg) p2) ((((nI 114) + (k_s 3))).toNatClampNeg) (-2)) 3) + (nI 1)))))))) ∧ ((k_s 3) = (nI 12) → (Q (-4) k_s)))) ∧ ((f_X12_in p2 (nI 1) (nI 999)) = 0 → (Q (-2) k_s)))) ∧ ((f_X12_isGood p1) = 0 → (Q (-1) k_s)))
set_option maxHeartbeats 4000000 in
set_option maxRecDepth 100000 in
theorem c_X12_ship {l : Launch} {D : va_G} {cI cZ cJ : ClassId} {h : Nat} {ad : Nat → Nat} {sz : Nat} {k_thrown : Int32} {k_s : Nat → Int32} {k_image : Nat → Int32} {k_hasImage : Int32} {k_steps : Nat → Int32} {k_read : Int32} {k_spot : Int32} {k_isWrong : Int32} {k_open : Int32} {k_act : Int32} {k_letBy : Nat → Int32} {k_letStamp : Nat → Int32} {k_stamp : Int32} {k_fallen : Nat → Int32} {k_held : Nat → Int32} {k_stands : Nat → Int32} {k_falling : Nat → Int32} {k_away : Nat → Int32} {k_round : Nat → Int32} {k_rests : Nat → Int64} {k_may : Nat → Int32} {k_next : Nat → Int32} {k_could : Nat → Int32} {k_couldNight : Nat → Int32} {k_night : Int32} {k_seats : Nat → Int32} {p1 : Int32} {p2 : Int32} {Q : Int32 → (Nat → Int32) → Prop} (hw : wp_X12_ship p1 p2 k_s Q) : Met l yX12_ship (Cond.code yX12_ship cX12_ship 4 (some .int) :: wsG) ({ frames := 2, cells := 0, slots := 0, locals := 42 } : Room) (preW D (tyM cI cZ cJ) (wM cI cZ cJ h ad k_thrown k_s k_image k_hasImage k_steps k_read k_spot k_isWrong k_open k_act k_letBy k_letStamp k_stamp k_fallen k_held k_stands k_falling k_away k_round k_rests k_may k_next k_could k_couldNight k_night k_seats) sz [.ref h, .int p1, .int p2]) (qi1 D (tyM cI cZ cJ) (va_A (wM cI cZ cJ h ad k_thrown k_s k_image k_hasImage k_steps k_read k_spot k_isWrong k_open k_act k_letBy k_letStamp k_stamp k_fallen k_held k_stands k_falling k_away k_round k_rests k_may k_next k_could k_couldNight k_night k_seats) sz) Q (fun k_s' => (wM cI cZ cJ h ad k_thrown k_s' k_image k_hasImage k_steps k_read k_spot k_isWrong k_open k_act k_letBy k_letStamp k_stamp k_fallen k_held k_stands k_falling k_away k_round k_rests k_may k_next k_could k_couldNight k_night k_seats))) 0 0 (va_A (wM cI cZ cJ h ad k_thrown k_s k_image k_hasImage k_steps k_read k_spot k_isWrong k_open k_act k_letBy k_letStamp k_stamp k_fallen k_held k_stands k_falling k_away k_round k_rests k_may k_next k_could k_couldNight k_night k_seats) sz) := by
  refine st_met (cc := cX12_ship) (maxL := 4) (ret := (some .int)) (lv := [(0, .ref h), (1, .int p1), (2, .int p2)]) (Qc := fun A => qi1 D (tyM cI cZ cJ) A Q (fun k_s' => (wM cI cZ cJ h ad k_thrown k_s' k_image k_hasImage k_steps k_read k_spot k_isWrong k_open k_act k_letBy k_letStamp k_stamp k_fallen k_held k_stands k_falling k_away k_round k_rests k_may k_next k_could k_couldNight k_night k_seats))) (by decide) rfl (Nat.le_of_ble_eq_true rfl) rfl ?_
  intro p e s m below meth c ls A R args QQ H locs C hr hlk hnm hK hX hsz hl hO hR hQQ
  have hx := C.1
  have hb := C.2.1
  have hown := C.2.2.2.1
  have hts := C.2.2.2.2
  have hin : ∀ w ∈ u_ws RX12 TX12 26, w ∈ (Cond.code yX12_ship cX12_ship 4 (some .int) :: wsG) := fun w h9 => List.mem_cons_of_mem _ (inG12 w h9)
  have lk_s := hts (Cond.fieldLink RX12 7 "FreeCityModel" "s" "[I") (List.mem_cons_of_mem _ qw5_207)
  unfold wp_X12_ship at hw
  refine lv_iload_n hx hb dX12_ship_0 rfl (lv_at hl 1 rfl) ?_
  refine cSi0 (As := [.int p1]) (rest := []) C hK hX hO (c_X12_isGood (l := l)) (va_cwS 1 hts gd_X12_212 rfl rfl rfl hd_X12_isGood (rok hR (Nat.le_of_ble_eq_true rfl) (Nat.le_of_ble_eq_true rfl))) rfl hl.1 rfl (Nat.le_of_ble_eq_true rfl) dX12_ship_1 ⟨Nat.zero_le _, Nat.zero_le _⟩ (fun r_1 H locs e_1 hO => ?_)
  subst e_1
  refine lv_if_ne (tgt := 9) hx hb dX12_ship_4 (by decide) (fun q_4 => ?_) (fun q_4 => ?_)
  · have hw := hw.1 q_4
    refine lv_iload_n hx hb dX12_ship_9 rfl (lv_at hl 2 rfl) ?_
    refine lv_iconst (v := (nI 1)) hx hb dX12_ship_10 (by decide) ?_
    refine lv_sipush (v := (nI 999)) hx hb dX12_ship_11 (by decide) ?_
    refine cSi0 (As := [.int p2, .int (nI 1), .int (nI 999)]) (rest := []) C hK hX hO (c_X12_in (l := l)) (va_cwS 3 hts gd_X12_74 rfl rfl rfl hd_X12_in (rok hR (Nat.le_of_ble_eq_true rfl) (Nat.le_of_ble_eq_true rfl))) rfl hl.1 rfl (Nat.le_of_ble_eq_true rfl) dX12_ship_14 ⟨Nat.zero_le _, Nat.zero_le _⟩ (fun r_14 H locs e_14 hO => ?_)
    subst e_14
    refine lv_if_ne (tgt := 23) hx hb dX12_ship_17 (by decide) (fun q_17 => ?_) (fun q_17 => ?_)
    · have hw := hw.1 q_17
      refine lv_aload_n hx hb dX12_ship_23 rfl (lv_at hl 0 rfl) ?_
      refine gM_s C hin hK lk_s hO dX12_ship_24 ?_
      refine lv_iconst (v := (nI 3)) hx hb dX12_ship_27 (by decide) ?_
      refine ldM_s C hK hO (inK 3 6700 (by decide) (by decide)) (clK 3 (by decide)) dX12_ship_28 ?_
      refine lv_bipush (v := (nI 12)) hx hb dX12_ship_29 (by decide) ?_
      refine lv_icmp_ne (tgt := 37) hx hb dX12_ship_31 (by decide) (fun q_31 => ?_) (fun q_31 => ?_)
      · have hw := hw.1 q_31
        refine lv_aload_n hx hb dX12_ship_37 rfl (lv_at hl 0 rfl) ?_
        refine gM_s C hin hK lk_s hO dX12_ship_38 ?_
        refine lv_iconst (v := (nI 3)) hx hb dX12_ship_41 (by decide) ?_
        refine ldM_s C hK hO (inK 3 6700 (by decide) (by decide)) (clK 3 (by decide)) dX12_ship_42 ?_
        refine lv_istore_n (lv' := [(3, .int (k_s 3)), (0, .ref h), (1, .int p1), (2, .int p2)]) hx hb dX12_ship_43 rfl hl (by decide) rfl (fun ls hl => ?_)
        refine lv_aload_n hx hb dX12_ship_44 rfl (lv_at hl 1 rfl) ?_
        refine gM_s C hin hK lk_s hO dX12_ship_45 ?_
        refine lv_bipush (v := (nI 90)) hx hb dX12_ship_48 (by decide) ?_
        refine lv_iload_n hx hb dX12_ship_50 rfl (lv_at hl 0 rfl) ?_
        refine lv_iadd hx hb dX12_ship_51 ?_
        refine lv_iload_n hx hb dX12_ship_52 rfl (lv_at hl 2 rfl) ?_
        obtain ⟨o_53, hw⟩ := hw
        refine stM_s C hK hO o_53 rfl dX12_ship_53 (fun H locs hO => ?_)
        refine lv_aload_n hx hb dX12_ship_54 rfl (lv_at hl 1 rfl) ?_
        refine gM_s C hin hK lk_s hO dX12_ship_55 ?_
        refine lv_bipush (v := (nI 102)) hx hb dX12_ship_58 (by decide) ?_
        refine lv_iload_n hx hb dX12_ship_60 rfl (lv_at hl 0 rfl) ?_
        refine lv_iadd hx hb dX12_ship_61 ?_
        refine lv_iload_n hx hb dX12_ship_62 rfl (lv_at hl 3 rfl) ?_
        obtain ⟨o_63, hw⟩ := hw
        refine stM_s C hK hO o_63 rfl dX12_ship_63 (fun H locs hO => ?_)
        refine lv_aload_n hx hb dX12_ship_64 rfl (lv_at hl 1 rfl) ?_
        refine gM_s C hin hK lk_s hO dX12_ship_65 ?_
        refine lv_bipush (v := (nI 114)) hx hb dX12_ship_68 (by decide) ?_
        refine lv_iload_n hx hb dX12_ship_70 rfl (lv_at hl 0 rfl) ?_
        refine lv_iadd hx hb dX12_ship_71 ?_
        refine lv_bipush (v := (-2)) hx hb dX12_ship_72 (by decide) ?_
        obtain ⟨o_74, hw⟩ := hw
        refine stM_s C hK hO o_74 rfl dX12_ship_74 (fun H locs hO => ?_)
        refine lv_aload_n hx hb dX12_ship_75 rfl (lv_at hl 1 rfl) ?_
        refine gM_s C hin hK lk_s hO dX12_ship_76 ?_
        refine lv_iconst (v := (nI 3)) hx hb dX12_ship_79 (by decide) ?_
        refine lv_dup2_11 hx hb dX12_ship_80 rfl rfl ?_
        refine ldM_s C hK hO (inK 3 6700 (by decide) (by decide)) (clK 3 (by decide)) dX12_ship_81 ?_
        refine lv_iconst (v := (nI 1)) hx hb dX12_ship_82 (by decide) ?_
        refine lv_iadd hx hb dX12_ship_83 ?_
        refine stM_s C hK hO (inK 3 6700 (by decide) (by decide)) (clK 3 (by decide)) dX12_ship_84 (fun H locs hO => ?_)
        refine lv_iload_n hx hb dX12_ship_85 rfl (lv_at hl 0 rfl) ?_
        exact ri1 hQQ hx hb hr hlk hK hO hw dX12_ship_86
      · have hw := hw.2 q_31
        refine lv_bipush (v := (-4)) hx hb dX12_ship_34 (by decide) ?_
        exact ri1 hQQ hx hb hr hlk hK hO hw dX12_ship_36
    · have hw := hw.2 q_17
      refine lv_bipush (v := (-2)) hx hb dX12_ship_20 (by decide) ?_
      exact ri1 hQQ hx hb hr hlk hK hO hw dX12_ship_22
  · have hw := hw.2 q_4
    refine lv_iconst (v := (-1)) hx hb dX12_ship_7 (by decide) ?_
    exact ri1 hQQ hx hb hr hlk hK hO hw dX12_ship_8
theorem gd_X12_215 {a : Cond} : GoodIn (a :: wsG) (wsV RX12 215 RX12 yX12_isShip (Cond.code yX12_isShip cX12_isShip 2 (some .boolean) :: wsG)) := gdV qw7_29 qw7_31 qs_62 qw1_12 qw7_32
theorem hd_X12_isShip : yX12_isShip.cls = RX12 ∧ yX12_isShip.cls ≠ "java/lang/invoke/MethodHandle" ∧ yX12_isShip.cls ≠ "java/lang/invoke/VarHandle" ∧ (parseMethodDescriptor yX12_isShip.desc).map (fun d => d.parameters.length) = some 1 := by decide +kernel
def wb_X12_berth_57 (p1 : Int32) (p2 : Int32) (k_s : Nat → Int32) (Q : Int32 → (Nat → Int32) → Prop) (L_57 : Int32 → Int32 → Prop) (v3_57 : Int32) (v4_57 : Int32) : Prop := (((k_s 3) ≤ v4_57 → ((¬ v3_57 = 0 → (vp_in ((nI 114) + p1) 6700 ∧ (Q (nI 1) (upd k_s ((((nI 114) + p1)).toNatClampNeg) p2)))) ∧ (v3_57 = 0 → (Q (-3) k_s)))) ∧ (¬ (k_s 3) ≤ v4_57 → (((¬ v3_57 = 0 → (vp_in ((nI 114) + v4_57) 6700))) ∧ (∀ y0_91 : Int32, y0_91 = (if v3_57 = 0 then (nI 0) else (if (k_s (((nI 114) + v4_57)).toNatClampNeg) = p2 then (nI 0) else (nI 1))) → (L_57 y0_91 (v4_57 + (nI 1)))))))
def wl_X12_berth_57 (p1 : Int32) (p2 : Int32) (k_s : Nat → Int32) (Q : Int32 → (Nat → Int32) → Prop) : Nat → Int32 → Int32 → Prop
  | 0, _, _ => False
  | n + 1, v3_57, v4_57 => wb_X12_berth_57 p1 p2 k_s Q (wl_X12_berth_57 p1 p2 k_s Q n) v3_57 v4_57
def wp_X12_berth (p1 : Int32) (p2 : Int32) (k_s : Nat → Int32) (Q : Int32 → (Nat → Int32) → Prop) : Prop := ((((f_X12_isShip k_s p1) = 0 ∨ (f_X12_isSpot p2) = 0) → (Q (-1) k_s)) ∧ (¬ (((f_X12_isShip k_s p1) = 0 ∨ (f_X12_isSpot p2) = 0)) → (vp_in ((nI 20) + p2) 6700 ∧ (((¬ (f_X12_in (k_s (((nI 20) + p2)).toNatClampNeg) (nI 1) (nI 2)) = 0 → (vp_in ((nI 114) + p1) 6700))) ∧ (∀ y0_53 : Int32, y0_53 = (if (f_X12_in (k_s (((nI 20) + p2)).toNatClampNeg) (nI 1) (nI 2)) = 0 then (nI 0) else (if (k_s (((nI 114) + p1)).toNatClampNeg) = (-2) then (nI 1) else (nI 0))) → (∃ n, wl_X12_berth_57 p1 p2 k_s Q n y0_53 (nI 0)))))))
set_option maxHeartbeats 4000000 in
set_option maxRecDepth 100000 in
theorem c_X12_berth {l : Launch} {D : va_G} {cI cZ cJ : ClassId} {h : Nat} {ad : Nat → Nat} {sz : Nat} {k_thrown : Int32} {k_s : Nat → Int32} {k_image : Nat → Int32} {k_hasImage : Int32} {k_steps : Nat → Int32} {k_read : Int32} {k_spot : Int32} {k_isWrong : Int32} {k_open : Int32} {k_act : Int32} {k_letBy : Nat → Int32} {k_letStamp : Nat → Int32} {k_stamp : Int32} {k_fallen : Nat → Int32} {k_held : Nat → Int32} {k_stands : Nat → Int32} {k_falling : Nat → Int32} {k_away : Nat → Int32} {k_round : Nat → Int32} {k_rests : Nat → Int64} {k_may : Nat → Int32} {k_next : Nat → Int32} {k_could : Nat → Int32} {k_couldNight : Nat → Int32} {k_night : Int32} {k_seats : Nat → Int32} {p1 : Int32} {p2 : Int32} {Q : Int32 → (Nat → Int32) → Prop} (hw : wp_X12_berth p1 p2 k_s Q) : Met l yX12_berth (Cond.code yX12_berth cX12_berth 5 (some .int) :: wsG) ({ frames := 2, cells := 0, slots := 0, locals := 43 } : Room) (preW D (tyM cI cZ cJ) (wM cI cZ cJ h ad k_thrown k_s k_image k_hasImage k_steps k_read k_spot k_isWrong k_open k_act k_letBy k_letStamp k_stamp k_fallen k_held k_stands k_falling k_away k_round k_rests k_may k_next k_could k_couldNight k_night k_seats) sz [.ref h, .int p1, .int p2]) (qi1 D (tyM cI cZ cJ) (va_A (wM cI cZ cJ h ad k_thrown k_s k_image k_hasImage k_steps k_read k_spot k_isWrong k_open k_act k_letBy k_letStamp k_stamp k_fallen k_held k_stands k_falling k_away k_round k_rests k_may k_next k_could k_couldNight k_night k_seats) sz) Q (fun k_s' => (wM cI cZ cJ h ad k_thrown k_s' k_image k_hasImage k_steps k_read k_spot k_isWrong k_open k_act k_letBy k_letStamp k_stamp k_fallen k_held k_stands k_falling k_away k_round k_rests k_may k_next k_could k_couldNight k_night k_seats))) 0 0 (va_A (wM cI cZ cJ h ad k_thrown k_s k_image k_hasImage k_steps k_read k_spot k_isWrong k_open k_act k_letBy k_letStamp k_stamp k_fallen k_held k_stands k_falling k_away k_round k_rests k_may k_next k_could k_couldNight k_night k_seats) sz) := by
  refine st_met (cc := cX12_berth) (maxL := 5) (ret := (some .int)) (lv := [(0, .ref h), (1, .int p1), (2, .int p2)]) (Qc := fun A => qi1 D (tyM cI cZ cJ) A Q (fun k_s' => (wM cI cZ cJ h ad k_thrown k_s' k_image k_hasImage k_steps k_read k_spot k_isWrong k_open k_act k_letBy k_letStamp k_stamp k_fallen k_held k_stands k_falling k_away k_round k_rests k_may k_next k_could k_couldNight k_night k_seats))) (by decide) rfl (Nat.le_of_ble_eq_true rfl) rfl ?_
  intro p e s m below meth c ls A R args QQ H locs C hr hlk hnm hK hX hsz hl hO hR hQQ
  have hx := C.1
  have hb := C.2.1
  have hown := C.2.2.2.1
  have hts := C.2.2.2.2
  have hin : ∀ w ∈ u_ws RX12 TX12 26, w ∈ (Cond.code yX12_berth cX12_berth 5 (some .int) :: wsG) := fun w h9 => List.mem_cons_of_mem _ (inG12 w h9)
  have lk_s := hts (Cond.fieldLink RX12 7 "FreeCityModel" "s" "[I") (List.mem_cons_of_mem _ qw5_207)
  unfold wp_X12_berth at hw
  refine lv_aload_n hx hb dX12_berth_0 rfl (lv_at hl 0 rfl) ?_
  refine lv_iload_n hx hb dX12_berth_1 rfl (lv_at hl 1 rfl) ?_
  refine cVi0 (As := [.int p1]) (rest := []) C hK hX hO (c_X12_isShip (l := l)) (cwV 1 hts gd_X12_215 rfl rfl rfl hd_X12_isShip (rok hR (Nat.le_of_ble_eq_true rfl) (Nat.le_of_ble_eq_true rfl))) (ci := 12) (q0 := 0) rfl rfl rfl rfl hl.1 rfl (Nat.le_of_ble_eq_true rfl) dX12_berth_2 ⟨Nat.zero_le _, Nat.zero_le _⟩ (fun r_2 H locs e_2 hO => ?_)
  subst e_2
  have a_15 : ((f_X12_isShip k_s p1) = 0 ∨ (f_X12_isSpot p2) = 0) → ∀ (H : Heap) (locs : List Loc) (ls : Array Slot), okW D A s.heap H locs (wM cI cZ cJ h ad k_thrown k_s k_image k_hasImage k_steps k_read k_spot k_isWrong k_open k_act k_letBy k_letStamp k_stamp k_fallen k_held k_stands k_falling k_away k_round k_rests k_may k_next k_could k_couldNight k_night k_seats) → lv_has ls 5 [] → W p l e R s m args below meth c H locs 0 0 QQ (F0 m 15 ls []) := by
    intro cf H locs ls hO hl
    have hw := hw.1 cf
    refine lv_iconst (v := (-1)) hx hb dX12_berth_15 (by decide) ?_
    exact ri1 hQQ hx hb hr hlk hK hO hw dX12_berth_16
  have a_17 : ¬ (((f_X12_isShip k_s p1) = 0 ∨ (f_X12_isSpot p2) = 0)) → ∀ (H : Heap) (locs : List Loc) (ls : Array Slot), okW D A s.heap H locs (wM cI cZ cJ h ad k_thrown k_s k_image k_hasImage k_steps k_read k_spot k_isWrong k_open k_act k_letBy k_letStamp k_stamp k_fallen k_held k_stands k_falling k_away k_round k_rests k_may k_next k_could k_couldNight k_night k_seats) → lv_has ls 5 [(0, .ref h), (1, .int p1), (2, .int p2)] → W p l e R s m args below meth c H locs 0 0 QQ (F0 m 17 ls []) := by
    intro cf H locs ls hO hl
    have hw := hw.2 cf
    refine lv_aload_n hx hb dX12_berth_17 rfl (lv_at hl 0 rfl) ?_
    refine gM_s C hin hK lk_s hO dX12_berth_18 ?_
    refine lv_bipush (v := (nI 20)) hx hb dX12_berth_21 (by decide) ?_
    refine lv_iload_n hx hb dX12_berth_23 rfl (lv_at hl 2 rfl) ?_
    refine lv_iadd hx hb dX12_berth_24 ?_
    obtain ⟨o_25, hw⟩ := hw
    refine ldM_s C hK hO o_25 rfl dX12_berth_25 ?_
    refine lv_iconst (v := (nI 1)) hx hb dX12_berth_26 (by decide) ?_
    refine lv_iconst (v := (nI 2)) hx hb dX12_berth_27 (by decide) ?_
    refine cSi0 (As := [.int (k_s (((nI 20) + p2)).toNatClampNeg), .int (nI 1), .int (nI 2)]) (rest := []) C hK hX hO (c_X12_in (l := l)) (va_cwS 3 hts gd_X12_74 rfl rfl rfl hd_X12_in (rok hR (Nat.le_of_ble_eq_true rfl) (Nat.le_of_ble_eq_true rfl))) rfl hl.1 rfl (Nat.le_of_ble_eq_true rfl) dX12_berth_28 ⟨Nat.zero_le _, Nat.zero_le _⟩ (fun r_28 H locs e_28 hO => ?_)
    subst e_28
    obtain ⟨hs, hw⟩ := hw
    have m_53 : ∀ (y0_53 : Int32) (H : Heap) (locs : List Loc) (ls : Array Slot), y0_53 = (if (f_X12_in (k_s (((nI 20) + p2)).toNatClampNeg) (nI 1) (nI 2)) = 0 then (nI 0) else (if (k_s (((nI 114) + p1)).toNatClampNeg) = (-2) then (nI 1) else (nI 0))) → okW D A s.heap H locs (wM cI cZ cJ h ad k_thrown k_s k_image k_hasImage k_steps k_read k_spot k_isWrong k_open k_act k_letBy k_letStamp k_stamp k_fallen k_held k_stands k_falling k_away k_round k_rests k_may k_next k_could k_couldNight k_night k_seats) → lv_has ls 5 [(0, .ref h), (1, .int p1), (2, .int p2)] → W p l e R s m args below meth c H locs 0 0 QQ (F0 m 53 ls [.int y0_53]) := by
      intro y0_53 H locs ls ey0_53 hO hl
      have hw := hw y0_53 ey0_53
      refine lv_istore_n (lv' := [(3, .int y0_53), (0, .ref h), (1, .int p1), (2, .int p2)]) hx hb dX12_berth_53 rfl hl (by decide) rfl (fun ls hl => ?_)
      refine lv_iconst (v := (nI 0)) hx hb dX12_berth_54 (by decide) ?_
      refine lv_istore (lv' := [(4, .int (nI 0)), (3, .int y0_53), (0, .ref h), (1, .int p1), (2, .int p2)]) hx hb dX12_berth_55 hl (by decide) rfl (fun ls hl => ?_)
      obtain ⟨n_57, hw⟩ := hw
      have b_57 : ∀ (L_57 : Int32 → Int32 → Prop) (ih_57 : ∀ (v3_57 : Int32) (v4_57 : Int32) (H : Heap) (locs : List Loc) (ls : Array Slot), okW D A s.heap H locs (wM cI cZ cJ h ad k_thrown k_s k_image k_hasImage k_steps k_read k_spot k_isWrong k_open k_act k_letBy k_letStamp k_stamp k_fallen k_held k_stands k_falling k_away k_round k_rests k_may k_next k_could k_couldNight k_night k_seats) → lv_has ls 5 [(0, .ref h), (1, .int p1), (2, .int p2), (3, .int v3_57), (4, .int v4_57)] → L_57 v3_57 v4_57 → W p l e R s m args below meth c H locs 0 0 QQ (F0 m 57 ls [])) (v3_57 : Int32) (v4_57 : Int32) (H : Heap) (locs : List Loc) (ls : Array Slot), okW D A s.heap H locs (wM cI cZ cJ h ad k_thrown k_s k_image k_hasImage k_steps k_read k_spot k_isWrong k_open k_act k_letBy k_letStamp k_stamp k_fallen k_held k_stands k_falling k_away k_round k_rests k_may k_next k_could k_couldNight k_night k_seats) → lv_has ls 5 [(0, .ref h), (1, .int p1), (2, .int p2), (3, .int v3_57), (4, .int v4_57)] → wb_X12_berth_57 p1 p2 k_s Q L_57 v3_57 v4_57 → W p l e R s m args below meth c H locs 0 0 QQ (F0 m 57 ls []) := by
        intro L_57 ih_57 v3_57 v4_57 H locs ls hO hl hw
        unfold wb_X12_berth_57 at hw
        refine lv_iload hx hb dX12_berth_57 (lv_at hl 4 rfl) ?_
        refine lv_aload_n hx hb dX12_berth_59 rfl (lv_at hl 0 rfl) ?_
        refine gM_s C hin hK lk_s hO dX12_berth_60 ?_
        refine lv_iconst (v := (nI 3)) hx hb dX12_berth_63 (by decide) ?_
        refine ldM_s C hK hO (inK 3 6700 (by decide) (by decide)) (clK 3 (by decide)) dX12_berth_64 ?_
        refine lv_icmp_ge (tgt := 98) hx hb dX12_berth_65 (by decide) (fun q_65 => ?_) (fun q_65 => ?_)
        · have hw := hw.1 q_65
          refine lv_iload_n hx hb dX12_berth_98 rfl (lv_at hl 3 rfl) ?_
          refine lv_if_ne (tgt := 105) hx hb dX12_berth_99 (by decide) (fun q_99 => ?_) (fun q_99 => ?_)
          · have hw := hw.1 q_99
            refine lv_aload_n hx hb dX12_berth_105 rfl (lv_at hl 0 rfl) ?_
            refine gM_s C hin hK lk_s hO dX12_berth_106 ?_
            refine lv_bipush (v := (nI 114)) hx hb dX12_berth_109 (by decide) ?_
            refine lv_iload_n hx hb dX12_berth_111 rfl (lv_at hl 1 rfl) ?_
            refine lv_iadd hx hb dX12_berth_112 ?_
            refine lv_iload_n hx hb dX12_berth_113 rfl (lv_at hl 2 rfl) ?_
            obtain ⟨o_114, hw⟩ := hw
            refine stM_s C hK hO o_114 rfl dX12_berth_114 (fun H locs hO => ?_)
            refine lv_iconst (v := (nI 1)) hx hb dX12_berth_115 (by decide) ?_
            exact ri1 hQQ hx hb hr hlk hK hO hw dX12_berth_116
          · have hw := hw.2 q_99
            refine lv_bipush (v := (-3)) hx hb dX12_berth_102 (by decide) ?_
            exact ri1 hQQ hx hb hr hlk hK hO hw dX12_berth_104
        · have hw := hw.2 q_65
          refine lv_iload_n hx hb dX12_berth_68 rfl (lv_at hl 3 rfl) ?_
          obtain ⟨hs, hw⟩ := hw
          have m_91 : ∀ (y0_91 : Int32) (H : Heap) (locs : List Loc) (ls : Array Slot), y0_91 = (if v3_57 = 0 then (nI 0) else (if (k_s (((nI 114) + v4_57)).toNatClampNeg) = p2 then (nI 0) else (nI 1))) → okW D A s.heap H locs (wM cI cZ cJ h ad k_thrown k_s k_image k_hasImage k_steps k_read k_spot k_isWrong k_open k_act k_letBy k_letStamp k_stamp k_fallen k_held k_stands k_falling k_away k_round k_rests k_may k_next k_could k_couldNight k_night k_seats) → lv_has ls 5 [(0, .ref h), (1, .int p1), (2, .int p2), (4, .int v4_57)] → W p l e R s m args below meth c H locs 0 0 QQ (F0 m 91 ls [.int y0_91]) := by
            intro y0_91 H locs ls ey0_91 hO hl
            have hw := hw y0_91 ey0_91
            refine lv_istore_n (lv' := [(3, .int y0_91), (0, .ref h), (1, .int p1), (2, .int p2), (4, .int v4_57)]) hx hb dX12_berth_91 rfl hl (by decide) rfl (fun ls hl => ?_)
            refine lv_iinc (v := (v4_57 + (nI 1))) (lv' := [(4, .int (v4_57 + (nI 1))), (3, .int y0_91), (0, .ref h), (1, .int p1), (2, .int p2)]) hx hb dX12_berth_92 hl (k := 4) rfl (iinc_1 _) (by decide) rfl (fun ls hl => ?_)
            refine lv_goto (tgt := 57) hx hb dX12_berth_95 (by decide) ?_
            exact ih_57 y0_91 (v4_57 + (nI 1)) _ _ _ hO (lv_sub hl [2, 3, 4, 1, 0] rfl) hw
          refine lv_if_eq (tgt := 90) hx hb dX12_berth_69 (by decide) (fun q_69 => ?_) (fun q_69 => ?_)
          · refine lv_iconst (v := (nI 0)) hx hb dX12_berth_90 (by decide) ?_
            have hl := lv_sub hl [0, 1, 2, 4] rfl (l' := [(0, .ref h), (1, .int p1), (2, .int p2), (4, .int v4_57)])
            exact m_91 _ _ _ _ (by rw [if_pos q_69]) hO hl
          · have hs := hs q_69
            have o_81 := hs
            refine lv_aload_n hx hb dX12_berth_72 rfl (lv_at hl 0 rfl) ?_
            refine gM_s C hin hK lk_s hO dX12_berth_73 ?_
            refine lv_bipush (v := (nI 114)) hx hb dX12_berth_76 (by decide) ?_
            refine lv_iload hx hb dX12_berth_78 (lv_at hl 4 rfl) ?_
            refine lv_iadd hx hb dX12_berth_80 ?_
            refine ldM_s C hK hO o_81 rfl dX12_berth_81 ?_
            refine lv_iload_n hx hb dX12_berth_82 rfl (lv_at hl 2 rfl) ?_
            refine lv_icmp_eq (tgt := 90) hx hb dX12_berth_83 (by decide) (fun q_83 => ?_) (fun q_83 => ?_)
            · refine lv_iconst (v := (nI 0)) hx hb dX12_berth_90 (by decide) ?_
              have hl := lv_sub hl [0, 1, 2, 4] rfl (l' := [(0, .ref h), (1, .int p1), (2, .int p2), (4, .int v4_57)])
              exact m_91 _ _ _ _ (by rw [if_neg q_69, if_pos q_83]) hO hl
            · refine lv_iconst (v := (nI 1)) hx hb dX12_berth_86 (by decide) ?_
              refine lv_goto (tgt := 91) hx hb dX12_berth_87 (by decide) ?_
              have hl := lv_sub hl [0, 1, 2, 4] rfl (l' := [(0, .ref h), (1, .int p1), (2, .int p2), (4, .int v4_57)])
              exact m_91 _ _ _ _ (by rw [if_neg q_69, if_neg q_83]) hO hl
      have l_57 : ∀ (n : Nat) (v3_57 : Int32) (v4_57 : Int32) (H : Heap) (locs : List Loc) (ls : Array Slot), okW D A s.heap H locs (wM cI cZ cJ h ad k_thrown k_s k_image k_hasImage k_steps k_read k_spot k_isWrong k_open k_act k_letBy k_letStamp k_stamp k_fallen k_held k_stands k_falling k_away k_round k_rests k_may k_next k_could k_couldNight k_night k_seats) → lv_has ls 5 [(0, .ref h), (1, .int p1), (2, .int p2), (3, .int v3_57), (4, .int v4_57)] → wl_X12_berth_57 p1 p2 k_s Q n v3_57 v4_57 → W p l e R s m args below meth c H locs 0 0 QQ (F0 m 57 ls []) := by
        intro n
        induction n with
        | zero => intro v3_57 v4_57 H locs ls hO hl hw; exact False.elim hw
        | succ n ih => exact b_57 _ ih
      exact l_57 n_57 y0_53 (nI 0) _ _ _ hO (lv_sub hl [2, 3, 4, 1, 0] rfl) hw
    refine lv_if_eq (tgt := 52) hx hb dX12_berth_31 (by decide) (fun q_31 => ?_) (fun q_31 => ?_)
    · refine lv_iconst (v := (nI 0)) hx hb dX12_berth_52 (by decide) ?_
      have hl := lv_sub hl [0, 1, 2] rfl (l' := [(0, .ref h), (1, .int p1), (2, .int p2)])
      exact m_53 _ _ _ _ (by rw [if_pos q_31]) hO hl
    · have hs := hs q_31
      have o_42 := hs
      refine lv_aload_n hx hb dX12_berth_34 rfl (lv_at hl 0 rfl) ?_
      refine gM_s C hin hK lk_s hO dX12_berth_35 ?_
      refine lv_bipush (v := (nI 114)) hx hb dX12_berth_38 (by decide) ?_
      refine lv_iload_n hx hb dX12_berth_40 rfl (lv_at hl 1 rfl) ?_
      refine lv_iadd hx hb dX12_berth_41 ?_
      refine ldM_s C hK hO o_42 rfl dX12_berth_42 ?_
      refine lv_bipush (v := (-2)) hx hb dX12_berth_43 (by decide) ?_
      refine lv_icmp_ne (tgt := 52) hx hb dX12_berth_45 (by decide) (fun q_45 => ?_) (fun q_45 => ?_)
      · refine lv_iconst (v := (nI 0)) hx hb dX12_berth_52 (by decide) ?_
        have hl := lv_sub hl [0, 1, 2] rfl (l' := [(0, .ref h), (1, .int p1), (2, .int p2)])
        exact m_53 _ _ _ _ (by rw [if_neg q_31, if_neg q_45]) hO hl
      · refine lv_iconst (v := (nI 1)) hx hb dX12_berth_48 (by decide) ?_
        refine lv_goto (tgt := 53) hx hb dX12_berth_49 (by decide) ?_
        have hl := lv_sub hl [0, 1, 2] rfl (l' := [(0, .ref h), (1, .int p1), (2, .int p2)])
        exact m_53 _ _ _ _ (by rw [if_neg q_31, if_pos q_45]) hO hl
  refine lv_if_eq (tgt := 15) hx hb dX12_berth_5 (by decide) (fun q_5 => ?_) (fun q_5 => ?_)
  · have hl := lv_sub hl [] rfl (l' := [])
    exact a_15 (Or.inl q_5) _ _ _ hO hl
  · refine lv_iload_n hx hb dX12_berth_8 rfl (lv_at hl 2 rfl) ?_
    refine cSi0 (As := [.int p2]) (rest := []) C hK hX hO (c_X12_isSpot (l := l)) (va_cwS 1 hts gd_X12_78 rfl rfl rfl hd_X12_isSpot (rok hR (Nat.le_of_ble_eq_true rfl) (Nat.le_of_ble_eq_true rfl))) rfl hl.1 rfl (Nat.le_of_ble_eq_true rfl) dX12_berth_9 ⟨Nat.zero_le _, Nat.zero_le _⟩ (fun r_9 H locs e_9 hO => ?_)
    subst e_9
    refine lv_if_ne (tgt := 17) hx hb dX12_berth_12 (by decide) (fun q_12 => ?_) (fun q_12 => ?_)
    · have hl := lv_sub hl [0, 1, 2] rfl (l' := [(0, .ref h), (1, .int p1), (2, .int p2)])
      exact a_17 (fun h => h.elim q_5 q_12) _ _ _ hO hl
    · have hl := lv_sub hl [] rfl (l' := [])
      exact a_15 (Or.inr q_12) _ _ _ hO hl
