def wb_X12_areRulings_5 (p1 : Int64) (k_s : Nat → Int32) (Q : Int32 → Prop) (L_5 : Int32 → Int32 → Prop) (v3_5 : Int32) (v4_5 : Int32) : Prop := (((nI 64) ≤ v4_5 → (zb v3_5 ∧ (Q v3_5))) ∧ (¬ (nI 64) ≤ v4_5 → (((¬ v3_5 = 0 → ((¬ (lg_cmp ((p1 >>> ((v4_5).toInt64 &&& 63)) &&& (1)) (0)) = 0 → (ok_X12_isOf k_s v4_5 (nI 6)))))) ∧ (∀ y0_43 : Int32, y0_43 = (if v3_5 = 0 then (nI 0) else (if (lg_cmp ((p1 >>> ((v4_5).toInt64 &&& 63)) &&& (1)) (0)) = 0 then (nI 1) else (if (f_X12_isOf k_s v4_5 (nI 6)) = 0 then (nI 0) else (nI 1)))) → (L_5 y0_43 (v4_5 + (nI 1)))))))
def wl_X12_areRulings_5 (p1 : Int64) (k_s : Nat → Int32) (Q : Int32 → Prop) : Nat → Int32 → Int32 → Prop
  | 0, _, _ => False
  | n + 1, v3_5, v4_5 => wb_X12_areRulings_5 p1 k_s Q (wl_X12_areRulings_5 p1 k_s Q n) v3_5 v4_5
def wp_X12_areRulings (p1 : Int64) (k_s : Nat → Int32) (Q : Int32 → Prop) : Prop := (∃ n, wl_X12_areRulings_5 p1 k_s Q n (nI 1) (nI 0))
set_option maxHeartbeats 4000000 in
set_option maxRecDepth 100000 in
theorem c_X12_areRulings {l : Launch} {D : va_G} {cI cZ cJ : ClassId} {h : Nat} {ad : Nat → Nat} {sz : Nat} {k_thrown : Int32} {k_s : Nat → Int32} {k_image : Nat → Int32} {k_hasImage : Int32} {k_steps : Nat → Int32} {k_read : Int32} {k_spot : Int32} {k_isWrong : Int32} {k_open : Int32} {k_act : Int32} {k_letBy : Nat → Int32} {k_letStamp : Nat → Int32} {k_stamp : Int32} {k_fallen : Nat → Int32} {k_held : Nat → Int32} {k_stands : Nat → Int32} {k_falling : Nat → Int32} {k_away : Nat → Int32} {k_round : Nat → Int32} {k_rests : Nat → Int64} {k_may : Nat → Int32} {k_next : Nat → Int32} {k_could : Nat → Int32} {k_couldNight : Nat → Int32} {k_night : Int32} {k_seats : Nat → Int32} {p1 : Int64} {Q : Int32 → Prop} (hw : wp_X12_areRulings p1 k_s Q) : Met l yX12_areRulings (Cond.code yX12_areRulings cX12_areRulings 5 (some .boolean) :: wsG) ({ frames := 2, cells := 0, slots := 0, locals := 44 } : Room) (preW D (tyM cI cZ cJ) (wM cI cZ cJ h ad k_thrown k_s k_image k_hasImage k_steps k_read k_spot k_isWrong k_open k_act k_letBy k_letStamp k_stamp k_fallen k_held k_stands k_falling k_away k_round k_rests k_may k_next k_could k_couldNight k_night k_seats) sz [.ref h, .long p1]) (qi0 D (tyM cI cZ cJ) (va_A (wM cI cZ cJ h ad k_thrown k_s k_image k_hasImage k_steps k_read k_spot k_isWrong k_open k_act k_letBy k_letStamp k_stamp k_fallen k_held k_stands k_falling k_away k_round k_rests k_may k_next k_could k_couldNight k_night k_seats) sz) Q (wM cI cZ cJ h ad k_thrown k_s k_image k_hasImage k_steps k_read k_spot k_isWrong k_open k_act k_letBy k_letStamp k_stamp k_fallen k_held k_stands k_falling k_away k_round k_rests k_may k_next k_could k_couldNight k_night k_seats)) 0 0 (va_A (wM cI cZ cJ h ad k_thrown k_s k_image k_hasImage k_steps k_read k_spot k_isWrong k_open k_act k_letBy k_letStamp k_stamp k_fallen k_held k_stands k_falling k_away k_round k_rests k_may k_next k_could k_couldNight k_night k_seats) sz) := by
  refine st_met (cc := cX12_areRulings) (maxL := 5) (ret := (some .boolean)) (lv := [(0, .ref h), (1, .long p1)]) (Qc := fun A => qi0 D (tyM cI cZ cJ) A Q (wM cI cZ cJ h ad k_thrown k_s k_image k_hasImage k_steps k_read k_spot k_isWrong k_open k_act k_letBy k_letStamp k_stamp k_fallen k_held k_stands k_falling k_away k_round k_rests k_may k_next k_could k_couldNight k_night k_seats)) (by decide) rfl (Nat.le_of_ble_eq_true rfl) rfl ?_
  intro p e s m below meth c ls A R args QQ H locs C hr hlk hnm hK hX hsz hl hO hR hQQ
  have hx := C.1
  have hb := C.2.1
  have hown := C.2.2.2.1
  have hts := C.2.2.2.2
  have hin : ∀ w ∈ u_ws RX12 TX12 26, w ∈ (Cond.code yX12_areRulings cX12_areRulings 5 (some .boolean) :: wsG) := fun w h9 => List.mem_cons_of_mem _ (inG12 w h9)
  unfold wp_X12_areRulings at hw
  refine lv_iconst (v := (nI 1)) hx hb dX12_areRulings_0 (by decide) ?_
  refine lv_istore_n (lv' := [(3, .int (nI 1)), (0, .ref h), (1, .long p1)]) hx hb dX12_areRulings_1 rfl hl (by decide) rfl (fun ls hl => ?_)
  refine lv_iconst (v := (nI 0)) hx hb dX12_areRulings_2 (by decide) ?_
  refine lv_istore (lv' := [(4, .int (nI 0)), (3, .int (nI 1)), (0, .ref h), (1, .long p1)]) hx hb dX12_areRulings_3 hl (by decide) rfl (fun ls hl => ?_)
  obtain ⟨n_5, hw⟩ := hw
  have b_5 : ∀ (L_5 : Int32 → Int32 → Prop) (ih_5 : ∀ (v3_5 : Int32) (v4_5 : Int32) (H : Heap) (locs : List Loc) (ls : Array Slot), okW D A s.heap H locs (wM cI cZ cJ h ad k_thrown k_s k_image k_hasImage k_steps k_read k_spot k_isWrong k_open k_act k_letBy k_letStamp k_stamp k_fallen k_held k_stands k_falling k_away k_round k_rests k_may k_next k_could k_couldNight k_night k_seats) → lv_has ls 5 [(0, .ref h), (1, .long p1), (3, .int v3_5), (4, .int v4_5)] → L_5 v3_5 v4_5 → W p l e R s m args below meth c H locs 0 0 QQ (F0 m 5 ls [])) (v3_5 : Int32) (v4_5 : Int32) (H : Heap) (locs : List Loc) (ls : Array Slot), okW D A s.heap H locs (wM cI cZ cJ h ad k_thrown k_s k_image k_hasImage k_steps k_read k_spot k_isWrong k_open k_act k_letBy k_letStamp k_stamp k_fallen k_held k_stands k_falling k_away k_round k_rests k_may k_next k_could k_couldNight k_night k_seats) → lv_has ls 5 [(0, .ref h), (1, .long p1), (3, .int v3_5), (4, .int v4_5)] → wb_X12_areRulings_5 p1 k_s Q L_5 v3_5 v4_5 → W p l e R s m args below meth c H locs 0 0 QQ (F0 m 5 ls []) := by
    intro L_5 ih_5 v3_5 v4_5 H locs ls hO hl hw
    unfold wb_X12_areRulings_5 at hw
    refine lv_iload hx hb dX12_areRulings_5 (lv_at hl 3 rfl) ?_
    refine lv_bipush (v := (nI 64)) hx hb dX12_areRulings_7 (by decide) ?_
    refine lv_icmp_ge (tgt := 50) hx hb dX12_areRulings_9 (by decide) (fun q_9 => ?_) (fun q_9 => ?_)
    · have hw := hw.1 q_9
      refine lv_iload_n hx hb dX12_areRulings_50 rfl (lv_at hl 2 rfl) ?_
      obtain ⟨hz, hw⟩ := hw
      exact rz0 hQQ hx hb hr hlk hK hO hz hw dX12_areRulings_51
    · have hw := hw.2 q_9
      refine lv_iload_n hx hb dX12_areRulings_12 rfl (lv_at hl 2 rfl) ?_
      obtain ⟨hs, hw⟩ := hw
      have m_43 : ∀ (y0_43 : Int32) (H : Heap) (locs : List Loc) (ls : Array Slot), y0_43 = (if v3_5 = 0 then (nI 0) else (if (lg_cmp ((p1 >>> ((v4_5).toInt64 &&& 63)) &&& (1)) (0)) = 0 then (nI 1) else (if (f_X12_isOf k_s v4_5 (nI 6)) = 0 then (nI 0) else (nI 1)))) → okW D A s.heap H locs (wM cI cZ cJ h ad k_thrown k_s k_image k_hasImage k_steps k_read k_spot k_isWrong k_open k_act k_letBy k_letStamp k_stamp k_fallen k_held k_stands k_falling k_away k_round k_rests k_may k_next k_could k_couldNight k_night k_seats) → lv_has ls 5 [(0, .ref h), (1, .long p1), (4, .int v4_5)] → W p l e R s m args below meth c H locs 0 0 QQ (F0 m 43 ls [.int y0_43]) := by
        intro y0_43 H locs ls ey0_43 hO hl
        have hw := hw y0_43 ey0_43
        refine lv_istore_n (lv' := [(3, .int y0_43), (0, .ref h), (1, .long p1), (4, .int v4_5)]) hx hb dX12_areRulings_43 rfl hl (by decide) rfl (fun ls hl => ?_)
        refine lv_iinc (v := (v4_5 + (nI 1))) (lv' := [(4, .int (v4_5 + (nI 1))), (3, .int y0_43), (0, .ref h), (1, .long p1)]) hx hb dX12_areRulings_44 hl (k := 3) rfl (iinc_1 _) (by decide) rfl (fun ls hl => ?_)
        refine lv_goto (tgt := 5) hx hb dX12_areRulings_47 (by decide) ?_
        exact ih_5 y0_43 (v4_5 + (nI 1)) _ _ _ hO (lv_sub hl [2, 3, 1, 0] rfl) hw
      refine lv_if_eq (tgt := 42) hx hb dX12_areRulings_13 (by decide) (fun q_13 => ?_) (fun q_13 => ?_)
      · refine lv_iconst (v := (nI 0)) hx hb dX12_areRulings_42 (by decide) ?_
        have hl := lv_sub hl [0, 1, 3] rfl (l' := [(0, .ref h), (1, .long p1), (4, .int v4_5)])
        exact m_43 _ _ _ _ (by rw [if_pos q_13]) hO hl
      · have hs := hs q_13
        refine lv_lload_n hx hb dX12_areRulings_16 rfl (lv_at hl 1 rfl) ?_
        refine lv_iload hx hb dX12_areRulings_17 (lv_at hl 3 rfl) ?_
        refine lv_lshr hx hb dX12_areRulings_19 rfl ?_
        refine lv_lconst (v := (1)) hx hb dX12_areRulings_20 (by decide) ?_
        refine lv_land hx hb dX12_areRulings_21 ?_
        refine lv_lconst (v := (0)) hx hb dX12_areRulings_22 (by decide) ?_
        refine W.lcmp hx hb dX12_areRulings_23 ?_
        refine lv_if_eq (tgt := 38) hx hb dX12_areRulings_24 (by decide) (fun q_24 => ?_) (fun q_24 => ?_)
        · refine lv_iconst (v := (nI 1)) hx hb dX12_areRulings_38 (by decide) ?_
          refine lv_goto (tgt := 43) hx hb dX12_areRulings_39 (by decide) ?_
          have hl := lv_sub hl [0, 1, 3] rfl (l' := [(0, .ref h), (1, .long p1), (4, .int v4_5)])
          exact m_43 _ _ _ _ (by rw [if_neg q_13, if_pos q_24]) hO hl
        · have hs := hs q_24
          have o_32 := hs
          refine lv_aload_n hx hb dX12_areRulings_27 rfl (lv_at hl 0 rfl) ?_
          refine lv_iload hx hb dX12_areRulings_28 (lv_at hl 3 rfl) ?_
          refine lv_bipush (v := (nI 6)) hx hb dX12_areRulings_30 (by decide) ?_
          refine cVi0 (As := [.int v4_5, .int (nI 6)]) (rest := []) C hK hX hO (c_X12_isOf (l := l) o_32) (cwV 2 hts gd_X12_187 rfl rfl rfl hd_X12_isOf (rok hR (Nat.le_of_ble_eq_true rfl) (Nat.le_of_ble_eq_true rfl))) (ci := 12) (q0 := 0) rfl rfl rfl rfl hl.1 rfl (Nat.le_of_ble_eq_true rfl) dX12_areRulings_32 ⟨Nat.zero_le _, Nat.zero_le _⟩ (fun r_32 H locs e_32 hO => ?_)
          subst e_32
          refine lv_if_eq (tgt := 42) hx hb dX12_areRulings_35 (by decide) (fun q_35 => ?_) (fun q_35 => ?_)
          · refine lv_iconst (v := (nI 0)) hx hb dX12_areRulings_42 (by decide) ?_
            have hl := lv_sub hl [0, 1, 3] rfl (l' := [(0, .ref h), (1, .long p1), (4, .int v4_5)])
            exact m_43 _ _ _ _ (by rw [if_neg q_13, if_neg q_24, if_pos q_35]) hO hl
          · refine lv_iconst (v := (nI 1)) hx hb dX12_areRulings_38 (by decide) ?_
            refine lv_goto (tgt := 43) hx hb dX12_areRulings_39 (by decide) ?_
            have hl := lv_sub hl [0, 1, 3] rfl (l' := [(0, .ref h), (1, .long p1), (4, .int v4_5)])
            exact m_43 _ _ _ _ (by rw [if_neg q_13, if_neg q_24, if_neg q_35]) hO hl
  have l_5 : ∀ (n : Nat) (v3_5 : Int32) (v4_5 : Int32) (H : Heap) (locs : List Loc) (ls : Array Slot), okW D A s.heap H locs (wM cI cZ cJ h ad k_thrown k_s k_image k_hasImage k_steps k_read k_spot k_isWrong k_open k_act k_letBy k_letStamp k_stamp k_fallen k_held k_stands k_falling k_away k_round k_rests k_may k_next k_could k_couldNight k_night k_seats) → lv_has ls 5 [(0, .ref h), (1, .long p1), (3, .int v3_5), (4, .int v4_5)] → wl_X12_areRulings_5 p1 k_s Q n v3_5 v4_5 → W p l e R s m args below meth c H locs 0 0 QQ (F0 m 5 ls []) := by
    intro n
    induction n with
    | zero => intro v3_5 v4_5 H locs ls hO hl hw; exact False.elim hw
    | succ n ih => exact b_5 _ ih
  exact l_5 n_5 (nI 1) (nI 0) _ _ _ hO (lv_sub hl [2, 3, 1, 0] rfl) hw
theorem gd_X12_252 {a : Cond} : GoodIn (a :: wsG) (wsV RX12 252 RX12 yX12_areRulings (Cond.code yX12_areRulings cX12_areRulings 5 (some .boolean) :: wsG)) := gdV qw7_153 qw7_155 qs_70 qw1_12 qw7_156
theorem hd_X12_areRulings : yX12_areRulings.cls = RX12 ∧ yX12_areRulings.cls ≠ "java/lang/invoke/MethodHandle" ∧ yX12_areRulings.cls ≠ "java/lang/invoke/VarHandle" ∧ (parseMethodDescriptor yX12_areRulings.desc).map (fun d => d.parameters.length) = some 1 := by decide +kernel
def wb_X12_ask_89 (p3 : Int64) (p4 : Int64) (k_s : Nat → Int32) (Q : Int32 → (Nat → Int32) → Prop) (L_89 : Int32 → (Nat → Int32) → Prop) (v8_89 : Int32) (s_89 : Nat → Int32) : Prop := (((nI 50) ≤ v8_89 → (Q (k_s 8) (upd s_89 8 ((s_89 8) + (nI 1))))) ∧ (¬ (nI 50) ≤ v8_89 → (vp_in (((nI 572) + ((nI 50) * (k_s 8))) + v8_89) 6700 ∧ (vp_in (((nI 872) + ((nI 50) * (k_s 8))) + v8_89) 6700 ∧ (L_89 (v8_89 + (nI 1)) (upd (upd s_89 (((((nI 572) + ((nI 50) * (k_s 8))) + v8_89)).toNatClampNeg) ((((p3 >>> ((v8_89).toInt64 &&& 63)) &&& (1))).toInt32)) (((((nI 872) + ((nI 50) * (k_s 8))) + v8_89)).toNatClampNeg) ((((p4 >>> ((v8_89).toInt64 &&& 63)) &&& (1))).toInt32)))))))
def wl_X12_ask_89 (p3 : Int64) (p4 : Int64) (k_s : Nat → Int32) (Q : Int32 → (Nat → Int32) → Prop) : Nat → Int32 → (Nat → Int32) → Prop
  | 0, _, _ => False
  | n + 1, v8_89, s_89 => wb_X12_ask_89 p3 p4 k_s Q (wl_X12_ask_89 p3 p4 k_s Q n) v8_89 s_89
def wp_X12_ask (p1 : Int32) (p2 : Int32) (p3 : Int64) (p4 : Int64) (k_s : Nat → Int32) (Q : Int32 → (Nat → Int32) → Prop) : Prop := ((((f_X12_isSpot p1) = 0 ∨ (f_X12_in p2 (nI 0) (nI 4)) = 0) → (Q (-1) k_s)) ∧ (¬ (((f_X12_isSpot p1) = 0 ∨ (f_X12_in p2 (nI 0) (nI 4)) = 0)) → (wp_X12_areRulings p3 k_s (fun (r_20 : Int32) => ((r_20 = 0 → (Q (-2) k_s)) ∧ (¬ r_20 = 0 → (wp_X12_areRulings p4 k_s (fun (r_29 : Int32) => ((¬ r_29 = 0 → ((¬ (k_s 8) = (nI 6) → (vp_in ((nI 560) + (k_s 8)) 6700 ∧ (vp_in ((nI 566) + (k_s 8)) 6700 ∧ (∃ n, wl_X12_ask_89 p3 p4 k_s Q n (nI 0) (upd (upd k_s ((((nI 560) + (k_s 8))).toNatClampNeg) p1) ((((nI 566) + (k_s 8))).toNatClampNeg) p2))))) ∧ ((k_s 8) = (nI 6) → (Q (-4) k_s)))) ∧ (r_29 = 0 → (Q (-2) k_s)))))))))))
set_option maxHeartbeats 4000000 in
set_option maxRecDepth 100000 in
theorem c_X12_ask {l : Launch} {D : va_G} {cI cZ cJ : ClassId} {h : Nat} {ad : Nat → Nat} {sz : Nat} {k_thrown : Int32} {k_s : Nat → Int32} {k_image : Nat → Int32} {k_hasImage : Int32} {k_steps : Nat → Int32} {k_read : Int32} {k_spot : Int32} {k_isWrong : Int32} {k_open : Int32} {k_act : Int32} {k_letBy : Nat → Int32} {k_letStamp : Nat → Int32} {k_stamp : Int32} {k_fallen : Nat → Int32} {k_held : Nat → Int32} {k_stands : Nat → Int32} {k_falling : Nat → Int32} {k_away : Nat → Int32} {k_round : Nat → Int32} {k_rests : Nat → Int64} {k_may : Nat → Int32} {k_next : Nat → Int32} {k_could : Nat → Int32} {k_couldNight : Nat → Int32} {k_night : Int32} {k_seats : Nat → Int32} {p1 : Int32} {p2 : Int32} {p3 : Int64} {p4 : Int64} {Q : Int32 → (Nat → Int32) → Prop} (hw : wp_X12_ask p1 p2 p3 p4 k_s Q) : Met l yX12_ask (Cond.code yX12_ask cX12_ask 9 (some .int) :: wsG) ({ frames := 3, cells := 0, slots := 0, locals := 68 } : Room) (preW D (tyM cI cZ cJ) (wM cI cZ cJ h ad k_thrown k_s k_image k_hasImage k_steps k_read k_spot k_isWrong k_open k_act k_letBy k_letStamp k_stamp k_fallen k_held k_stands k_falling k_away k_round k_rests k_may k_next k_could k_couldNight k_night k_seats) sz [.ref h, .int p1, .int p2, .long p3, .long p4]) (qi1 D (tyM cI cZ cJ) (va_A (wM cI cZ cJ h ad k_thrown k_s k_image k_hasImage k_steps k_read k_spot k_isWrong k_open k_act k_letBy k_letStamp k_stamp k_fallen k_held k_stands k_falling k_away k_round k_rests k_may k_next k_could k_couldNight k_night k_seats) sz) Q (fun k_s' => (wM cI cZ cJ h ad k_thrown k_s' k_image k_hasImage k_steps k_read k_spot k_isWrong k_open k_act k_letBy k_letStamp k_stamp k_fallen k_held k_stands k_falling k_away k_round k_rests k_may k_next k_could k_couldNight k_night k_seats))) 0 0 (va_A (wM cI cZ cJ h ad k_thrown k_s k_image k_hasImage k_steps k_read k_spot k_isWrong k_open k_act k_letBy k_letStamp k_stamp k_fallen k_held k_stands k_falling k_away k_round k_rests k_may k_next k_could k_couldNight k_night k_seats) sz) := by
  refine st_met (cc := cX12_ask) (maxL := 9) (ret := (some .int)) (lv := [(0, .ref h), (1, .int p1), (2, .int p2), (3, .long p3), (5, .long p4)]) (Qc := fun A => qi1 D (tyM cI cZ cJ) A Q (fun k_s' => (wM cI cZ cJ h ad k_thrown k_s' k_image k_hasImage k_steps k_read k_spot k_isWrong k_open k_act k_letBy k_letStamp k_stamp k_fallen k_held k_stands k_falling k_away k_round k_rests k_may k_next k_could k_couldNight k_night k_seats))) (by decide) rfl (Nat.le_of_ble_eq_true rfl) rfl ?_
  intro p e s m below meth c ls A R args QQ H locs C hr hlk hnm hK hX hsz hl hO hR hQQ
  have hx := C.1
  have hb := C.2.1
  have hown := C.2.2.2.1
  have hts := C.2.2.2.2
  have hin : ∀ w ∈ u_ws RX12 TX12 26, w ∈ (Cond.code yX12_ask cX12_ask 9 (some .int) :: wsG) := fun w h9 => List.mem_cons_of_mem _ (inG12 w h9)
  have lk_s := hts (Cond.fieldLink RX12 7 "FreeCityModel" "s" "[I") (List.mem_cons_of_mem _ qw5_207)
  unfold wp_X12_ask at hw
  refine lv_iload_n hx hb dX12_ask_0 rfl (lv_at hl 1 rfl) ?_
  refine cSi0 (As := [.int p1]) (rest := []) C hK hX hO (c_X12_isSpot (l := l)) (va_cwS 1 hts gd_X12_78 rfl rfl rfl hd_X12_isSpot (rok hR (Nat.le_of_ble_eq_true rfl) (Nat.le_of_ble_eq_true rfl))) rfl hl.1 rfl (Nat.le_of_ble_eq_true rfl) dX12_ask_1 ⟨Nat.zero_le _, Nat.zero_le _⟩ (fun r_1 H locs e_1 hO => ?_)
  subst e_1
  have a_16 : ((f_X12_isSpot p1) = 0 ∨ (f_X12_in p2 (nI 0) (nI 4)) = 0) → ∀ (H : Heap) (locs : List Loc) (ls : Array Slot), okW D A s.heap H locs (wM cI cZ cJ h ad k_thrown k_s k_image k_hasImage k_steps k_read k_spot k_isWrong k_open k_act k_letBy k_letStamp k_stamp k_fallen k_held k_stands k_falling k_away k_round k_rests k_may k_next k_could k_couldNight k_night k_seats) → lv_has ls 9 [] → W p l e R s m args below meth c H locs 0 0 QQ (F0 m 16 ls []) := by
    intro cf H locs ls hO hl
    have hw := hw.1 cf
    refine lv_iconst (v := (-1)) hx hb dX12_ask_16 (by decide) ?_
    exact ri1 hQQ hx hb hr hlk hK hO hw dX12_ask_17
  have a_18 : ¬ (((f_X12_isSpot p1) = 0 ∨ (f_X12_in p2 (nI 0) (nI 4)) = 0)) → ∀ (H : Heap) (locs : List Loc) (ls : Array Slot), okW D A s.heap H locs (wM cI cZ cJ h ad k_thrown k_s k_image k_hasImage k_steps k_read k_spot k_isWrong k_open k_act k_letBy k_letStamp k_stamp k_fallen k_held k_stands k_falling k_away k_round k_rests k_may k_next k_could k_couldNight k_night k_seats) → lv_has ls 9 [(0, .ref h), (1, .int p1), (2, .int p2), (3, .long p3), (5, .long p4)] → W p l e R s m args below meth c H locs 0 0 QQ (F0 m 18 ls []) := by
    intro cf H locs ls hO hl
    have hw := hw.2 cf
    refine lv_aload_n hx hb dX12_ask_18 rfl (lv_at hl 0 rfl) ?_
    refine lv_lload_n hx hb dX12_ask_19 rfl (lv_at hl 3 rfl) ?_
    refine cVi0 (As := [.long p3]) (rest := []) C hK hX hO (c_X12_areRulings (l := l) hw) (cwV 1 hts gd_X12_252 rfl rfl rfl hd_X12_areRulings (rok hR (Nat.le_of_ble_eq_true rfl) (Nat.le_of_ble_eq_true rfl))) (ci := 12) (q0 := 0) rfl rfl rfl rfl hl.1 rfl (Nat.le_of_ble_eq_true rfl) dX12_ask_20 ⟨Nat.zero_le _, Nat.zero_le _⟩ (fun r_20 H locs hw hO => ?_)
    refine lv_if_eq (tgt := 35) hx hb dX12_ask_23 (by decide) (fun q_23 => ?_) (fun q_23 => ?_)
    · have hw := hw.1 q_23
      refine lv_bipush (v := (-2)) hx hb dX12_ask_35 (by decide) ?_
      exact ri1 hQQ hx hb hr hlk hK hO hw dX12_ask_37
    · have hw := hw.2 q_23
      refine lv_aload_n hx hb dX12_ask_26 rfl (lv_at hl 0 rfl) ?_
      refine lv_lload hx hb dX12_ask_27 (lv_at hl 4 rfl) ?_
      refine cVi0 (As := [.long p4]) (rest := []) C hK hX hO (c_X12_areRulings (l := l) hw) (cwV 1 hts gd_X12_252 rfl rfl rfl hd_X12_areRulings (rok hR (Nat.le_of_ble_eq_true rfl) (Nat.le_of_ble_eq_true rfl))) (ci := 12) (q0 := 0) rfl rfl rfl rfl hl.1 rfl (Nat.le_of_ble_eq_true rfl) dX12_ask_29 ⟨Nat.zero_le _, Nat.zero_le _⟩ (fun r_29 H locs hw hO => ?_)
      refine lv_if_ne (tgt := 38) hx hb dX12_ask_32 (by decide) (fun q_32 => ?_) (fun q_32 => ?_)
      · have hw := hw.1 q_32
        refine lv_aload_n hx hb dX12_ask_38 rfl (lv_at hl 0 rfl) ?_
        refine gM_s C hin hK lk_s hO dX12_ask_39 ?_
        refine lv_bipush (v := (nI 8)) hx hb dX12_ask_42 (by decide) ?_
        refine ldM_s C hK hO (inK 8 6700 (by decide) (by decide)) (clK 8 (by decide)) dX12_ask_44 ?_
        refine lv_bipush (v := (nI 6)) hx hb dX12_ask_45 (by decide) ?_
        refine lv_icmp_ne (tgt := 53) hx hb dX12_ask_47 (by decide) (fun q_47 => ?_) (fun q_47 => ?_)
        · have hw := hw.1 q_47
          refine lv_aload_n hx hb dX12_ask_53 rfl (lv_at hl 0 rfl) ?_
          refine gM_s C hin hK lk_s hO dX12_ask_54 ?_
          refine lv_bipush (v := (nI 8)) hx hb dX12_ask_57 (by decide) ?_
          refine ldM_s C hK hO (inK 8 6700 (by decide) (by decide)) (clK 8 (by decide)) dX12_ask_59 ?_
          refine lv_istore (lv' := [(7, .int (k_s 8)), (0, .ref h), (1, .int p1), (2, .int p2), (3, .long p3), (5, .long p4)]) hx hb dX12_ask_60 hl (by decide) rfl (fun ls hl => ?_)
          refine lv_aload_n hx hb dX12_ask_62 rfl (lv_at hl 1 rfl) ?_
          refine gM_s C hin hK lk_s hO dX12_ask_63 ?_
          refine lv_sipush (v := (nI 560)) hx hb dX12_ask_66 (by decide) ?_
          refine lv_iload hx hb dX12_ask_69 (lv_at hl 0 rfl) ?_
          refine lv_iadd hx hb dX12_ask_71 ?_
          refine lv_iload_n hx hb dX12_ask_72 rfl (lv_at hl 2 rfl) ?_
          obtain ⟨o_73, hw⟩ := hw
          refine stM_s C hK hO o_73 rfl dX12_ask_73 (fun H locs hO => ?_)
          refine lv_aload_n hx hb dX12_ask_74 rfl (lv_at hl 1 rfl) ?_
          refine gM_s C hin hK lk_s hO dX12_ask_75 ?_
          refine lv_sipush (v := (nI 566)) hx hb dX12_ask_78 (by decide) ?_
          refine lv_iload hx hb dX12_ask_81 (lv_at hl 0 rfl) ?_
          refine lv_iadd hx hb dX12_ask_83 ?_
          refine lv_iload_n hx hb dX12_ask_84 rfl (lv_at hl 3 rfl) ?_
          obtain ⟨o_85, hw⟩ := hw
          refine stM_s C hK hO o_85 rfl dX12_ask_85 (fun H locs hO => ?_)
          refine lv_iconst (v := (nI 0)) hx hb dX12_ask_86 (by decide) ?_
          refine lv_istore (lv' := [(8, .int (nI 0)), (7, .int (k_s 8)), (0, .ref h), (1, .int p1), (2, .int p2), (3, .long p3), (5, .long p4)]) hx hb dX12_ask_87 hl (by decide) rfl (fun ls hl => ?_)
          obtain ⟨n_89, hw⟩ := hw
          have b_89 : ∀ (L_89 : Int32 → (Nat → Int32) → Prop) (ih_89 : ∀ (v8_89 : Int32) (s_89 : Nat → Int32) (H : Heap) (locs : List Loc) (ls : Array Slot), okW D A s.heap H locs (wM cI cZ cJ h ad k_thrown s_89 k_image k_hasImage k_steps k_read k_spot k_isWrong k_open k_act k_letBy k_letStamp k_stamp k_fallen k_held k_stands k_falling k_away k_round k_rests k_may k_next k_could k_couldNight k_night k_seats) → lv_has ls 9 [(0, .ref h), (3, .long p3), (5, .long p4), (7, .int (k_s 8)), (8, .int v8_89)] → L_89 v8_89 s_89 → W p l e R s m args below meth c H locs 0 0 QQ (F0 m 89 ls [])) (v8_89 : Int32) (s_89 : Nat → Int32) (H : Heap) (locs : List Loc) (ls : Array Slot), okW D A s.heap H locs (wM cI cZ cJ h ad k_thrown s_89 k_image k_hasImage k_steps k_read k_spot k_isWrong k_open k_act k_letBy k_letStamp k_stamp k_fallen k_held k_stands k_falling k_away k_round k_rests k_may k_next k_could k_couldNight k_night k_seats) → lv_has ls 9 [(0, .ref h), (3, .long p3), (5, .long p4), (7, .int (k_s 8)), (8, .int v8_89)] → wb_X12_ask_89 p3 p4 k_s Q L_89 v8_89 s_89 → W p l e R s m args below meth c H locs 0 0 QQ (F0 m 89 ls []) := by
            intro L_89 ih_89 v8_89 s_89 H locs ls hO hl hw
            unfold wb_X12_ask_89 at hw
            refine lv_iload hx hb dX12_ask_89 (lv_at hl 4 rfl) ?_
            refine lv_bipush (v := (nI 50)) hx hb dX12_ask_91 (by decide) ?_
            refine lv_icmp_ge (tgt := 151) hx hb dX12_ask_93 (by decide) (fun q_93 => ?_) (fun q_93 => ?_)
            · have hw := hw.1 q_93
              refine lv_aload_n hx hb dX12_ask_151 rfl (lv_at hl 0 rfl) ?_
              refine gM_s C hin hK lk_s hO dX12_ask_152 ?_
              refine lv_bipush (v := (nI 8)) hx hb dX12_ask_155 (by decide) ?_
              refine lv_dup2_11 hx hb dX12_ask_157 rfl rfl ?_
              refine ldM_s C hK hO (inK 8 6700 (by decide) (by decide)) (clK 8 (by decide)) dX12_ask_158 ?_
              refine lv_iconst (v := (nI 1)) hx hb dX12_ask_159 (by decide) ?_
              refine lv_iadd hx hb dX12_ask_160 ?_
              refine stM_s C hK hO (inK 8 6700 (by decide) (by decide)) (clK 8 (by decide)) dX12_ask_161 (fun H locs hO => ?_)
              refine lv_iload hx hb dX12_ask_162 (lv_at hl 3 rfl) ?_
              exact ri1 hQQ hx hb hr hlk hK hO hw dX12_ask_164
            · have hw := hw.2 q_93
              refine lv_aload_n hx hb dX12_ask_96 rfl (lv_at hl 0 rfl) ?_
              refine gM_s C hin hK lk_s hO dX12_ask_97 ?_
              refine lv_sipush (v := (nI 572)) hx hb dX12_ask_100 (by decide) ?_
              refine lv_bipush (v := (nI 50)) hx hb dX12_ask_103 (by decide) ?_
              refine lv_iload hx hb dX12_ask_105 (lv_at hl 3 rfl) ?_
              refine lv_imul hx hb dX12_ask_107 ?_
              refine lv_iadd hx hb dX12_ask_108 ?_
              refine lv_iload hx hb dX12_ask_109 (lv_at hl 4 rfl) ?_
              refine lv_iadd hx hb dX12_ask_111 ?_
              refine lv_lload_n hx hb dX12_ask_112 rfl (lv_at hl 1 rfl) ?_
              refine lv_iload hx hb dX12_ask_113 (lv_at hl 4 rfl) ?_
              refine lv_lshr hx hb dX12_ask_115 rfl ?_
              refine lv_lconst (v := (1)) hx hb dX12_ask_116 (by decide) ?_
              refine lv_land hx hb dX12_ask_117 ?_
              refine lv_l2i hx hb dX12_ask_118 rfl ?_
              obtain ⟨o_119, hw⟩ := hw
              refine stM_s C hK hO o_119 rfl dX12_ask_119 (fun H locs hO => ?_)
              refine lv_aload_n hx hb dX12_ask_120 rfl (lv_at hl 0 rfl) ?_
              refine gM_s C hin hK lk_s hO dX12_ask_121 ?_
              refine lv_sipush (v := (nI 872)) hx hb dX12_ask_124 (by decide) ?_
              refine lv_bipush (v := (nI 50)) hx hb dX12_ask_127 (by decide) ?_
              refine lv_iload hx hb dX12_ask_129 (lv_at hl 3 rfl) ?_
              refine lv_imul hx hb dX12_ask_131 ?_
              refine lv_iadd hx hb dX12_ask_132 ?_
              refine lv_iload hx hb dX12_ask_133 (lv_at hl 4 rfl) ?_
              refine lv_iadd hx hb dX12_ask_135 ?_
              refine lv_lload hx hb dX12_ask_136 (lv_at hl 2 rfl) ?_
              refine lv_iload hx hb dX12_ask_138 (lv_at hl 4 rfl) ?_
              refine lv_lshr hx hb dX12_ask_140 rfl ?_
              refine lv_lconst (v := (1)) hx hb dX12_ask_141 (by decide) ?_
              refine lv_land hx hb dX12_ask_142 ?_
              refine lv_l2i hx hb dX12_ask_143 rfl ?_
              obtain ⟨o_144, hw⟩ := hw
              refine stM_s C hK hO o_144 rfl dX12_ask_144 (fun H locs hO => ?_)
              refine lv_iinc (v := (v8_89 + (nI 1))) (lv' := [(8, .int (v8_89 + (nI 1))), (0, .ref h), (3, .long p3), (5, .long p4), (7, .int (k_s 8))]) hx hb dX12_ask_145 hl (k := 4) rfl (iinc_1 _) (by decide) rfl (fun ls hl => ?_)
              refine lv_goto (tgt := 89) hx hb dX12_ask_148 (by decide) ?_
              exact ih_89 (v8_89 + (nI 1)) (upd (upd s_89 (((((nI 572) + ((nI 50) * (k_s 8))) + v8_89)).toNatClampNeg) ((((p3 >>> ((v8_89).toInt64 &&& 63)) &&& (1))).toInt32)) (((((nI 872) + ((nI 50) * (k_s 8))) + v8_89)).toNatClampNeg) ((((p4 >>> ((v8_89).toInt64 &&& 63)) &&& (1))).toInt32)) _ _ _ hO (lv_sub hl [1, 2, 3, 4, 0] rfl) hw
          have l_89 : ∀ (n : Nat) (v8_89 : Int32) (s_89 : Nat → Int32) (H : Heap) (locs : List Loc) (ls : Array Slot), okW D A s.heap H locs (wM cI cZ cJ h ad k_thrown s_89 k_image k_hasImage k_steps k_read k_spot k_isWrong k_open k_act k_letBy k_letStamp k_stamp k_fallen k_held k_stands k_falling k_away k_round k_rests k_may k_next k_could k_couldNight k_night k_seats) → lv_has ls 9 [(0, .ref h), (3, .long p3), (5, .long p4), (7, .int (k_s 8)), (8, .int v8_89)] → wl_X12_ask_89 p3 p4 k_s Q n v8_89 s_89 → W p l e R s m args below meth c H locs 0 0 QQ (F0 m 89 ls []) := by
            intro n
            induction n with
            | zero => intro v8_89 s_89 H locs ls hO hl hw; exact False.elim hw
            | succ n ih => exact b_89 _ ih
          exact l_89 n_89 (nI 0) (upd (upd k_s ((((nI 560) + (k_s 8))).toNatClampNeg) p1) ((((nI 566) + (k_s 8))).toNatClampNeg) p2) _ _ _ hO (lv_sub hl [2, 5, 6, 1, 0] rfl) hw
        · have hw := hw.2 q_47
          refine lv_bipush (v := (-4)) hx hb dX12_ask_50 (by decide) ?_
          exact ri1 hQQ hx hb hr hlk hK hO hw dX12_ask_52
      · have hw := hw.2 q_32
        refine lv_bipush (v := (-2)) hx hb dX12_ask_35 (by decide) ?_
        exact ri1 hQQ hx hb hr hlk hK hO hw dX12_ask_37
  refine lv_if_eq (tgt := 16) hx hb dX12_ask_4 (by decide) (fun q_4 => ?_) (fun q_4 => ?_)
  · have hl := lv_sub hl [] rfl (l' := [])
    exact a_16 (Or.inl q_4) _ _ _ hO hl
  · refine lv_iload_n hx hb dX12_ask_7 rfl (lv_at hl 2 rfl) ?_
    refine lv_iconst (v := (nI 0)) hx hb dX12_ask_8 (by decide) ?_
    refine lv_iconst (v := (nI 4)) hx hb dX12_ask_9 (by decide) ?_
    refine cSi0 (As := [.int p2, .int (nI 0), .int (nI 4)]) (rest := []) C hK hX hO (c_X12_in (l := l)) (va_cwS 3 hts gd_X12_74 rfl rfl rfl hd_X12_in (rok hR (Nat.le_of_ble_eq_true rfl) (Nat.le_of_ble_eq_true rfl))) rfl hl.1 rfl (Nat.le_of_ble_eq_true rfl) dX12_ask_10 ⟨Nat.zero_le _, Nat.zero_le _⟩ (fun r_10 H locs e_10 hO => ?_)
    subst e_10
    refine lv_if_ne (tgt := 18) hx hb dX12_ask_13 (by decide) (fun q_13 => ?_) (fun q_13 => ?_)
    · have hl := lv_sub hl [0, 1, 2, 3, 4] rfl (l' := [(0, .ref h), (1, .int p1), (2, .int p2), (3, .long p3), (5, .long p4)])
      exact a_18 (fun h => h.elim q_4 q_13) _ _ _ hO hl
    · have hl := lv_sub hl [] rfl (l' := [])
      exact a_16 (Or.inr q_13) _ _ _ hO hl
def wb_X12_want_16 (p1 : Int32) (k_s : Nat → Int32) (Q : Int32 → (Nat → Int32) → Prop) (L_16 : Int32 → Prop) (v2_16 : Int32) : Prop := (((k_s 9) ≤ v2_16 → ((¬ (k_s 9) = (nI 10) → (vp_in ((nI 1172) + (k_s 9)) 6700 ∧ (Q ((upd (upd k_s ((((nI 1172) + (k_s 9))).toNatClampNeg) p1) 9 (((upd k_s ((((nI 1172) + (k_s 9))).toNatClampNeg) p1) 9) + (nI 1))) 9) (upd (upd k_s ((((nI 1172) + (k_s 9))).toNatClampNeg) p1) 9 (((upd k_s ((((nI 1172) + (k_s 9))).toNatClampNeg) p1) 9) + (nI 1)))))) ∧ ((k_s 9) = (nI 10) → (Q (-4) k_s)))) ∧ (¬ (k_s 9) ≤ v2_16 → (vp_in ((nI 1172) + v2_16) 6700 ∧ ((¬ (k_s (((nI 1172) + v2_16)).toNatClampNeg) = p1 → (L_16 (v2_16 + (nI 1)))) ∧ ((k_s (((nI 1172) + v2_16)).toNatClampNeg) = p1 → (Q (-3) k_s))))))
def wl_X12_want_16 (p1 : Int32) (k_s : Nat → Int32) (Q : Int32 → (Nat → Int32) → Prop) : Nat → Int32 → Prop
  | 0, _ => False
  | n + 1, v2_16 => wb_X12_want_16 p1 k_s Q (wl_X12_want_16 p1 k_s Q n) v2_16
def wp_X12_want (p1 : Int32) (k_s : Nat → Int32) (Q : Int32 → (Nat → Int32) → Prop) : Prop := ((¬ (f_X12_in p1 (nI 0) (nI 10799)) = 0 → (∃ n, wl_X12_want_16 p1 k_s Q n (nI 0))) ∧ ((f_X12_in p1 (nI 0) (nI 10799)) = 0 → (Q (-2) k_s)))
set_option maxHeartbeats 4000000 in
set_option maxRecDepth 100000 in
theorem c_X12_want {l : Launch} {D : va_G} {cI cZ cJ : ClassId} {h : Nat} {ad : Nat → Nat} {sz : Nat} {k_thrown : Int32} {k_s : Nat → Int32} {k_image : Nat → Int32} {k_hasImage : Int32} {k_steps : Nat → Int32} {k_read : Int32} {k_spot : Int32} {k_isWrong : Int32} {k_open : Int32} {k_act : Int32} {k_letBy : Nat → Int32} {k_letStamp : Nat → Int32} {k_stamp : Int32} {k_fallen : Nat → Int32} {k_held : Nat → Int32} {k_stands : Nat → Int32} {k_falling : Nat → Int32} {k_away : Nat → Int32} {k_round : Nat → Int32} {k_rests : Nat → Int64} {k_may : Nat → Int32} {k_next : Nat → Int32} {k_could : Nat → Int32} {k_couldNight : Nat → Int32} {k_night : Int32} {k_seats : Nat → Int32} {p1 : Int32} {Q : Int32 → (Nat → Int32) → Prop} (hw : wp_X12_want p1 k_s Q) : Met l yX12_want (Cond.code yX12_want cX12_want 3 (some .int) :: wsG) ({ frames := 1, cells := 0, slots := 0, locals := 22 } : Room) (preW D (tyM cI cZ cJ) (wM cI cZ cJ h ad k_thrown k_s k_image k_hasImage k_steps k_read k_spot k_isWrong k_open k_act k_letBy k_letStamp k_stamp k_fallen k_held k_stands k_falling k_away k_round k_rests k_may k_next k_could k_couldNight k_night k_seats) sz [.ref h, .int p1]) (qi1 D (tyM cI cZ cJ) (va_A (wM cI cZ cJ h ad k_thrown k_s k_image k_hasImage k_steps k_read k_spot k_isWrong k_open k_act k_letBy k_letStamp k_stamp k_fallen k_held k_stands k_falling k_away k_round k_rests k_may k_next k_could k_couldNight k_night k_seats) sz) Q (fun k_s' => (wM cI cZ cJ h ad k_thrown k_s' k_image k_hasImage k_steps k_read k_spot k_isWrong k_open k_act k_letBy k_letStamp k_stamp k_fallen k_held k_stands k_falling k_away k_round k_rests k_may k_next k_could k_couldNight k_night k_seats))) 0 0 (va_A (wM cI cZ cJ h ad k_thrown k_s k_image k_hasImage k_steps k_read k_spot k_isWrong k_open k_act k_letBy k_letStamp k_stamp k_fallen k_held k_stands k_falling k_away k_round k_rests k_may k_next k_could k_couldNight k_night k_seats) sz) := by
  refine st_met (cc := cX12_want) (maxL := 3) (ret := (some .int)) (lv := [(0, .ref h), (1, .int p1)]) (Qc := fun A => qi1 D (tyM cI cZ cJ) A Q (fun k_s' => (wM cI cZ cJ h ad k_thrown k_s' k_image k_hasImage k_steps k_read k_spot k_isWrong k_open k_act k_letBy k_letStamp k_stamp k_fallen k_held k_stands k_falling k_away k_round k_rests k_may k_next k_could k_couldNight k_night k_seats))) (by decide) rfl (Nat.le_of_ble_eq_true rfl) rfl ?_
  intro p e s m below meth c ls A R args QQ H locs C hr hlk hnm hK hX hsz hl hO hR hQQ
  have hx := C.1
  have hb := C.2.1
  have hown := C.2.2.2.1
  have hts := C.2.2.2.2
  have hin : ∀ w ∈ u_ws RX12 TX12 26, w ∈ (Cond.code yX12_want cX12_want 3 (some .int) :: wsG) := fun w h9 => List.mem_cons_of_mem _ (inG12 w h9)
  have lk_s := hts (Cond.fieldLink RX12 7 "FreeCityModel" "s" "[I") (List.mem_cons_of_mem _ qw5_207)
  unfold wp_X12_want at hw
  refine lv_iload_n hx hb dX12_want_0 rfl (lv_at hl 1 rfl) ?_
  refine lv_iconst (v := (nI 0)) hx hb dX12_want_1 (by decide) ?_
  refine lv_sipush (v := (nI 10799)) hx hb dX12_want_2 (by decide) ?_
  refine cSi0 (As := [.int p1, .int (nI 0), .int (nI 10799)]) (rest := []) C hK hX hO (c_X12_in (l := l)) (va_cwS 3 hts gd_X12_74 rfl rfl rfl hd_X12_in (rok hR (Nat.le_of_ble_eq_true rfl) (Nat.le_of_ble_eq_true rfl))) rfl hl.1 rfl (Nat.le_of_ble_eq_true rfl) dX12_want_5 ⟨Nat.zero_le _, Nat.zero_le _⟩ (fun r_5 H locs e_5 hO => ?_)
  subst e_5
  refine lv_if_ne (tgt := 14) hx hb dX12_want_8 (by decide) (fun q_8 => ?_) (fun q_8 => ?_)
  · have hw := hw.1 q_8
    refine lv_iconst (v := (nI 0)) hx hb dX12_want_14 (by decide) ?_
    refine lv_istore_n (lv' := [(2, .int (nI 0)), (0, .ref h), (1, .int p1)]) hx hb dX12_want_15 rfl hl (by decide) rfl (fun ls hl => ?_)
    obtain ⟨n_16, hw⟩ := hw
    have b_16 : ∀ (L_16 : Int32 → Prop) (ih_16 : ∀ (v2_16 : Int32) (H : Heap) (locs : List Loc) (ls : Array Slot), okW D A s.heap H locs (wM cI cZ cJ h ad k_thrown k_s k_image k_hasImage k_steps k_read k_spot k_isWrong k_open k_act k_letBy k_letStamp k_stamp k_fallen k_held k_stands k_falling k_away k_round k_rests k_may k_next k_could k_couldNight k_night k_seats) → lv_has ls 3 [(0, .ref h), (1, .int p1), (2, .int v2_16)] → L_16 v2_16 → W p l e R s m args below meth c H locs 0 0 QQ (F0 m 16 ls [])) (v2_16 : Int32) (H : Heap) (locs : List Loc) (ls : Array Slot), okW D A s.heap H locs (wM cI cZ cJ h ad k_thrown k_s k_image k_hasImage k_steps k_read k_spot k_isWrong k_open k_act k_letBy k_letStamp k_stamp k_fallen k_held k_stands k_falling k_away k_round k_rests k_may k_next k_could k_couldNight k_night k_seats) → lv_has ls 3 [(0, .ref h), (1, .int p1), (2, .int v2_16)] → wb_X12_want_16 p1 k_s Q L_16 v2_16 → W p l e R s m args below meth c H locs 0 0 QQ (F0 m 16 ls []) := by
      intro L_16 ih_16 v2_16 H locs ls hO hl hw
      unfold wb_X12_want_16 at hw
      refine lv_iload_n hx hb dX12_want_16 rfl (lv_at hl 2 rfl) ?_
      refine lv_aload_n hx hb dX12_want_17 rfl (lv_at hl 0 rfl) ?_
      refine gM_s C hin hK lk_s hO dX12_want_18 ?_
      refine lv_bipush (v := (nI 9)) hx hb dX12_want_21 (by decide) ?_
      refine ldM_s C hK hO (inK 9 6700 (by decide) (by decide)) (clK 9 (by decide)) dX12_want_23 ?_
      refine lv_icmp_ge (tgt := 50) hx hb dX12_want_24 (by decide) (fun q_24 => ?_) (fun q_24 => ?_)
      · have hw := hw.1 q_24
        refine lv_aload_n hx hb dX12_want_50 rfl (lv_at hl 0 rfl) ?_
        refine gM_s C hin hK lk_s hO dX12_want_51 ?_
        refine lv_bipush (v := (nI 9)) hx hb dX12_want_54 (by decide) ?_
        refine ldM_s C hK hO (inK 9 6700 (by decide) (by decide)) (clK 9 (by decide)) dX12_want_56 ?_
        refine lv_bipush (v := (nI 10)) hx hb dX12_want_57 (by decide) ?_
        refine lv_icmp_ne (tgt := 65) hx hb dX12_want_59 (by decide) (fun q_59 => ?_) (fun q_59 => ?_)
        · have hw := hw.1 q_59
          refine lv_aload_n hx hb dX12_want_65 rfl (lv_at hl 0 rfl) ?_
          refine gM_s C hin hK lk_s hO dX12_want_66 ?_
          refine lv_sipush (v := (nI 1172)) hx hb dX12_want_69 (by decide) ?_
          refine lv_aload_n hx hb dX12_want_72 rfl (lv_at hl 0 rfl) ?_
          refine gM_s C hin hK lk_s hO dX12_want_73 ?_
          refine lv_bipush (v := (nI 9)) hx hb dX12_want_76 (by decide) ?_
          refine ldM_s C hK hO (inK 9 6700 (by decide) (by decide)) (clK 9 (by decide)) dX12_want_78 ?_
          refine lv_iadd hx hb dX12_want_79 ?_
          refine lv_iload_n hx hb dX12_want_80 rfl (lv_at hl 1 rfl) ?_
          obtain ⟨o_81, hw⟩ := hw
          refine stM_s C hK hO o_81 rfl dX12_want_81 (fun H locs hO => ?_)
          refine lv_aload_n hx hb dX12_want_82 rfl (lv_at hl 0 rfl) ?_
          refine gM_s C hin hK lk_s hO dX12_want_83 ?_
          refine lv_bipush (v := (nI 9)) hx hb dX12_want_86 (by decide) ?_
          refine lv_dup2_11 hx hb dX12_want_88 rfl rfl ?_
          refine ldM_s C hK hO (inK 9 6700 (by decide) (by decide)) (clK 9 (by decide)) dX12_want_89 ?_
          refine lv_iconst (v := (nI 1)) hx hb dX12_want_90 (by decide) ?_
          refine lv_iadd hx hb dX12_want_91 ?_
          refine stM_s C hK hO (inK 9 6700 (by decide) (by decide)) (clK 9 (by decide)) dX12_want_92 (fun H locs hO => ?_)
          refine lv_aload_n hx hb dX12_want_93 rfl (lv_at hl 0 rfl) ?_
          refine gM_s C hin hK lk_s hO dX12_want_94 ?_
          refine lv_bipush (v := (nI 9)) hx hb dX12_want_97 (by decide) ?_
          refine ldM_s C hK hO (inK 9 6700 (by decide) (by decide)) (clK 9 (by decide)) dX12_want_99 ?_
          exact ri1 hQQ hx hb hr hlk hK hO hw dX12_want_100
        · have hw := hw.2 q_59
          refine lv_bipush (v := (-4)) hx hb dX12_want_62 (by decide) ?_
          exact ri1 hQQ hx hb hr hlk hK hO hw dX12_want_64
      · have hw := hw.2 q_24
        refine lv_aload_n hx hb dX12_want_27 rfl (lv_at hl 0 rfl) ?_
        refine gM_s C hin hK lk_s hO dX12_want_28 ?_
        refine lv_sipush (v := (nI 1172)) hx hb dX12_want_31 (by decide) ?_
        refine lv_iload_n hx hb dX12_want_34 rfl (lv_at hl 2 rfl) ?_
        refine lv_iadd hx hb dX12_want_35 ?_
        obtain ⟨o_36, hw⟩ := hw
        refine ldM_s C hK hO o_36 rfl dX12_want_36 ?_
        refine lv_iload_n hx hb dX12_want_37 rfl (lv_at hl 1 rfl) ?_
        refine lv_icmp_ne (tgt := 44) hx hb dX12_want_38 (by decide) (fun q_38 => ?_) (fun q_38 => ?_)
        · have hw := hw.1 q_38
          refine lv_iinc (v := (v2_16 + (nI 1))) (lv' := [(2, .int (v2_16 + (nI 1))), (0, .ref h), (1, .int p1)]) hx hb dX12_want_44 hl (k := 2) rfl (iinc_1 _) (by decide) rfl (fun ls hl => ?_)
          refine lv_goto (tgt := 16) hx hb dX12_want_47 (by decide) ?_
          exact ih_16 (v2_16 + (nI 1)) _ _ _ hO (lv_sub hl [1, 2, 0] rfl) hw
        · have hw := hw.2 q_38
          refine lv_bipush (v := (-3)) hx hb dX12_want_41 (by decide) ?_
          exact ri1 hQQ hx hb hr hlk hK hO hw dX12_want_43
    have l_16 : ∀ (n : Nat) (v2_16 : Int32) (H : Heap) (locs : List Loc) (ls : Array Slot), okW D A s.heap H locs (wM cI cZ cJ h ad k_thrown k_s k_image k_hasImage k_steps k_read k_spot k_isWrong k_open k_act k_letBy k_letStamp k_stamp k_fallen k_held k_stands k_falling k_away k_round k_rests k_may k_next k_could k_couldNight k_night k_seats) → lv_has ls 3 [(0, .ref h), (1, .int p1), (2, .int v2_16)] → wl_X12_want_16 p1 k_s Q n v2_16 → W p l e R s m args below meth c H locs 0 0 QQ (F0 m 16 ls []) := by
      intro n
      induction n with
      | zero => intro v2_16 H locs ls hO hl hw; exact False.elim hw
      | succ n ih => exact b_16 _ ih
    exact l_16 n_16 (nI 0) _ _ _ hO (lv_sub hl [1, 2, 0] rfl) hw
  · have hw := hw.2 q_8
    refine lv_bipush (v := (-2)) hx hb dX12_want_11 (by decide) ?_
    exact ri1 hQQ hx hb hr hlk hK hO hw dX12_want_13
def wb_X12_questionOf_4 (p1 : Int32) (k_s : Nat → Int32) (Q : Int32 → Prop) (L_4 : Int32 → Int32 → Prop) (v2_4 : Int32) (v3_4 : Int32) : Prop := (((k_s 8) ≤ v3_4 → (Q v2_4)) ∧ (¬ (k_s 8) ≤ v3_4 → (vp_in ((nI 560) + v3_4) 6700 ∧ ((((k_s (((nI 560) + v3_4)).toNatClampNeg) = (f_X12_spotOf p1) → (vp_in ((nI 566) + v3_4) 6700))) ∧ (∀ y0_54 : Int32, y0_54 = (if (k_s (((nI 560) + v3_4)).toNatClampNeg) = (f_X12_spotOf p1) then (if (k_s (((nI 566) + v3_4)).toNatClampNeg) = (f_X12_matterOf p1) then v3_4 else v2_4) else v2_4) → (L_4 y0_54 (v3_4 + (nI 1))))))))
def wl_X12_questionOf_4 (p1 : Int32) (k_s : Nat → Int32) (Q : Int32 → Prop) : Nat → Int32 → Int32 → Prop
  | 0, _, _ => False
  | n + 1, v2_4, v3_4 => wb_X12_questionOf_4 p1 k_s Q (wl_X12_questionOf_4 p1 k_s Q n) v2_4 v3_4
def wp_X12_questionOf (p1 : Int32) (k_s : Nat → Int32) (Q : Int32 → Prop) : Prop := (∃ n, wl_X12_questionOf_4 p1 k_s Q n (-1) (nI 0))
set_option maxHeartbeats 4000000 in
set_option maxRecDepth 100000 in
theorem c_X12_questionOf {l : Launch} {D : va_G} {cI cZ cJ : ClassId} {h : Nat} {ad : Nat → Nat} {sz : Nat} {k_thrown : Int32} {k_s : Nat → Int32} {k_image : Nat → Int32} {k_hasImage : Int32} {k_steps : Nat → Int32} {k_read : Int32} {k_spot : Int32} {k_isWrong : Int32} {k_open : Int32} {k_act : Int32} {k_letBy : Nat → Int32} {k_letStamp : Nat → Int32} {k_stamp : Int32} {k_fallen : Nat → Int32} {k_held : Nat → Int32} {k_stands : Nat → Int32} {k_falling : Nat → Int32} {k_away : Nat → Int32} {k_round : Nat → Int32} {k_rests : Nat → Int64} {k_may : Nat → Int32} {k_next : Nat → Int32} {k_could : Nat → Int32} {k_couldNight : Nat → Int32} {k_night : Int32} {k_seats : Nat → Int32} {p1 : Int32} {Q : Int32 → Prop} (hw : wp_X12_questionOf p1 k_s Q) : Met l yX12_questionOf (Cond.code yX12_questionOf cX12_questionOf 4 (some .int) :: wsG) ({ frames := 1, cells := 0, slots := 0, locals := 20 } : Room) (preW D (tyM cI cZ cJ) (wM cI cZ cJ h ad k_thrown k_s k_image k_hasImage k_steps k_read k_spot k_isWrong k_open k_act k_letBy k_letStamp k_stamp k_fallen k_held k_stands k_falling k_away k_round k_rests k_may k_next k_could k_couldNight k_night k_seats) sz [.ref h, .int p1]) (qi0 D (tyM cI cZ cJ) (va_A (wM cI cZ cJ h ad k_thrown k_s k_image k_hasImage k_steps k_read k_spot k_isWrong k_open k_act k_letBy k_letStamp k_stamp k_fallen k_held k_stands k_falling k_away k_round k_rests k_may k_next k_could k_couldNight k_night k_seats) sz) Q (wM cI cZ cJ h ad k_thrown k_s k_image k_hasImage k_steps k_read k_spot k_isWrong k_open k_act k_letBy k_letStamp k_stamp k_fallen k_held k_stands k_falling k_away k_round k_rests k_may k_next k_could k_couldNight k_night k_seats)) 0 0 (va_A (wM cI cZ cJ h ad k_thrown k_s k_image k_hasImage k_steps k_read k_spot k_isWrong k_open k_act k_letBy k_letStamp k_stamp k_fallen k_held k_stands k_falling k_away k_round k_rests k_may k_next k_could k_couldNight k_night k_seats) sz) := by
  refine st_met (cc := cX12_questionOf) (maxL := 4) (ret := (some .int)) (lv := [(0, .ref h), (1, .int p1)]) (Qc := fun A => qi0 D (tyM cI cZ cJ) A Q (wM cI cZ cJ h ad k_thrown k_s k_image k_hasImage k_steps k_read k_spot k_isWrong k_open k_act k_letBy k_letStamp k_stamp k_fallen k_held k_stands k_falling k_away k_round k_rests k_may k_next k_could k_couldNight k_night k_seats)) (by decide) rfl (Nat.le_of_ble_eq_true rfl) rfl ?_
  intro p e s m below meth c ls A R args QQ H locs C hr hlk hnm hK hX hsz hl hO hR hQQ
  have hx := C.1
  have hb := C.2.1
  have hown := C.2.2.2.1
  have hts := C.2.2.2.2
  have hin : ∀ w ∈ u_ws RX12 TX12 26, w ∈ (Cond.code yX12_questionOf cX12_questionOf 4 (some .int) :: wsG) := fun w h9 => List.mem_cons_of_mem _ (inG12 w h9)
  have lk_s := hts (Cond.fieldLink RX12 7 "FreeCityModel" "s" "[I") (List.mem_cons_of_mem _ qw5_207)
  unfold wp_X12_questionOf at hw
  refine lv_iconst (v := (-1)) hx hb dX12_questionOf_0 (by decide) ?_
  refine lv_istore_n (lv' := [(2, .int (-1)), (0, .ref h), (1, .int p1)]) hx hb dX12_questionOf_1 rfl hl (by decide) rfl (fun ls hl => ?_)
  refine lv_iconst (v := (nI 0)) hx hb dX12_questionOf_2 (by decide) ?_
  refine lv_istore_n (lv' := [(3, .int (nI 0)), (2, .int (-1)), (0, .ref h), (1, .int p1)]) hx hb dX12_questionOf_3 rfl hl (by decide) rfl (fun ls hl => ?_)
  obtain ⟨n_4, hw⟩ := hw
  have b_4 : ∀ (L_4 : Int32 → Int32 → Prop) (ih_4 : ∀ (v2_4 : Int32) (v3_4 : Int32) (H : Heap) (locs : List Loc) (ls : Array Slot), okW D A s.heap H locs (wM cI cZ cJ h ad k_thrown k_s k_image k_hasImage k_steps k_read k_spot k_isWrong k_open k_act k_letBy k_letStamp k_stamp k_fallen k_held k_stands k_falling k_away k_round k_rests k_may k_next k_could k_couldNight k_night k_seats) → lv_has ls 4 [(0, .ref h), (1, .int p1), (2, .int v2_4), (3, .int v3_4)] → L_4 v2_4 v3_4 → W p l e R s m args below meth c H locs 0 0 QQ (F0 m 4 ls [])) (v2_4 : Int32) (v3_4 : Int32) (H : Heap) (locs : List Loc) (ls : Array Slot), okW D A s.heap H locs (wM cI cZ cJ h ad k_thrown k_s k_image k_hasImage k_steps k_read k_spot k_isWrong k_open k_act k_letBy k_letStamp k_stamp k_fallen k_held k_stands k_falling k_away k_round k_rests k_may k_next k_could k_couldNight k_night k_seats) → lv_has ls 4 [(0, .ref h), (1, .int p1), (2, .int v2_4), (3, .int v3_4)] → wb_X12_questionOf_4 p1 k_s Q L_4 v2_4 v3_4 → W p l e R s m args below meth c H locs 0 0 QQ (F0 m 4 ls []) := by
    intro L_4 ih_4 v2_4 v3_4 H locs ls hO hl hw
    unfold wb_X12_questionOf_4 at hw
    refine lv_iload_n hx hb dX12_questionOf_4 rfl (lv_at hl 3 rfl) ?_
    refine lv_aload_n hx hb dX12_questionOf_5 rfl (lv_at hl 0 rfl) ?_
    refine gM_s C hin hK lk_s hO dX12_questionOf_6 ?_
    refine lv_bipush (v := (nI 8)) hx hb dX12_questionOf_9 (by decide) ?_
    refine ldM_s C hK hO (inK 8 6700 (by decide) (by decide)) (clK 8 (by decide)) dX12_questionOf_11 ?_
    refine lv_icmp_ge (tgt := 61) hx hb dX12_questionOf_12 (by decide) (fun q_12 => ?_) (fun q_12 => ?_)
    · have hw := hw.1 q_12
      refine lv_iload_n hx hb dX12_questionOf_61 rfl (lv_at hl 2 rfl) ?_
      exact ri0 hQQ hx hb hr hlk hK hO hw dX12_questionOf_62
    · have hw := hw.2 q_12
      refine lv_aload_n hx hb dX12_questionOf_15 rfl (lv_at hl 0 rfl) ?_
      refine gM_s C hin hK lk_s hO dX12_questionOf_16 ?_
      refine lv_sipush (v := (nI 560)) hx hb dX12_questionOf_19 (by decide) ?_
      refine lv_iload_n hx hb dX12_questionOf_22 rfl (lv_at hl 3 rfl) ?_
      refine lv_iadd hx hb dX12_questionOf_23 ?_
      obtain ⟨o_24, hw⟩ := hw
      refine ldM_s C hK hO o_24 rfl dX12_questionOf_24 ?_
      refine lv_iload_n hx hb dX12_questionOf_25 rfl (lv_at hl 1 rfl) ?_
      refine cSi0 (As := [.int p1]) (rest := [.int (k_s (((nI 560) + v3_4)).toNatClampNeg)]) C hK hX hO (c_X12_spotOf (l := l)) (va_cwS 1 hts gd_X12_136 rfl rfl rfl hd_X12_spotOf (rok hR (Nat.le_of_ble_eq_true rfl) (Nat.le_of_ble_eq_true rfl))) rfl hl.1 rfl (Nat.le_of_ble_eq_true rfl) dX12_questionOf_26 ⟨Nat.zero_le _, Nat.zero_le _⟩ (fun r_26 H locs e_26 hO => ?_)
      subst e_26
      obtain ⟨hs, hw⟩ := hw
      have m_54 : ∀ (y0_54 : Int32) (H : Heap) (locs : List Loc) (ls : Array Slot), y0_54 = (if (k_s (((nI 560) + v3_4)).toNatClampNeg) = (f_X12_spotOf p1) then (if (k_s (((nI 566) + v3_4)).toNatClampNeg) = (f_X12_matterOf p1) then v3_4 else v2_4) else v2_4) → okW D A s.heap H locs (wM cI cZ cJ h ad k_thrown k_s k_image k_hasImage k_steps k_read k_spot k_isWrong k_open k_act k_letBy k_letStamp k_stamp k_fallen k_held k_stands k_falling k_away k_round k_rests k_may k_next k_could k_couldNight k_night k_seats) → lv_has ls 4 [(0, .ref h), (1, .int p1), (3, .int v3_4)] → W p l e R s m args below meth c H locs 0 0 QQ (F0 m 54 ls [.int y0_54]) := by
        intro y0_54 H locs ls ey0_54 hO hl
        have hw := hw y0_54 ey0_54
        refine lv_istore_n (lv' := [(2, .int y0_54), (0, .ref h), (1, .int p1), (3, .int v3_4)]) hx hb dX12_questionOf_54 rfl hl (by decide) rfl (fun ls hl => ?_)
        refine lv_iinc (v := (v3_4 + (nI 1))) (lv' := [(3, .int (v3_4 + (nI 1))), (2, .int y0_54), (0, .ref h), (1, .int p1)]) hx hb dX12_questionOf_55 hl (k := 3) rfl (iinc_1 _) (by decide) rfl (fun ls hl => ?_)
        refine lv_goto (tgt := 4) hx hb dX12_questionOf_58 (by decide) ?_
        exact ih_4 y0_54 (v3_4 + (nI 1)) _ _ _ hO (lv_sub hl [2, 3, 1, 0] rfl) hw
      refine lv_icmp_ne (tgt := 53) hx hb dX12_questionOf_29 (by decide) (fun q_29 => ?_) (fun q_29 => ?_)
      · refine lv_iload_n hx hb dX12_questionOf_53 rfl (lv_at hl 2 rfl) ?_
        have hl := lv_sub hl [0, 1, 3] rfl (l' := [(0, .ref h), (1, .int p1), (3, .int v3_4)])
        exact m_54 _ _ _ _ (by rw [if_neg q_29]) hO hl
      · have hs := hs q_29
        have o_41 := hs
        refine lv_aload_n hx hb dX12_questionOf_32 rfl (lv_at hl 0 rfl) ?_
        refine gM_s C hin hK lk_s hO dX12_questionOf_33 ?_
        refine lv_sipush (v := (nI 566)) hx hb dX12_questionOf_36 (by decide) ?_
        refine lv_iload_n hx hb dX12_questionOf_39 rfl (lv_at hl 3 rfl) ?_
        refine lv_iadd hx hb dX12_questionOf_40 ?_
        refine ldM_s C hK hO o_41 rfl dX12_questionOf_41 ?_
        refine lv_iload_n hx hb dX12_questionOf_42 rfl (lv_at hl 1 rfl) ?_
        refine cSi0 (As := [.int p1]) (rest := [.int (k_s (((nI 566) + v3_4)).toNatClampNeg)]) C hK hX hO (c_X12_matterOf (l := l)) (va_cwS 1 hts gd_X12_139 rfl rfl rfl hd_X12_matterOf (rok hR (Nat.le_of_ble_eq_true rfl) (Nat.le_of_ble_eq_true rfl))) rfl hl.1 rfl (Nat.le_of_ble_eq_true rfl) dX12_questionOf_43 ⟨Nat.zero_le _, Nat.zero_le _⟩ (fun r_43 H locs e_43 hO => ?_)
        subst e_43
        refine lv_icmp_ne (tgt := 53) hx hb dX12_questionOf_46 (by decide) (fun q_46 => ?_) (fun q_46 => ?_)
        · refine lv_iload_n hx hb dX12_questionOf_53 rfl (lv_at hl 2 rfl) ?_
          have hl := lv_sub hl [0, 1, 3] rfl (l' := [(0, .ref h), (1, .int p1), (3, .int v3_4)])
          exact m_54 _ _ _ _ (by rw [if_pos q_29, if_neg q_46]) hO hl
        · refine lv_iload_n hx hb dX12_questionOf_49 rfl (lv_at hl 3 rfl) ?_
          refine lv_goto (tgt := 54) hx hb dX12_questionOf_50 (by decide) ?_
          have hl := lv_sub hl [0, 1, 3] rfl (l' := [(0, .ref h), (1, .int p1), (3, .int v3_4)])
          exact m_54 _ _ _ _ (by rw [if_pos q_29, if_pos q_46]) hO hl
  have l_4 : ∀ (n : Nat) (v2_4 : Int32) (v3_4 : Int32) (H : Heap) (locs : List Loc) (ls : Array Slot), okW D A s.heap H locs (wM cI cZ cJ h ad k_thrown k_s k_image k_hasImage k_steps k_read k_spot k_isWrong k_open k_act k_letBy k_letStamp k_stamp k_fallen k_held k_stands k_falling k_away k_round k_rests k_may k_next k_could k_couldNight k_night k_seats) → lv_has ls 4 [(0, .ref h), (1, .int p1), (2, .int v2_4), (3, .int v3_4)] → wl_X12_questionOf_4 p1 k_s Q n v2_4 v3_4 → W p l e R s m args below meth c H locs 0 0 QQ (F0 m 4 ls []) := by
    intro n
    induction n with
    | zero => intro v2_4 v3_4 H locs ls hO hl hw; exact False.elim hw
    | succ n ih => exact b_4 _ ih
  exact l_4 n_4 (-1) (nI 0) _ _ _ hO (lv_sub hl [2, 3, 1, 0] rfl) hw
theorem gd_X12_256 {a : Cond} : GoodIn (a :: wsG) (wsV RX12 256 RX12 yX12_questionOf (Cond.code yX12_questionOf cX12_questionOf 4 (some .int) :: wsG)) := gdV qw7_169 qw7_171 qs_72 qw1_12 qw7_172
theorem hd_X12_questionOf : yX12_questionOf.cls = RX12 ∧ yX12_questionOf.cls ≠ "java/lang/invoke/MethodHandle" ∧ yX12_questionOf.cls ≠ "java/lang/invoke/VarHandle" ∧ (parseMethodDescriptor yX12_questionOf.desc).map (fun d => d.parameters.length) = some 1 := by decide +kernel
def wk_X12_metBy_75 (v2_4 : Int32) (v3_4 : Int32) (L_4 : Int32 → Int32 → Int32 → Int32 → Int32 → Int32 → Int32 → (Nat → Int32) → (Nat → Int32) → Prop) (read_75 : Int32) (spot_75 : Int32) (isWrong_75 : Int32) (open_75 : Int32) (act_75 : Int32) (letBy_75 : Nat → Int32) (letStamp_75 : Nat → Int32) (t0_75 : Int32) : Prop := (∀ y1_88 : Int32, y1_88 = (if t0_75 = 0 then (nI 0) else (nI 1)) → (L_4 (v2_4 + y1_88) (v3_4 + (nI 1)) read_75 spot_75 isWrong_75 open_75 act_75 letBy_75 letStamp_75))
def wb_X12_metBy_4 (p1 : Int32) (k_s : Nat → Int32) (k_stamp : Int32) (k_stands : Nat → Int32) (Q : Int32 → (Int32) → (Int32) → (Int32) → (Int32) → (Int32) → (Nat → Int32) → (Nat → Int32) → Prop) (L_4 : Int32 → Int32 → Int32 → Int32 → Int32 → Int32 → Int32 → (Nat → Int32) → (Nat → Int32) → Prop) (v2_4 : Int32) (v3_4 : Int32) (read_4 : Int32) (spot_4 : Int32) (isWrong_4 : Int32) (open_4 : Int32) (act_4 : Int32) (letBy_4 : Nat → Int32) (letStamp_4 : Nat → Int32) : Prop := (((k_s 9) ≤ v3_4 → (Q v2_4 read_4 spot_4 isWrong_4 open_4 act_4 letBy_4 letStamp_4)) ∧ (¬ (k_s 9) ≤ v3_4 → (vp_in ((nI 1172) + v3_4) 6700 ∧ (wp_X12_questionOf (k_s (((nI 1172) + v3_4)).toNatClampNeg) k_s (fun (r_26 : Int32) => ((r_26 = (-1) → (vp_in ((nI 1172) + v3_4) 6700 ∧ (wp_X12_lets (k_s (((nI 1172) + v3_4)).toNatClampNeg) (k_s 0) k_s read_4 spot_4 isWrong_4 open_4 act_4 letBy_4 letStamp_4 k_stamp k_stands (fun (r_72 : Int32) (read_72 : Int32) (spot_72 : Int32) (isWrong_72 : Int32) (open_72 : Int32) (act_72 : Int32) (letBy_72 : Nat → Int32) (letStamp_72 : Nat → Int32) => (wk_X12_metBy_75 v2_4 v3_4 L_4 read_72 spot_72 isWrong_72 open_72 act_72 letBy_72 letStamp_72 r_72))))) ∧ (¬ r_26 = (-1) → (∀ y0_75 : Int32, y0_75 = (if ((p1 >>> (r_26 &&& 31)) &&& (nI 1)) = (nI 1) then (nI 1) else (nI 0)) → (wk_X12_metBy_75 v2_4 v3_4 L_4 read_4 spot_4 isWrong_4 open_4 act_4 letBy_4 letStamp_4 y0_75)))))))))
def wl_X12_metBy_4 (p1 : Int32) (k_s : Nat → Int32) (k_stamp : Int32) (k_stands : Nat → Int32) (Q : Int32 → (Int32) → (Int32) → (Int32) → (Int32) → (Int32) → (Nat → Int32) → (Nat → Int32) → Prop) : Nat → Int32 → Int32 → Int32 → Int32 → Int32 → Int32 → Int32 → (Nat → Int32) → (Nat → Int32) → Prop
  | 0, _, _, _, _, _, _, _, _, _ => False
  | n + 1, v2_4, v3_4, read_4, spot_4, isWrong_4, open_4, act_4, letBy_4, letStamp_4 => wb_X12_metBy_4 p1 k_s k_stamp k_stands Q (wl_X12_metBy_4 p1 k_s k_stamp k_stands Q n) v2_4 v3_4 read_4 spot_4 isWrong_4 open_4 act_4 letBy_4 letStamp_4
def wp_X12_metBy (p1 : Int32) (k_s : Nat → Int32) (k_read : Int32) (k_spot : Int32) (k_isWrong : Int32) (k_open : Int32) (k_act : Int32) (k_letBy : Nat → Int32) (k_letStamp : Nat → Int32) (k_stamp : Int32) (k_stands : Nat → Int32) (Q : Int32 → (Int32) → (Int32) → (Int32) → (Int32) → (Int32) → (Nat → Int32) → (Nat → Int32) → Prop) : Prop := (∃ n, wl_X12_metBy_4 p1 k_s k_stamp k_stands Q n (nI 0) (nI 0) k_read k_spot k_isWrong k_open k_act k_letBy k_letStamp)
set_option maxHeartbeats 4000000 in
set_option maxRecDepth 100000 in
theorem c_X12_metBy {l : Launch} {D : va_G} {cI cZ cJ : ClassId} {h : Nat} {ad : Nat → Nat} {sz : Nat} {k_thrown : Int32} {k_s : Nat → Int32} {k_image : Nat → Int32} {k_hasImage : Int32} {k_steps : Nat → Int32} {k_read : Int32} {k_spot : Int32} {k_isWrong : Int32} {k_open : Int32} {k_act : Int32} {k_letBy : Nat → Int32} {k_letStamp : Nat → Int32} {k_stamp : Int32} {k_fallen : Nat → Int32} {k_held : Nat → Int32} {k_stands : Nat → Int32} {k_falling : Nat → Int32} {k_away : Nat → Int32} {k_round : Nat → Int32} {k_rests : Nat → Int64} {k_may : Nat → Int32} {k_next : Nat → Int32} {k_could : Nat → Int32} {k_couldNight : Nat → Int32} {k_night : Int32} {k_seats : Nat → Int32} {p1 : Int32} {Q : Int32 → (Int32) → (Int32) → (Int32) → (Int32) → (Int32) → (Nat → Int32) → (Nat → Int32) → Prop} (hw : wp_X12_metBy p1 k_s k_read k_spot k_isWrong k_open k_act k_letBy k_letStamp k_stamp k_stands Q) : Met l yX12_metBy (Cond.code yX12_metBy cX12_metBy 6 (some .int) :: wsG) ({ frames := 35, cells := 0, slots := 0, locals := 799 } : Room) (preW D (tyM cI cZ cJ) (wM cI cZ cJ h ad k_thrown k_s k_image k_hasImage k_steps k_read k_spot k_isWrong k_open k_act k_letBy k_letStamp k_stamp k_fallen k_held k_stands k_falling k_away k_round k_rests k_may k_next k_could k_couldNight k_night k_seats) sz [.ref h, .int p1]) (qi7 D (tyM cI cZ cJ) (va_A (wM cI cZ cJ h ad k_thrown k_s k_image k_hasImage k_steps k_read k_spot k_isWrong k_open k_act k_letBy k_letStamp k_stamp k_fallen k_held k_stands k_falling k_away k_round k_rests k_may k_next k_could k_couldNight k_night k_seats) sz) Q (fun k_read' k_spot' k_isWrong' k_open' k_act' k_letBy' k_letStamp' => (wM cI cZ cJ h ad k_thrown k_s k_image k_hasImage k_steps k_read' k_spot' k_isWrong' k_open' k_act' k_letBy' k_letStamp' k_stamp k_fallen k_held k_stands k_falling k_away k_round k_rests k_may k_next k_could k_couldNight k_night k_seats))) 0 0 (va_A (wM cI cZ cJ h ad k_thrown k_s k_image k_hasImage k_steps k_read k_spot k_isWrong k_open k_act k_letBy k_letStamp k_stamp k_fallen k_held k_stands k_falling k_away k_round k_rests k_may k_next k_could k_couldNight k_night k_seats) sz) := by
  refine st_met (cc := cX12_metBy) (maxL := 6) (ret := (some .int)) (lv := [(0, .ref h), (1, .int p1)]) (Qc := fun A => qi7 D (tyM cI cZ cJ) A Q (fun k_read' k_spot' k_isWrong' k_open' k_act' k_letBy' k_letStamp' => (wM cI cZ cJ h ad k_thrown k_s k_image k_hasImage k_steps k_read' k_spot' k_isWrong' k_open' k_act' k_letBy' k_letStamp' k_stamp k_fallen k_held k_stands k_falling k_away k_round k_rests k_may k_next k_could k_couldNight k_night k_seats))) (by decide) rfl (Nat.le_of_ble_eq_true rfl) rfl ?_
  intro p e s m below meth c ls A R args QQ H locs C hr hlk hnm hK hX hsz hl hO hR hQQ
  have hx := C.1
  have hb := C.2.1
  have hown := C.2.2.2.1
  have hts := C.2.2.2.2
  have hin : ∀ w ∈ u_ws RX12 TX12 26, w ∈ (Cond.code yX12_metBy cX12_metBy 6 (some .int) :: wsG) := fun w h9 => List.mem_cons_of_mem _ (inG12 w h9)
  have lk_s := hts (Cond.fieldLink RX12 7 "FreeCityModel" "s" "[I") (List.mem_cons_of_mem _ qw5_207)
  unfold wp_X12_metBy at hw
  refine lv_iconst (v := (nI 0)) hx hb dX12_metBy_0 (by decide) ?_
  refine lv_istore_n (lv' := [(2, .int (nI 0)), (0, .ref h), (1, .int p1)]) hx hb dX12_metBy_1 rfl hl (by decide) rfl (fun ls hl => ?_)
  refine lv_iconst (v := (nI 0)) hx hb dX12_metBy_2 (by decide) ?_
  refine lv_istore_n (lv' := [(3, .int (nI 0)), (2, .int (nI 0)), (0, .ref h), (1, .int p1)]) hx hb dX12_metBy_3 rfl hl (by decide) rfl (fun ls hl => ?_)
  obtain ⟨n_4, hw⟩ := hw
  have b_4 : ∀ (L_4 : Int32 → Int32 → Int32 → Int32 → Int32 → Int32 → Int32 → (Nat → Int32) → (Nat → Int32) → Prop) (ih_4 : ∀ (v2_4 : Int32) (v3_4 : Int32) (read_4 : Int32) (spot_4 : Int32) (isWrong_4 : Int32) (open_4 : Int32) (act_4 : Int32) (letBy_4 : Nat → Int32) (letStamp_4 : Nat → Int32) (H : Heap) (locs : List Loc) (ls : Array Slot), okW D A s.heap H locs (wM cI cZ cJ h ad k_thrown k_s k_image k_hasImage k_steps read_4 spot_4 isWrong_4 open_4 act_4 letBy_4 letStamp_4 k_stamp k_fallen k_held k_stands k_falling k_away k_round k_rests k_may k_next k_could k_couldNight k_night k_seats) → lv_has ls 6 [(0, .ref h), (1, .int p1), (2, .int v2_4), (3, .int v3_4)] → L_4 v2_4 v3_4 read_4 spot_4 isWrong_4 open_4 act_4 letBy_4 letStamp_4 → W p l e R s m args below meth c H locs 0 0 QQ (F0 m 4 ls [])) (v2_4 : Int32) (v3_4 : Int32) (read_4 : Int32) (spot_4 : Int32) (isWrong_4 : Int32) (open_4 : Int32) (act_4 : Int32) (letBy_4 : Nat → Int32) (letStamp_4 : Nat → Int32) (H : Heap) (locs : List Loc) (ls : Array Slot), okW D A s.heap H locs (wM cI cZ cJ h ad k_thrown k_s k_image k_hasImage k_steps read_4 spot_4 isWrong_4 open_4 act_4 letBy_4 letStamp_4 k_stamp k_fallen k_held k_stands k_falling k_away k_round k_rests k_may k_next k_could k_couldNight k_night k_seats) → lv_has ls 6 [(0, .ref h), (1, .int p1), (2, .int v2_4), (3, .int v3_4)] → wb_X12_metBy_4 p1 k_s k_stamp k_stands Q L_4 v2_4 v3_4 read_4 spot_4 isWrong_4 open_4 act_4 letBy_4 letStamp_4 → W p l e R s m args below meth c H locs 0 0 QQ (F0 m 4 ls []) := by
    intro L_4 ih_4 v2_4 v3_4 read_4 spot_4 isWrong_4 open_4 act_4 letBy_4 letStamp_4 H locs ls hO hl hw
    unfold wb_X12_metBy_4 at hw
    refine lv_iload_n hx hb dX12_metBy_4 rfl (lv_at hl 3 rfl) ?_
    refine lv_aload_n hx hb dX12_metBy_5 rfl (lv_at hl 0 rfl) ?_
    refine gM_s C hin hK lk_s hO dX12_metBy_6 ?_
    refine lv_bipush (v := (nI 9)) hx hb dX12_metBy_9 (by decide) ?_
    refine ldM_s C hK hO (inK 9 6700 (by decide) (by decide)) (clK 9 (by decide)) dX12_metBy_11 ?_
    refine lv_icmp_ge (tgt := 96) hx hb dX12_metBy_12 (by decide) (fun q_12 => ?_) (fun q_12 => ?_)
    · have hw := hw.1 q_12
      refine lv_iload_n hx hb dX12_metBy_96 rfl (lv_at hl 2 rfl) ?_
      exact ri7 hQQ hx hb hr hlk hK hO hw dX12_metBy_97
    · have hw := hw.2 q_12
      refine lv_aload_n hx hb dX12_metBy_15 rfl (lv_at hl 0 rfl) ?_
      refine lv_aload_n hx hb dX12_metBy_16 rfl (lv_at hl 0 rfl) ?_
      refine gM_s C hin hK lk_s hO dX12_metBy_17 ?_
      refine lv_sipush (v := (nI 1172)) hx hb dX12_metBy_20 (by decide) ?_
      refine lv_iload_n hx hb dX12_metBy_23 rfl (lv_at hl 3 rfl) ?_
      refine lv_iadd hx hb dX12_metBy_24 ?_
      obtain ⟨o_25, hw⟩ := hw
      refine ldM_s C hK hO o_25 rfl dX12_metBy_25 ?_
      refine cVi0 (As := [.int (k_s (((nI 1172) + v3_4)).toNatClampNeg)]) (rest := []) C hK hX hO (c_X12_questionOf (l := l) hw) (cwV 1 hts gd_X12_256 rfl rfl rfl hd_X12_questionOf (rok hR (Nat.le_of_ble_eq_true rfl) (Nat.le_of_ble_eq_true rfl))) (ci := 12) (q0 := 0) rfl rfl rfl rfl hl.1 rfl (Nat.le_of_ble_eq_true rfl) dX12_metBy_26 ⟨Nat.zero_le _, Nat.zero_le _⟩ (fun r_26 H locs hw hO => ?_)
      refine lv_istore (lv' := [(4, .int r_26), (0, .ref h), (1, .int p1), (2, .int v2_4), (3, .int v3_4)]) hx hb dX12_metBy_29 hl (by decide) rfl (fun ls hl => ?_)
      refine lv_iload hx hb dX12_metBy_31 (lv_at hl 0 rfl) ?_
      refine lv_iconst (v := (-1)) hx hb dX12_metBy_33 (by decide) ?_
      have j_75 : ∀ (read_75 : Int32) (spot_75 : Int32) (isWrong_75 : Int32) (open_75 : Int32) (act_75 : Int32) (letBy_75 : Nat → Int32) (letStamp_75 : Nat → Int32) (t0_75 : Int32) (H : Heap) (locs : List Loc) (ls : Array Slot), okW D A s.heap H locs (wM cI cZ cJ h ad k_thrown k_s k_image k_hasImage k_steps read_75 spot_75 isWrong_75 open_75 act_75 letBy_75 letStamp_75 k_stamp k_fallen k_held k_stands k_falling k_away k_round k_rests k_may k_next k_could k_couldNight k_night k_seats) → lv_has ls 6 [(0, .ref h), (1, .int p1), (2, .int v2_4), (3, .int v3_4)] → wk_X12_metBy_75 v2_4 v3_4 L_4 read_75 spot_75 isWrong_75 open_75 act_75 letBy_75 letStamp_75 t0_75 → W p l e R s m args below meth c H locs 0 0 QQ (F0 m 75 ls [.int t0_75]) := by
        intro read_75 spot_75 isWrong_75 open_75 act_75 letBy_75 letStamp_75 t0_75 H locs ls hO hl hw
        unfold wk_X12_metBy_75 at hw
        refine lv_istore (lv' := [(5, .int t0_75), (0, .ref h), (1, .int p1), (2, .int v2_4), (3, .int v3_4)]) hx hb dX12_metBy_75 hl (by decide) rfl (fun ls hl => ?_)
        refine lv_iload_n hx hb dX12_metBy_77 rfl (lv_at hl 3 rfl) ?_
        refine lv_iload hx hb dX12_metBy_78 (lv_at hl 0 rfl) ?_
        have m_88 : ∀ (y1_88 : Int32) (H : Heap) (locs : List Loc) (ls : Array Slot), y1_88 = (if t0_75 = 0 then (nI 0) else (nI 1)) → okW D A s.heap H locs (wM cI cZ cJ h ad k_thrown k_s k_image k_hasImage k_steps read_75 spot_75 isWrong_75 open_75 act_75 letBy_75 letStamp_75 k_stamp k_fallen k_held k_stands k_falling k_away k_round k_rests k_may k_next k_could k_couldNight k_night k_seats) → lv_has ls 6 [(0, .ref h), (1, .int p1), (3, .int v3_4)] → W p l e R s m args below meth c H locs 0 0 QQ (F0 m 88 ls [.int y1_88, .int v2_4]) := by
          intro y1_88 H locs ls ey1_88 hO hl
          have hw := hw y1_88 ey1_88
          refine lv_iadd hx hb dX12_metBy_88 ?_
          refine lv_istore_n (lv' := [(2, .int (v2_4 + y1_88)), (0, .ref h), (1, .int p1), (3, .int v3_4)]) hx hb dX12_metBy_89 rfl hl (by decide) rfl (fun ls hl => ?_)
          refine lv_iinc (v := (v3_4 + (nI 1))) (lv' := [(3, .int (v3_4 + (nI 1))), (2, .int (v2_4 + y1_88)), (0, .ref h), (1, .int p1)]) hx hb dX12_metBy_90 hl (k := 3) rfl (iinc_1 _) (by decide) rfl (fun ls hl => ?_)
          refine lv_goto (tgt := 4) hx hb dX12_metBy_93 (by decide) ?_
          exact ih_4 (v2_4 + y1_88) (v3_4 + (nI 1)) read_75 spot_75 isWrong_75 open_75 act_75 letBy_75 letStamp_75 _ _ _ hO (lv_sub hl [2, 3, 1, 0] rfl) hw
        refine lv_if_eq (tgt := 87) hx hb dX12_metBy_80 (by decide) (fun q_80 => ?_) (fun q_80 => ?_)
        · refine lv_iconst (v := (nI 0)) hx hb dX12_metBy_87 (by decide) ?_
          have hl := lv_sub hl [1, 2, 4] rfl (l' := [(0, .ref h), (1, .int p1), (3, .int v3_4)])
          exact m_88 _ _ _ _ (by rw [if_pos q_80]) hO hl
        · refine lv_iconst (v := (nI 1)) hx hb dX12_metBy_83 (by decide) ?_
          refine lv_goto (tgt := 88) hx hb dX12_metBy_84 (by decide) ?_
          have hl := lv_sub hl [1, 2, 4] rfl (l' := [(0, .ref h), (1, .int p1), (3, .int v3_4)])
          exact m_88 _ _ _ _ (by rw [if_neg q_80]) hO hl
      refine lv_icmp_eq (tgt := 55) hx hb dX12_metBy_34 (by decide) (fun q_34 => ?_) (fun q_34 => ?_)
      · have hw := hw.1 q_34
        refine lv_aload_n hx hb dX12_metBy_55 rfl (lv_at hl 1 rfl) ?_
        refine lv_aload_n hx hb dX12_metBy_56 rfl (lv_at hl 1 rfl) ?_
        refine gM_s C hin hK lk_s hO dX12_metBy_57 ?_
        refine lv_sipush (v := (nI 1172)) hx hb dX12_metBy_60 (by decide) ?_
        refine lv_iload_n hx hb dX12_metBy_63 rfl (lv_at hl 4 rfl) ?_
        refine lv_iadd hx hb dX12_metBy_64 ?_
        obtain ⟨o_65, hw⟩ := hw
        refine ldM_s C hK hO o_65 rfl dX12_metBy_65 ?_
        refine lv_aload_n hx hb dX12_metBy_66 rfl (lv_at hl 1 rfl) ?_
        refine gM_s C hin hK lk_s hO dX12_metBy_67 ?_
        refine lv_iconst (v := (nI 0)) hx hb dX12_metBy_70 (by decide) ?_
        refine ldM_s C hK hO (inK 0 6700 (by decide) (by decide)) (clK 0 (by decide)) dX12_metBy_71 ?_
        refine cVi7 (As := [.int (k_s (((nI 1172) + v3_4)).toNatClampNeg), .int (k_s 0)]) (rest := []) C hK hX hO (c_X12_lets (l := l) hw) (cwV 2 hts gd_X12_172 rfl rfl rfl hd_X12_lets (rok hR (Nat.le_of_ble_eq_true rfl) (Nat.le_of_ble_eq_true rfl))) (ci := 12) (q0 := 0) rfl rfl rfl rfl hl.1 rfl (Nat.le_of_ble_eq_true rfl) dX12_metBy_72 ⟨Nat.zero_le _, Nat.zero_le _⟩ (fun r_72 read_72 spot_72 isWrong_72 open_72 act_72 letBy_72 letStamp_72 H locs hw hO => ?_)
        exact j_75 read_72 spot_72 isWrong_72 open_72 act_72 letBy_72 letStamp_72 r_72 _ _ _ hO (lv_sub hl [1, 2, 3, 4] rfl) hw
      · have hw := hw.2 q_34
        refine lv_iload_n hx hb dX12_metBy_37 rfl (lv_at hl 2 rfl) ?_
        refine lv_iload hx hb dX12_metBy_38 (lv_at hl 0 rfl) ?_
        refine lv_ishr hx hb dX12_metBy_40 ?_
        refine lv_iconst (v := (nI 1)) hx hb dX12_metBy_41 (by decide) ?_
        refine lv_iand hx hb dX12_metBy_42 ?_
        refine lv_iconst (v := (nI 1)) hx hb dX12_metBy_43 (by decide) ?_
        have m_75 : ∀ (y0_75 : Int32) (H : Heap) (locs : List Loc) (ls : Array Slot), y0_75 = (if ((p1 >>> (r_26 &&& 31)) &&& (nI 1)) = (nI 1) then (nI 1) else (nI 0)) → okW D A s.heap H locs (wM cI cZ cJ h ad k_thrown k_s k_image k_hasImage k_steps read_4 spot_4 isWrong_4 open_4 act_4 letBy_4 letStamp_4 k_stamp k_fallen k_held k_stands k_falling k_away k_round k_rests k_may k_next k_could k_couldNight k_night k_seats) → lv_has ls 6 [(0, .ref h), (1, .int p1), (2, .int v2_4), (3, .int v3_4)] → W p l e R s m args below meth c H locs 0 0 QQ (F0 m 75 ls [.int y0_75]) := by
          intro y0_75 H locs ls ey0_75 hO hl
          have hw := hw y0_75 ey0_75
          exact j_75 read_4 spot_4 isWrong_4 open_4 act_4 letBy_4 letStamp_4 y0_75 _ _ _ hO (lv_sub hl [0, 1, 2, 3] rfl) hw
        refine lv_icmp_ne (tgt := 51) hx hb dX12_metBy_44 (by decide) (fun q_44 => ?_) (fun q_44 => ?_)
        · refine lv_iconst (v := (nI 0)) hx hb dX12_metBy_51 (by decide) ?_
          refine lv_goto (tgt := 75) hx hb dX12_metBy_52 (by decide) ?_
          have hl := lv_sub hl [1, 2, 3, 4] rfl (l' := [(0, .ref h), (1, .int p1), (2, .int v2_4), (3, .int v3_4)])
          exact m_75 _ _ _ _ (by rw [if_neg q_44]) hO hl
        · refine lv_iconst (v := (nI 1)) hx hb dX12_metBy_47 (by decide) ?_
          refine lv_goto (tgt := 75) hx hb dX12_metBy_48 (by decide) ?_
          have hl := lv_sub hl [1, 2, 3, 4] rfl (l' := [(0, .ref h), (1, .int p1), (2, .int v2_4), (3, .int v3_4)])
          exact m_75 _ _ _ _ (by rw [if_pos q_44]) hO hl
  have l_4 : ∀ (n : Nat) (v2_4 : Int32) (v3_4 : Int32) (read_4 : Int32) (spot_4 : Int32) (isWrong_4 : Int32) (open_4 : Int32) (act_4 : Int32) (letBy_4 : Nat → Int32) (letStamp_4 : Nat → Int32) (H : Heap) (locs : List Loc) (ls : Array Slot), okW D A s.heap H locs (wM cI cZ cJ h ad k_thrown k_s k_image k_hasImage k_steps read_4 spot_4 isWrong_4 open_4 act_4 letBy_4 letStamp_4 k_stamp k_fallen k_held k_stands k_falling k_away k_round k_rests k_may k_next k_could k_couldNight k_night k_seats) → lv_has ls 6 [(0, .ref h), (1, .int p1), (2, .int v2_4), (3, .int v3_4)] → wl_X12_metBy_4 p1 k_s k_stamp k_stands Q n v2_4 v3_4 read_4 spot_4 isWrong_4 open_4 act_4 letBy_4 letStamp_4 → W p l e R s m args below meth c H locs 0 0 QQ (F0 m 4 ls []) := by
    intro n
    induction n with
    | zero => intro v2_4 v3_4 read_4 spot_4 isWrong_4 open_4 act_4 letBy_4 letStamp_4 H locs ls hO hl hw; exact False.elim hw
    | succ n ih => exact b_4 _ ih
  exact l_4 n_4 (nI 0) (nI 0) k_read k_spot k_isWrong k_open k_act k_letBy k_letStamp _ _ _ hO (lv_sub hl [2, 3, 1, 0] rfl) hw
def wb_X12_fallsBy_106 (k_stands : Nat → Int32) (Q : Int32 → (Nat → Int32) → Prop) (falling_99 : Nat → Int32) (L_106 : Int32 → Int32 → Prop) (v2_106 : Int32) (v3_106 : Int32) : Prop := (((nI 50) ≤ v3_106 → (Q v2_106 falling_99)) ∧ (¬ (nI 50) ≤ v3_106 → (vp_in v3_106 50 ∧ (((¬ (falling_99 (v3_106).toNatClampNeg) = 0 → (vp_in v3_106 50))) ∧ (∀ y1_136 : Int32, y1_136 = (if (falling_99 (v3_106).toNatClampNeg) = 0 then (nI 0) else (if (k_stands (v3_106).toNatClampNeg) = 0 then (nI 0) else (nI 1))) → (L_106 (v2_106 + y1_136) (v3_106 + (nI 1))))))))
def wl_X12_fallsBy_106 (k_stands : Nat → Int32) (Q : Int32 → (Nat → Int32) → Prop) (falling_99 : Nat → Int32) : Nat → Int32 → Int32 → Prop
  | 0, _, _ => False
  | n + 1, v2_106, v3_106 => wb_X12_fallsBy_106 k_stands Q falling_99 (wl_X12_fallsBy_106 k_stands Q falling_99 n) v2_106 v3_106
def wb_X12_fallsBy_17 (p1 : Int32) (k_s : Nat → Int32) (v2_2 : Int32) (L_2 : Int32 → (Nat → Int32) → Prop) (L_17 : Int32 → (Nat → Int32) → Prop) (v3_17 : Int32) (falling_17 : Nat → Int32) : Prop := (((k_s 8) ≤ v3_17 → (L_2 (v2_2 + (nI 1)) falling_17)) ∧ (¬ (k_s 8) ≤ v3_17 → (vp_in v2_2 50 ∧ ((((falling_17 (v2_2).toNatClampNeg) = 0 → (((¬ ((p1 >>> (v3_17 &&& 31)) &&& (nI 1)) = (nI 1) → (vp_in (((nI 872) + ((nI 50) * v3_17)) + v2_2) 6700)) ∧ (((p1 >>> (v3_17 &&& 31)) &&& (nI 1)) = (nI 1) → (vp_in (((nI 572) + ((nI 50) * v3_17)) + v2_2) 6700)))))) ∧ (∀ y2_81 : Int32, y2_81 = (if (falling_17 (v2_2).toNatClampNeg) = 0 then (if ((p1 >>> (v3_17 &&& 31)) &&& (nI 1)) = (nI 1) then (if (k_s ((((nI 572) + ((nI 50) * v3_17)) + v2_2)).toNatClampNeg) = (nI 1) then (nI 1) else (nI 0)) else (if (k_s ((((nI 872) + ((nI 50) * v3_17)) + v2_2)).toNatClampNeg) = (nI 1) then (nI 1) else (nI 0))) else (nI 1)) → (vp_in v2_2 50 ∧ (L_17 (v3_17 + (nI 1)) (upd falling_17 ((v2_2).toNatClampNeg) (vp_nar .boolean y2_81)))))))))
def wl_X12_fallsBy_17 (p1 : Int32) (k_s : Nat → Int32) (v2_2 : Int32) (L_2 : Int32 → (Nat → Int32) → Prop) : Nat → Int32 → (Nat → Int32) → Prop
  | 0, _, _ => False
  | n + 1, v3_17, falling_17 => wb_X12_fallsBy_17 p1 k_s v2_2 L_2 (wl_X12_fallsBy_17 p1 k_s v2_2 L_2 n) v3_17 falling_17
def wb_X12_fallsBy_2 (p1 : Int32) (k_s : Nat → Int32) (k_stands : Nat → Int32) (Q : Int32 → (Nat → Int32) → Prop) (L_2 : Int32 → (Nat → Int32) → Prop) (v2_2 : Int32) (falling_2 : Nat → Int32) : Prop := (((nI 50) ≤ v2_2 → (wp_X12_spreads_falling k_s falling_2 (fun (falling_99 : Nat → Int32) => (∃ n, wl_X12_fallsBy_106 k_stands Q falling_99 n (nI 0) (nI 0))))) ∧ (¬ (nI 50) ≤ v2_2 → (vp_in v2_2 50 ∧ (∃ n, wl_X12_fallsBy_17 p1 k_s v2_2 L_2 n (nI 0) (upd falling_2 ((v2_2).toNatClampNeg) (vp_nar .boolean (nI 0)))))))
def wl_X12_fallsBy_2 (p1 : Int32) (k_s : Nat → Int32) (k_stands : Nat → Int32) (Q : Int32 → (Nat → Int32) → Prop) : Nat → Int32 → (Nat → Int32) → Prop
  | 0, _, _ => False
  | n + 1, v2_2, falling_2 => wb_X12_fallsBy_2 p1 k_s k_stands Q (wl_X12_fallsBy_2 p1 k_s k_stands Q n) v2_2 falling_2
def wp_X12_fallsBy (p1 : Int32) (k_s : Nat → Int32) (k_stands : Nat → Int32) (k_falling : Nat → Int32) (Q : Int32 → (Nat → Int32) → Prop) : Prop := (∃ n, wl_X12_fallsBy_2 p1 k_s k_stands Q n (nI 0) k_falling)
set_option maxHeartbeats 4000000 in
set_option maxRecDepth 100000 in
theorem c_X12_fallsBy {l : Launch} {D : va_G} {cI cZ cJ : ClassId} {h : Nat} {ad : Nat → Nat} {sz : Nat} {k_thrown : Int32} {k_s : Nat → Int32} {k_image : Nat → Int32} {k_hasImage : Int32} {k_steps : Nat → Int32} {k_read : Int32} {k_spot : Int32} {k_isWrong : Int32} {k_open : Int32} {k_act : Int32} {k_letBy : Nat → Int32} {k_letStamp : Nat → Int32} {k_stamp : Int32} {k_fallen : Nat → Int32} {k_held : Nat → Int32} {k_stands : Nat → Int32} {k_falling : Nat → Int32} {k_away : Nat → Int32} {k_round : Nat → Int32} {k_rests : Nat → Int64} {k_may : Nat → Int32} {k_next : Nat → Int32} {k_could : Nat → Int32} {k_couldNight : Nat → Int32} {k_night : Int32} {k_seats : Nat → Int32} {p1 : Int32} {Q : Int32 → (Nat → Int32) → Prop} (hw : wp_X12_fallsBy p1 k_s k_stands k_falling Q) : Met l yX12_fallsBy (Cond.code yX12_fallsBy cX12_fallsBy 4 (some .int) :: wsG) ({ frames := 2, cells := 0, slots := 0, locals := 46 } : Room) (preW D (tyM cI cZ cJ) (wM cI cZ cJ h ad k_thrown k_s k_image k_hasImage k_steps k_read k_spot k_isWrong k_open k_act k_letBy k_letStamp k_stamp k_fallen k_held k_stands k_falling k_away k_round k_rests k_may k_next k_could k_couldNight k_night k_seats) sz [.ref h, .int p1]) (qi1 D (tyM cI cZ cJ) (va_A (wM cI cZ cJ h ad k_thrown k_s k_image k_hasImage k_steps k_read k_spot k_isWrong k_open k_act k_letBy k_letStamp k_stamp k_fallen k_held k_stands k_falling k_away k_round k_rests k_may k_next k_could k_couldNight k_night k_seats) sz) Q (fun k_falling' => (wM cI cZ cJ h ad k_thrown k_s k_image k_hasImage k_steps k_read k_spot k_isWrong k_open k_act k_letBy k_letStamp k_stamp k_fallen k_held k_stands k_falling' k_away k_round k_rests k_may k_next k_could k_couldNight k_night k_seats))) 0 0 (va_A (wM cI cZ cJ h ad k_thrown k_s k_image k_hasImage k_steps k_read k_spot k_isWrong k_open k_act k_letBy k_letStamp k_stamp k_fallen k_held k_stands k_falling k_away k_round k_rests k_may k_next k_could k_couldNight k_night k_seats) sz) := by
  refine st_met (cc := cX12_fallsBy) (maxL := 4) (ret := (some .int)) (lv := [(0, .ref h), (1, .int p1)]) (Qc := fun A => qi1 D (tyM cI cZ cJ) A Q (fun k_falling' => (wM cI cZ cJ h ad k_thrown k_s k_image k_hasImage k_steps k_read k_spot k_isWrong k_open k_act k_letBy k_letStamp k_stamp k_fallen k_held k_stands k_falling' k_away k_round k_rests k_may k_next k_could k_couldNight k_night k_seats))) (by decide) rfl (Nat.le_of_ble_eq_true rfl) rfl ?_
  intro p e s m below meth c ls A R args QQ H locs C hr hlk hnm hK hX hsz hl hO hR hQQ
  have hx := C.1
  have hb := C.2.1
  have hown := C.2.2.2.1
  have hts := C.2.2.2.2
  have hin : ∀ w ∈ u_ws RX12 TX12 26, w ∈ (Cond.code yX12_fallsBy cX12_fallsBy 4 (some .int) :: wsG) := fun w h9 => List.mem_cons_of_mem _ (inG12 w h9)
  have lk_falling := hts (Cond.fieldLink RX12 40 "FreeCityModel" "falling" "[Z") (List.mem_cons_of_mem _ qw5_222)
  have lk_stands := hts (Cond.fieldLink RX12 37 "FreeCityModel" "stands" "[Z") (List.mem_cons_of_mem _ qw5_221)
  have lk_s := hts (Cond.fieldLink RX12 7 "FreeCityModel" "s" "[I") (List.mem_cons_of_mem _ qw5_207)
  unfold wp_X12_fallsBy at hw
  refine lv_iconst (v := (nI 0)) hx hb dX12_fallsBy_0 (by decide) ?_
  refine lv_istore_n (lv' := [(2, .int (nI 0)), (0, .ref h), (1, .int p1)]) hx hb dX12_fallsBy_1 rfl hl (by decide) rfl (fun ls hl => ?_)
  obtain ⟨n_2, hw⟩ := hw
  have b_2 : ∀ (L_2 : Int32 → (Nat → Int32) → Prop) (ih_2 : ∀ (v2_2 : Int32) (falling_2 : Nat → Int32) (H : Heap) (locs : List Loc) (ls : Array Slot), okW D A s.heap H locs (wM cI cZ cJ h ad k_thrown k_s k_image k_hasImage k_steps k_read k_spot k_isWrong k_open k_act k_letBy k_letStamp k_stamp k_fallen k_held k_stands falling_2 k_away k_round k_rests k_may k_next k_could k_couldNight k_night k_seats) → lv_has ls 4 [(0, .ref h), (1, .int p1), (2, .int v2_2)] → L_2 v2_2 falling_2 → W p l e R s m args below meth c H locs 0 0 QQ (F0 m 2 ls [])) (v2_2 : Int32) (falling_2 : Nat → Int32) (H : Heap) (locs : List Loc) (ls : Array Slot), okW D A s.heap H locs (wM cI cZ cJ h ad k_thrown k_s k_image k_hasImage k_steps k_read k_spot k_isWrong k_open k_act k_letBy k_letStamp k_stamp k_fallen k_held k_stands falling_2 k_away k_round k_rests k_may k_next k_could k_couldNight k_night k_seats) → lv_has ls 4 [(0, .ref h), (1, .int p1), (2, .int v2_2)] → wb_X12_fallsBy_2 p1 k_s k_stands Q L_2 v2_2 falling_2 → W p l e R s m args below meth c H locs 0 0 QQ (F0 m 2 ls []) := by
    intro L_2 ih_2 v2_2 falling_2 H locs ls hO hl hw
    unfold wb_X12_fallsBy_2 at hw
    refine lv_iload_n hx hb dX12_fallsBy_2 rfl (lv_at hl 2 rfl) ?_
    refine lv_bipush (v := (nI 50)) hx hb dX12_fallsBy_3 (by decide) ?_
    refine lv_icmp_ge (tgt := 94) hx hb dX12_fallsBy_5 (by decide) (fun q_5 => ?_) (fun q_5 => ?_)
    · have hw := hw.1 q_5
      refine lv_aload_n hx hb dX12_fallsBy_94 rfl (lv_at hl 0 rfl) ?_
      refine lv_aload_n hx hb dX12_fallsBy_95 rfl (lv_at hl 0 rfl) ?_
      refine gM_falling C hin hK lk_falling hO dX12_fallsBy_96 ?_
      refine cVv1 (As := [.ref (ad 16)]) (rest := []) C hK hX hO (c_X12_spreads_falling (l := l) hw) (cwV 1 hts gd_X12_193 rfl rfl rfl hd_X12_spreads (rok hR (Nat.le_of_ble_eq_true rfl) (Nat.le_of_ble_eq_true rfl))) (ci := 12) (q0 := 0) rfl rfl rfl rfl hl.1 rfl (Nat.le_of_ble_eq_true rfl) dX12_fallsBy_99 ⟨Nat.zero_le _, Nat.zero_le _⟩ (fun falling_99 H locs hw hO => ?_)
      refine lv_iconst (v := (nI 0)) hx hb dX12_fallsBy_102 (by decide) ?_
      refine lv_istore_n (lv' := [(2, .int (nI 0)), (0, .ref h), (1, .int p1)]) hx hb dX12_fallsBy_103 rfl hl (by decide) rfl (fun ls hl => ?_)
      refine lv_iconst (v := (nI 0)) hx hb dX12_fallsBy_104 (by decide) ?_
      refine lv_istore_n (lv' := [(3, .int (nI 0)), (2, .int (nI 0)), (0, .ref h), (1, .int p1)]) hx hb dX12_fallsBy_105 rfl hl (by decide) rfl (fun ls hl => ?_)
      obtain ⟨n_106, hw⟩ := hw
      have b_106 : ∀ (L_106 : Int32 → Int32 → Prop) (ih_106 : ∀ (v2_106 : Int32) (v3_106 : Int32) (H : Heap) (locs : List Loc) (ls : Array Slot), okW D A s.heap H locs (wM cI cZ cJ h ad k_thrown k_s k_image k_hasImage k_steps k_read k_spot k_isWrong k_open k_act k_letBy k_letStamp k_stamp k_fallen k_held k_stands falling_99 k_away k_round k_rests k_may k_next k_could k_couldNight k_night k_seats) → lv_has ls 4 [(0, .ref h), (2, .int v2_106), (3, .int v3_106)] → L_106 v2_106 v3_106 → W p l e R s m args below meth c H locs 0 0 QQ (F0 m 106 ls [])) (v2_106 : Int32) (v3_106 : Int32) (H : Heap) (locs : List Loc) (ls : Array Slot), okW D A s.heap H locs (wM cI cZ cJ h ad k_thrown k_s k_image k_hasImage k_steps k_read k_spot k_isWrong k_open k_act k_letBy k_letStamp k_stamp k_fallen k_held k_stands falling_99 k_away k_round k_rests k_may k_next k_could k_couldNight k_night k_seats) → lv_has ls 4 [(0, .ref h), (2, .int v2_106), (3, .int v3_106)] → wb_X12_fallsBy_106 k_stands Q falling_99 L_106 v2_106 v3_106 → W p l e R s m args below meth c H locs 0 0 QQ (F0 m 106 ls []) := by
        intro L_106 ih_106 v2_106 v3_106 H locs ls hO hl hw
        unfold wb_X12_fallsBy_106 at hw
        refine lv_iload_n hx hb dX12_fallsBy_106 rfl (lv_at hl 2 rfl) ?_
        refine lv_bipush (v := (nI 50)) hx hb dX12_fallsBy_107 (by decide) ?_
        refine lv_icmp_ge (tgt := 144) hx hb dX12_fallsBy_109 (by decide) (fun q_109 => ?_) (fun q_109 => ?_)
        · have hw := hw.1 q_109
          refine lv_iload_n hx hb dX12_fallsBy_144 rfl (lv_at hl 1 rfl) ?_
          exact ri1 hQQ hx hb hr hlk hK hO hw dX12_fallsBy_145
        · have hw := hw.2 q_109
          refine lv_iload_n hx hb dX12_fallsBy_112 rfl (lv_at hl 1 rfl) ?_
          refine lv_aload_n hx hb dX12_fallsBy_113 rfl (lv_at hl 0 rfl) ?_
          refine gM_falling C hin hK lk_falling hO dX12_fallsBy_114 ?_
          refine lv_iload_n hx hb dX12_fallsBy_117 rfl (lv_at hl 2 rfl) ?_
          obtain ⟨o_118, hw⟩ := hw
          refine ldM_falling C hK hO o_118 rfl dX12_fallsBy_118 ?_
          obtain ⟨hs, hw⟩ := hw
          have m_136 : ∀ (y1_136 : Int32) (H : Heap) (locs : List Loc) (ls : Array Slot), y1_136 = (if (falling_99 (v3_106).toNatClampNeg) = 0 then (nI 0) else (if (k_stands (v3_106).toNatClampNeg) = 0 then (nI 0) else (nI 1))) → okW D A s.heap H locs (wM cI cZ cJ h ad k_thrown k_s k_image k_hasImage k_steps k_read k_spot k_isWrong k_open k_act k_letBy k_letStamp k_stamp k_fallen k_held k_stands falling_99 k_away k_round k_rests k_may k_next k_could k_couldNight k_night k_seats) → lv_has ls 4 [(0, .ref h), (3, .int v3_106)] → W p l e R s m args below meth c H locs 0 0 QQ (F0 m 136 ls [.int y1_136, .int v2_106]) := by
            intro y1_136 H locs ls ey1_136 hO hl
            have hw := hw y1_136 ey1_136
            refine lv_iadd hx hb dX12_fallsBy_136 ?_
            refine lv_istore_n (lv' := [(2, .int (v2_106 + y1_136)), (0, .ref h), (3, .int v3_106)]) hx hb dX12_fallsBy_137 rfl hl (by decide) rfl (fun ls hl => ?_)
            refine lv_iinc (v := (v3_106 + (nI 1))) (lv' := [(3, .int (v3_106 + (nI 1))), (2, .int (v2_106 + y1_136)), (0, .ref h)]) hx hb dX12_fallsBy_138 hl (k := 2) rfl (iinc_1 _) (by decide) rfl (fun ls hl => ?_)
            refine lv_goto (tgt := 106) hx hb dX12_fallsBy_141 (by decide) ?_
            exact ih_106 (v2_106 + y1_136) (v3_106 + (nI 1)) _ _ _ hO (lv_sub hl [2, 1, 0] rfl) hw
          refine lv_if_eq (tgt := 135) hx hb dX12_fallsBy_119 (by decide) (fun q_119 => ?_) (fun q_119 => ?_)
          · refine lv_iconst (v := (nI 0)) hx hb dX12_fallsBy_135 (by decide) ?_
            have hl := lv_sub hl [0, 2] rfl (l' := [(0, .ref h), (3, .int v3_106)])
            exact m_136 _ _ _ _ (by rw [if_pos q_119]) hO hl
          · have hs := hs q_119
            have o_127 := hs
            refine lv_aload_n hx hb dX12_fallsBy_122 rfl (lv_at hl 0 rfl) ?_
            refine gM_stands C hin hK lk_stands hO dX12_fallsBy_123 ?_
            refine lv_iload_n hx hb dX12_fallsBy_126 rfl (lv_at hl 2 rfl) ?_
            refine ldM_stands C hK hO o_127 rfl dX12_fallsBy_127 ?_
            refine lv_if_eq (tgt := 135) hx hb dX12_fallsBy_128 (by decide) (fun q_128 => ?_) (fun q_128 => ?_)
            · refine lv_iconst (v := (nI 0)) hx hb dX12_fallsBy_135 (by decide) ?_
              have hl := lv_sub hl [0, 2] rfl (l' := [(0, .ref h), (3, .int v3_106)])
              exact m_136 _ _ _ _ (by rw [if_neg q_119, if_pos q_128]) hO hl
            · refine lv_iconst (v := (nI 1)) hx hb dX12_fallsBy_131 (by decide) ?_
              refine lv_goto (tgt := 136) hx hb dX12_fallsBy_132 (by decide) ?_
              have hl := lv_sub hl [0, 2] rfl (l' := [(0, .ref h), (3, .int v3_106)])
              exact m_136 _ _ _ _ (by rw [if_neg q_119, if_neg q_128]) hO hl
      have l_106 : ∀ (n : Nat) (v2_106 : Int32) (v3_106 : Int32) (H : Heap) (locs : List Loc) (ls : Array Slot), okW D A s.heap H locs (wM cI cZ cJ h ad k_thrown k_s k_image k_hasImage k_steps k_read k_spot k_isWrong k_open k_act k_letBy k_letStamp k_stamp k_fallen k_held k_stands falling_99 k_away k_round k_rests k_may k_next k_could k_couldNight k_night k_seats) → lv_has ls 4 [(0, .ref h), (2, .int v2_106), (3, .int v3_106)] → wl_X12_fallsBy_106 k_stands Q falling_99 n v2_106 v3_106 → W p l e R s m args below meth c H locs 0 0 QQ (F0 m 106 ls []) := by
        intro n
        induction n with
        | zero => intro v2_106 v3_106 H locs ls hO hl hw; exact False.elim hw
        | succ n ih => exact b_106 _ ih
      exact l_106 n_106 (nI 0) (nI 0) _ _ _ hO (lv_sub hl [2, 1, 0] rfl) hw
    · have hw := hw.2 q_5
      refine lv_aload_n hx hb dX12_fallsBy_8 rfl (lv_at hl 0 rfl) ?_
      refine gM_falling C hin hK lk_falling hO dX12_fallsBy_9 ?_
      refine lv_iload_n hx hb dX12_fallsBy_12 rfl (lv_at hl 2 rfl) ?_
      refine lv_iconst (v := (nI 0)) hx hb dX12_fallsBy_13 (by decide) ?_
      obtain ⟨o_14, hw⟩ := hw
      refine stM_falling C hK hO o_14 rfl dX12_fallsBy_14 (fun H locs hO => ?_)
      refine lv_iconst (v := (nI 0)) hx hb dX12_fallsBy_15 (by decide) ?_
      refine lv_istore_n (lv' := [(3, .int (nI 0)), (0, .ref h), (1, .int p1), (2, .int v2_2)]) hx hb dX12_fallsBy_16 rfl hl (by decide) rfl (fun ls hl => ?_)
      obtain ⟨n_17, hw⟩ := hw
      have b_17 : ∀ (L_17 : Int32 → (Nat → Int32) → Prop) (ih_17 : ∀ (v3_17 : Int32) (falling_17 : Nat → Int32) (H : Heap) (locs : List Loc) (ls : Array Slot), okW D A s.heap H locs (wM cI cZ cJ h ad k_thrown k_s k_image k_hasImage k_steps k_read k_spot k_isWrong k_open k_act k_letBy k_letStamp k_stamp k_fallen k_held k_stands falling_17 k_away k_round k_rests k_may k_next k_could k_couldNight k_night k_seats) → lv_has ls 4 [(0, .ref h), (1, .int p1), (2, .int v2_2), (3, .int v3_17)] → L_17 v3_17 falling_17 → W p l e R s m args below meth c H locs 0 0 QQ (F0 m 17 ls [])) (v3_17 : Int32) (falling_17 : Nat → Int32) (H : Heap) (locs : List Loc) (ls : Array Slot), okW D A s.heap H locs (wM cI cZ cJ h ad k_thrown k_s k_image k_hasImage k_steps k_read k_spot k_isWrong k_open k_act k_letBy k_letStamp k_stamp k_fallen k_held k_stands falling_17 k_away k_round k_rests k_may k_next k_could k_couldNight k_night k_seats) → lv_has ls 4 [(0, .ref h), (1, .int p1), (2, .int v2_2), (3, .int v3_17)] → wb_X12_fallsBy_17 p1 k_s v2_2 L_2 L_17 v3_17 falling_17 → W p l e R s m args below meth c H locs 0 0 QQ (F0 m 17 ls []) := by
        intro L_17 ih_17 v3_17 falling_17 H locs ls hO hl hw
        unfold wb_X12_fallsBy_17 at hw
        refine lv_iload_n hx hb dX12_fallsBy_17 rfl (lv_at hl 3 rfl) ?_
        refine lv_aload_n hx hb dX12_fallsBy_18 rfl (lv_at hl 0 rfl) ?_
        refine gM_s C hin hK lk_s hO dX12_fallsBy_19 ?_
        refine lv_bipush (v := (nI 8)) hx hb dX12_fallsBy_22 (by decide) ?_
        refine ldM_s C hK hO (inK 8 6700 (by decide) (by decide)) (clK 8 (by decide)) dX12_fallsBy_24 ?_
        refine lv_icmp_ge (tgt := 88) hx hb dX12_fallsBy_25 (by decide) (fun q_25 => ?_) (fun q_25 => ?_)
        · have hw := hw.1 q_25
          refine lv_iinc (v := (v2_2 + (nI 1))) (lv' := [(2, .int (v2_2 + (nI 1))), (0, .ref h), (1, .int p1), (3, .int v3_17)]) hx hb dX12_fallsBy_88 hl (k := 2) rfl (iinc_1 _) (by decide) rfl (fun ls hl => ?_)
          refine lv_goto (tgt := 2) hx hb dX12_fallsBy_91 (by decide) ?_
          exact ih_2 (v2_2 + (nI 1)) falling_17 _ _ _ hO (lv_sub hl [1, 2, 0] rfl) hw
        · have hw := hw.2 q_25
          refine lv_aload_n hx hb dX12_fallsBy_28 rfl (lv_at hl 0 rfl) ?_
          refine gM_falling C hin hK lk_falling hO dX12_fallsBy_29 ?_
          refine lv_iload_n hx hb dX12_fallsBy_32 rfl (lv_at hl 2 rfl) ?_
          refine lv_aload_n hx hb dX12_fallsBy_33 rfl (lv_at hl 0 rfl) ?_
          refine gM_falling C hin hK lk_falling hO dX12_fallsBy_34 ?_
          refine lv_iload_n hx hb dX12_fallsBy_37 rfl (lv_at hl 2 rfl) ?_
          obtain ⟨o_38, hw⟩ := hw
          refine ldM_falling C hK hO o_38 rfl dX12_fallsBy_38 ?_
          obtain ⟨hs, hw⟩ := hw
          have m_81 : ∀ (y2_81 : Int32) (H : Heap) (locs : List Loc) (ls : Array Slot), y2_81 = (if (falling_17 (v2_2).toNatClampNeg) = 0 then (if ((p1 >>> (v3_17 &&& 31)) &&& (nI 1)) = (nI 1) then (if (k_s ((((nI 572) + ((nI 50) * v3_17)) + v2_2)).toNatClampNeg) = (nI 1) then (nI 1) else (nI 0)) else (if (k_s ((((nI 872) + ((nI 50) * v3_17)) + v2_2)).toNatClampNeg) = (nI 1) then (nI 1) else (nI 0))) else (nI 1)) → okW D A s.heap H locs (wM cI cZ cJ h ad k_thrown k_s k_image k_hasImage k_steps k_read k_spot k_isWrong k_open k_act k_letBy k_letStamp k_stamp k_fallen k_held k_stands falling_17 k_away k_round k_rests k_may k_next k_could k_couldNight k_night k_seats) → lv_has ls 4 [(0, .ref h), (1, .int p1), (2, .int v2_2), (3, .int v3_17)] → W p l e R s m args below meth c H locs 0 0 QQ (F0 m 81 ls [.int y2_81, .int v2_2, .ref (ad 16)]) := by
            intro y2_81 H locs ls ey2_81 hO hl
            have hw := hw y2_81 ey2_81
            obtain ⟨o_81, hw⟩ := hw
            refine stM_falling C hK hO o_81 rfl dX12_fallsBy_81 (fun H locs hO => ?_)
            refine lv_iinc (v := (v3_17 + (nI 1))) (lv' := [(3, .int (v3_17 + (nI 1))), (0, .ref h), (1, .int p1), (2, .int v2_2)]) hx hb dX12_fallsBy_82 hl (k := 3) rfl (iinc_1 _) (by decide) rfl (fun ls hl => ?_)
            refine lv_goto (tgt := 17) hx hb dX12_fallsBy_85 (by decide) ?_
            exact ih_17 (v3_17 + (nI 1)) (upd falling_17 ((v2_2).toNatClampNeg) (vp_nar .boolean y2_81)) _ _ _ hO (lv_sub hl [1, 2, 3, 0] rfl) hw
          refine lv_if_ne (tgt := 76) hx hb dX12_fallsBy_39 (by decide) (fun q_39 => ?_) (fun q_39 => ?_)
          · refine lv_iconst (v := (nI 1)) hx hb dX12_fallsBy_76 (by decide) ?_
            refine lv_goto (tgt := 81) hx hb dX12_fallsBy_77 (by decide) ?_
            have hl := lv_sub hl [0, 1, 2, 3] rfl (l' := [(0, .ref h), (1, .int p1), (2, .int v2_2), (3, .int v3_17)])
            exact m_81 _ _ _ _ (by rw [if_neg q_39]) hO hl
          · have hs := hs q_39
            refine lv_aload_n hx hb dX12_fallsBy_42 rfl (lv_at hl 0 rfl) ?_
            refine gM_s C hin hK lk_s hO dX12_fallsBy_43 ?_
            refine lv_iload_n hx hb dX12_fallsBy_46 rfl (lv_at hl 1 rfl) ?_
            refine lv_iload_n hx hb dX12_fallsBy_47 rfl (lv_at hl 3 rfl) ?_
            refine lv_ishr hx hb dX12_fallsBy_48 ?_
            refine lv_iconst (v := (nI 1)) hx hb dX12_fallsBy_49 (by decide) ?_
            refine lv_iand hx hb dX12_fallsBy_50 ?_
            refine lv_iconst (v := (nI 1)) hx hb dX12_fallsBy_51 (by decide) ?_
            refine lv_icmp_ne (tgt := 61) hx hb dX12_fallsBy_52 (by decide) (fun q_52 => ?_) (fun q_52 => ?_)
            · have hs := hs.1 q_52
              have o_71 := hs
              refine lv_sipush (v := (nI 872)) hx hb dX12_fallsBy_61 (by decide) ?_
              refine lv_bipush (v := (nI 50)) hx hb dX12_fallsBy_64 (by decide) ?_
              refine lv_iload_n hx hb dX12_fallsBy_66 rfl (lv_at hl 3 rfl) ?_
              refine lv_imul hx hb dX12_fallsBy_67 ?_
              refine lv_iadd hx hb dX12_fallsBy_68 ?_
              refine lv_iload_n hx hb dX12_fallsBy_69 rfl (lv_at hl 2 rfl) ?_
              refine lv_iadd hx hb dX12_fallsBy_70 ?_
              refine ldM_s C hK hO o_71 rfl dX12_fallsBy_71 ?_
              refine lv_iconst (v := (nI 1)) hx hb dX12_fallsBy_72 (by decide) ?_
              refine lv_icmp_ne (tgt := 80) hx hb dX12_fallsBy_73 (by decide) (fun q_73 => ?_) (fun q_73 => ?_)
              · refine lv_iconst (v := (nI 0)) hx hb dX12_fallsBy_80 (by decide) ?_
                have hl := lv_sub hl [0, 1, 2, 3] rfl (l' := [(0, .ref h), (1, .int p1), (2, .int v2_2), (3, .int v3_17)])
                exact m_81 _ _ _ _ (by rw [if_pos q_39, if_neg q_52, if_neg q_73]) hO hl
              · refine lv_iconst (v := (nI 1)) hx hb dX12_fallsBy_76 (by decide) ?_
                refine lv_goto (tgt := 81) hx hb dX12_fallsBy_77 (by decide) ?_
                have hl := lv_sub hl [0, 1, 2, 3] rfl (l' := [(0, .ref h), (1, .int p1), (2, .int v2_2), (3, .int v3_17)])
                exact m_81 _ _ _ _ (by rw [if_pos q_39, if_neg q_52, if_pos q_73]) hO hl
            · have hs := hs.2 q_52
              have o_71 := hs
              refine lv_sipush (v := (nI 572)) hx hb dX12_fallsBy_55 (by decide) ?_
              refine lv_goto (tgt := 64) hx hb dX12_fallsBy_58 (by decide) ?_
              refine lv_bipush (v := (nI 50)) hx hb dX12_fallsBy_64 (by decide) ?_
              refine lv_iload_n hx hb dX12_fallsBy_66 rfl (lv_at hl 3 rfl) ?_
              refine lv_imul hx hb dX12_fallsBy_67 ?_
              refine lv_iadd hx hb dX12_fallsBy_68 ?_
              refine lv_iload_n hx hb dX12_fallsBy_69 rfl (lv_at hl 2 rfl) ?_
              refine lv_iadd hx hb dX12_fallsBy_70 ?_
              refine ldM_s C hK hO o_71 rfl dX12_fallsBy_71 ?_
              refine lv_iconst (v := (nI 1)) hx hb dX12_fallsBy_72 (by decide) ?_
              refine lv_icmp_ne (tgt := 80) hx hb dX12_fallsBy_73 (by decide) (fun q_73 => ?_) (fun q_73 => ?_)
              · refine lv_iconst (v := (nI 0)) hx hb dX12_fallsBy_80 (by decide) ?_
                have hl := lv_sub hl [0, 1, 2, 3] rfl (l' := [(0, .ref h), (1, .int p1), (2, .int v2_2), (3, .int v3_17)])
                exact m_81 _ _ _ _ (by rw [if_pos q_39, if_pos q_52, if_neg q_73]) hO hl
              · refine lv_iconst (v := (nI 1)) hx hb dX12_fallsBy_76 (by decide) ?_
                refine lv_goto (tgt := 81) hx hb dX12_fallsBy_77 (by decide) ?_
                have hl := lv_sub hl [0, 1, 2, 3] rfl (l' := [(0, .ref h), (1, .int p1), (2, .int v2_2), (3, .int v3_17)])
                exact m_81 _ _ _ _ (by rw [if_pos q_39, if_pos q_52, if_pos q_73]) hO hl
      have l_17 : ∀ (n : Nat) (v3_17 : Int32) (falling_17 : Nat → Int32) (H : Heap) (locs : List Loc) (ls : Array Slot), okW D A s.heap H locs (wM cI cZ cJ h ad k_thrown k_s k_image k_hasImage k_steps k_read k_spot k_isWrong k_open k_act k_letBy k_letStamp k_stamp k_fallen k_held k_stands falling_17 k_away k_round k_rests k_may k_next k_could k_couldNight k_night k_seats) → lv_has ls 4 [(0, .ref h), (1, .int p1), (2, .int v2_2), (3, .int v3_17)] → wl_X12_fallsBy_17 p1 k_s v2_2 L_2 n v3_17 falling_17 → W p l e R s m args below meth c H locs 0 0 QQ (F0 m 17 ls []) := by
        intro n
        induction n with
        | zero => intro v3_17 falling_17 H locs ls hO hl hw; exact False.elim hw
        | succ n ih => exact b_17 _ ih
      exact l_17 n_17 (nI 0) (upd falling_2 ((v2_2).toNatClampNeg) (vp_nar .boolean (nI 0))) _ _ _ hO (lv_sub hl [1, 2, 3, 0] rfl) hw
  have l_2 : ∀ (n : Nat) (v2_2 : Int32) (falling_2 : Nat → Int32) (H : Heap) (locs : List Loc) (ls : Array Slot), okW D A s.heap H locs (wM cI cZ cJ h ad k_thrown k_s k_image k_hasImage k_steps k_read k_spot k_isWrong k_open k_act k_letBy k_letStamp k_stamp k_fallen k_held k_stands falling_2 k_away k_round k_rests k_may k_next k_could k_couldNight k_night k_seats) → lv_has ls 4 [(0, .ref h), (1, .int p1), (2, .int v2_2)] → wl_X12_fallsBy_2 p1 k_s k_stands Q n v2_2 falling_2 → W p l e R s m args below meth c H locs 0 0 QQ (F0 m 2 ls []) := by
    intro n
    induction n with
    | zero => intro v2_2 falling_2 H locs ls hO hl hw; exact False.elim hw
    | succ n ih => exact b_2 _ ih
  exact l_2 n_2 (nI 0) k_falling _ _ _ hO (lv_sub hl [1, 2, 0] rfl) hw
theorem gd_X12_259 {a : Cond} : GoodIn (a :: wsG) (wsV RX12 259 RX12 yX12_metBy (Cond.code yX12_metBy cX12_metBy 6 (some .int) :: wsG)) := gdV qw7_165 qw7_167 qs_71 qw1_12 qw7_168
theorem hd_X12_metBy : yX12_metBy.cls = RX12 ∧ yX12_metBy.cls ≠ "java/lang/invoke/MethodHandle" ∧ yX12_metBy.cls ≠ "java/lang/invoke/VarHandle" ∧ (parseMethodDescriptor yX12_metBy.desc).map (fun d => d.parameters.length) = some 1 := by decide +kernel
theorem gd_X12_262 {a : Cond} : GoodIn (a :: wsG) (wsV RX12 262 RX12 yX12_fallsBy (Cond.code yX12_fallsBy cX12_fallsBy 4 (some .int) :: wsG)) := gdV qw7_173 qw7_175 qs_73 qw1_12 qw7_176
theorem hd_X12_fallsBy : yX12_fallsBy.cls = RX12 ∧ yX12_fallsBy.cls ≠ "java/lang/invoke/MethodHandle" ∧ yX12_fallsBy.cls ≠ "java/lang/invoke/VarHandle" ∧ (parseMethodDescriptor yX12_fallsBy.desc).map (fun d => d.parameters.length) = some 1 := by decide +kernel
def wp_X12_judge (p1 : Int32) (p2 : Int32) (k_s : Nat → Int32) (k_read : Int32) (k_spot : Int32) (k_isWrong : Int32) (k_open : Int32) (k_act : Int32) (k_letBy : Nat → Int32) (k_letStamp : Nat → Int32) (k_stamp : Int32) (k_fallen : Nat → Int32) (k_held : Nat → Int32) (k_stands : Nat → Int32) (k_falling : Nat → Int32) (Q : Int32 → (Int32) → (Int32) → (Int32) → (Int32) → (Int32) → (Nat → Int32) → (Nat → Int32) → (Nat → Int32) → (Nat → Int32) → (Nat → Int32) → (Nat → Int32) → Prop) : Prop := ((¬ (f_X12_in p2 (nI 0) (nI 1)) = 0 → ((¬ (f_X12_in p1 (nI 0) (((nI 1) <<< ((k_s 8) &&& 31)) - (nI 1))) = 0 → (wp_X12_looks k_s k_fallen k_held k_stands (fun (fallen_34 : Nat → Int32) (held_34 : Nat → Int32) (stands_34 : Nat → Int32) => ((¬ p2 = 0 → (wp_X12_fallsBy p1 k_s stands_34 k_falling (fun (r_51 : Int32) (falling_51 : Nat → Int32) => (Q r_51 k_read k_spot k_isWrong k_open k_act k_letBy k_letStamp fallen_34 held_34 stands_34 falling_51)))) ∧ (p2 = 0 → (wp_X12_metBy p1 k_s k_read k_spot k_isWrong k_open k_act k_letBy k_letStamp k_stamp stands_34 (fun (r_43 : Int32) (read_43 : Int32) (spot_43 : Int32) (isWrong_43 : Int32) (open_43 : Int32) (act_43 : Int32) (letBy_43 : Nat → Int32) (letStamp_43 : Nat → Int32) => (Q r_43 read_43 spot_43 isWrong_43 open_43 act_43 letBy_43 letStamp_43 fallen_34 held_34 stands_34 k_falling)))))))) ∧ ((f_X12_in p1 (nI 0) (((nI 1) <<< ((k_s 8) &&& 31)) - (nI 1))) = 0 → (Q (-2) k_read k_spot k_isWrong k_open k_act k_letBy k_letStamp k_fallen k_held k_stands k_falling)))) ∧ ((f_X12_in p2 (nI 0) (nI 1)) = 0 → (Q (-1) k_read k_spot k_isWrong k_open k_act k_letBy k_letStamp k_fallen k_held k_stands k_falling)))
set_option maxHeartbeats 4000000 in
set_option maxRecDepth 100000 in
theorem c_X12_judge {l : Launch} {D : va_G} {cI cZ cJ : ClassId} {h : Nat} {ad : Nat → Nat} {sz : Nat} {k_thrown : Int32} {k_s : Nat → Int32} {k_image : Nat → Int32} {k_hasImage : Int32} {k_steps : Nat → Int32} {k_read : Int32} {k_spot : Int32} {k_isWrong : Int32} {k_open : Int32} {k_act : Int32} {k_letBy : Nat → Int32} {k_letStamp : Nat → Int32} {k_stamp : Int32} {k_fallen : Nat → Int32} {k_held : Nat → Int32} {k_stands : Nat → Int32} {k_falling : Nat → Int32} {k_away : Nat → Int32} {k_round : Nat → Int32} {k_rests : Nat → Int64} {k_may : Nat → Int32} {k_next : Nat → Int32} {k_could : Nat → Int32} {k_couldNight : Nat → Int32} {k_night : Int32} {k_seats : Nat → Int32} {p1 : Int32} {p2 : Int32} {Q : Int32 → (Int32) → (Int32) → (Int32) → (Int32) → (Int32) → (Nat → Int32) → (Nat → Int32) → (Nat → Int32) → (Nat → Int32) → (Nat → Int32) → (Nat → Int32) → Prop} (hw : wp_X12_judge p1 p2 k_s k_read k_spot k_isWrong k_open k_act k_letBy k_letStamp k_stamp k_fallen k_held k_stands k_falling Q) : Met l yX12_judge (Cond.code yX12_judge cX12_judge 3 (some .int) :: wsG) ({ frames := 36, cells := 0, slots := 0, locals := 824 } : Room) (preW D (tyM cI cZ cJ) (wM cI cZ cJ h ad k_thrown k_s k_image k_hasImage k_steps k_read k_spot k_isWrong k_open k_act k_letBy k_letStamp k_stamp k_fallen k_held k_stands k_falling k_away k_round k_rests k_may k_next k_could k_couldNight k_night k_seats) sz [.ref h, .int p1, .int p2]) (qi11 D (tyM cI cZ cJ) (va_A (wM cI cZ cJ h ad k_thrown k_s k_image k_hasImage k_steps k_read k_spot k_isWrong k_open k_act k_letBy k_letStamp k_stamp k_fallen k_held k_stands k_falling k_away k_round k_rests k_may k_next k_could k_couldNight k_night k_seats) sz) Q (fun k_read' k_spot' k_isWrong' k_open' k_act' k_letBy' k_letStamp' k_fallen' k_held' k_stands' k_falling' => (wM cI cZ cJ h ad k_thrown k_s k_image k_hasImage k_steps k_read' k_spot' k_isWrong' k_open' k_act' k_letBy' k_letStamp' k_stamp k_fallen' k_held' k_stands' k_falling' k_away k_round k_rests k_may k_next k_could k_couldNight k_night k_seats))) 0 0 (va_A (wM cI cZ cJ h ad k_thrown k_s k_image k_hasImage k_steps k_read k_spot k_isWrong k_open k_act k_letBy k_letStamp k_stamp k_fallen k_held k_stands k_falling k_away k_round k_rests k_may k_next k_could k_couldNight k_night k_seats) sz) := by
  refine st_met (cc := cX12_judge) (maxL := 3) (ret := (some .int)) (lv := [(0, .ref h), (1, .int p1), (2, .int p2)]) (Qc := fun A => qi11 D (tyM cI cZ cJ) A Q (fun k_read' k_spot' k_isWrong' k_open' k_act' k_letBy' k_letStamp' k_fallen' k_held' k_stands' k_falling' => (wM cI cZ cJ h ad k_thrown k_s k_image k_hasImage k_steps k_read' k_spot' k_isWrong' k_open' k_act' k_letBy' k_letStamp' k_stamp k_fallen' k_held' k_stands' k_falling' k_away k_round k_rests k_may k_next k_could k_couldNight k_night k_seats))) (by decide) rfl (Nat.le_of_ble_eq_true rfl) rfl ?_
  intro p e s m below meth c ls A R args QQ H locs C hr hlk hnm hK hX hsz hl hO hR hQQ
  have hx := C.1
  have hb := C.2.1
  have hown := C.2.2.2.1
  have hts := C.2.2.2.2
  have hin : ∀ w ∈ u_ws RX12 TX12 26, w ∈ (Cond.code yX12_judge cX12_judge 3 (some .int) :: wsG) := fun w h9 => List.mem_cons_of_mem _ (inG12 w h9)
  have lk_s := hts (Cond.fieldLink RX12 7 "FreeCityModel" "s" "[I") (List.mem_cons_of_mem _ qw5_207)
  unfold wp_X12_judge at hw
  refine lv_iload_n hx hb dX12_judge_0 rfl (lv_at hl 2 rfl) ?_
  refine lv_iconst (v := (nI 0)) hx hb dX12_judge_1 (by decide) ?_
  refine lv_iconst (v := (nI 1)) hx hb dX12_judge_2 (by decide) ?_
  refine cSi0 (As := [.int p2, .int (nI 0), .int (nI 1)]) (rest := []) C hK hX hO (c_X12_in (l := l)) (va_cwS 3 hts gd_X12_74 rfl rfl rfl hd_X12_in (rok hR (Nat.le_of_ble_eq_true rfl) (Nat.le_of_ble_eq_true rfl))) rfl hl.1 rfl (Nat.le_of_ble_eq_true rfl) dX12_judge_3 ⟨Nat.zero_le _, Nat.zero_le _⟩ (fun r_3 H locs e_3 hO => ?_)
  subst e_3
  refine lv_if_ne (tgt := 11) hx hb dX12_judge_6 (by decide) (fun q_6 => ?_) (fun q_6 => ?_)
  · have hw := hw.1 q_6
    refine lv_iload_n hx hb dX12_judge_11 rfl (lv_at hl 1 rfl) ?_
    refine lv_iconst (v := (nI 0)) hx hb dX12_judge_12 (by decide) ?_
    refine lv_iconst (v := (nI 1)) hx hb dX12_judge_13 (by decide) ?_
    refine lv_aload_n hx hb dX12_judge_14 rfl (lv_at hl 0 rfl) ?_
    refine gM_s C hin hK lk_s hO dX12_judge_15 ?_
    refine lv_bipush (v := (nI 8)) hx hb dX12_judge_18 (by decide) ?_
    refine ldM_s C hK hO (inK 8 6700 (by decide) (by decide)) (clK 8 (by decide)) dX12_judge_20 ?_
    refine lv_ishl hx hb dX12_judge_21 ?_
    refine lv_iconst (v := (nI 1)) hx hb dX12_judge_22 (by decide) ?_
    refine lv_isub hx hb dX12_judge_23 ?_
    refine cSi0 (As := [.int p1, .int (nI 0), .int (((nI 1) <<< ((k_s 8) &&& 31)) - (nI 1))]) (rest := []) C hK hX hO (c_X12_in (l := l)) (va_cwS 3 hts gd_X12_74 rfl rfl rfl hd_X12_in (rok hR (Nat.le_of_ble_eq_true rfl) (Nat.le_of_ble_eq_true rfl))) rfl hl.1 rfl (Nat.le_of_ble_eq_true rfl) dX12_judge_24 ⟨Nat.zero_le _, Nat.zero_le _⟩ (fun r_24 H locs e_24 hO => ?_)
    subst e_24
    refine lv_if_ne (tgt := 33) hx hb dX12_judge_27 (by decide) (fun q_27 => ?_) (fun q_27 => ?_)
    · have hw := hw.1 q_27
      refine lv_aload_n hx hb dX12_judge_33 rfl (lv_at hl 0 rfl) ?_
      refine cVv3 (As := []) (rest := []) C hK hX hO (c_X12_looks (l := l) hw) (cwV 0 hts gd_X12_169 rfl rfl rfl hd_X12_looks (rok hR (Nat.le_of_ble_eq_true rfl) (Nat.le_of_ble_eq_true rfl))) (ci := 12) (q0 := 0) rfl rfl rfl rfl hl.1 rfl (Nat.le_of_ble_eq_true rfl) dX12_judge_34 ⟨Nat.zero_le _, Nat.zero_le _⟩ (fun fallen_34 held_34 stands_34 H locs hw hO => ?_)
      refine lv_iload_n hx hb dX12_judge_37 rfl (lv_at hl 2 rfl) ?_
      refine lv_if_ne (tgt := 49) hx hb dX12_judge_38 (by decide) (fun q_38 => ?_) (fun q_38 => ?_)
      · have hw := hw.1 q_38
        refine lv_aload_n hx hb dX12_judge_49 rfl (lv_at hl 0 rfl) ?_
        refine lv_iload_n hx hb dX12_judge_50 rfl (lv_at hl 1 rfl) ?_
        refine cVi1 (As := [.int p1]) (rest := []) C hK hX hO (c_X12_fallsBy (l := l) hw) (cwV 1 hts gd_X12_262 rfl rfl rfl hd_X12_fallsBy (rok hR (Nat.le_of_ble_eq_true rfl) (Nat.le_of_ble_eq_true rfl))) (ci := 12) (q0 := 0) rfl rfl rfl rfl hl.1 rfl (Nat.le_of_ble_eq_true rfl) dX12_judge_51 ⟨Nat.zero_le _, Nat.zero_le _⟩ (fun r_51 falling_51 H locs hw hO => ?_)
        exact ri11 hQQ hx hb hr hlk hK hO hw dX12_judge_54
      · have hw := hw.2 q_38
        refine lv_aload_n hx hb dX12_judge_41 rfl (lv_at hl 0 rfl) ?_
        refine lv_iload_n hx hb dX12_judge_42 rfl (lv_at hl 1 rfl) ?_
        refine cVi7 (As := [.int p1]) (rest := []) C hK hX hO (c_X12_metBy (l := l) hw) (cwV 1 hts gd_X12_259 rfl rfl rfl hd_X12_metBy (rok hR (Nat.le_of_ble_eq_true rfl) (Nat.le_of_ble_eq_true rfl))) (ci := 12) (q0 := 0) rfl rfl rfl rfl hl.1 rfl (Nat.le_of_ble_eq_true rfl) dX12_judge_43 ⟨Nat.zero_le _, Nat.zero_le _⟩ (fun r_43 read_43 spot_43 isWrong_43 open_43 act_43 letBy_43 letStamp_43 H locs hw hO => ?_)
        refine lv_goto (tgt := 54) hx hb dX12_judge_46 (by decide) ?_
        exact ri11 hQQ hx hb hr hlk hK hO hw dX12_judge_54
    · have hw := hw.2 q_27
      refine lv_bipush (v := (-2)) hx hb dX12_judge_30 (by decide) ?_
      exact ri11 hQQ hx hb hr hlk hK hO hw dX12_judge_32
  · have hw := hw.2 q_6
    refine lv_iconst (v := (-1)) hx hb dX12_judge_9 (by decide) ?_
    exact ri11 hQQ hx hb hr hlk hK hO hw dX12_judge_10
def wb_X12_best_11 (k_s : Nat → Int32) (k_stamp : Int32) (Q : Int32 → (Int32) → (Int32) → (Int32) → (Int32) → (Int32) → (Nat → Int32) → (Nat → Int32) → (Nat → Int32) → (Nat → Int32) → (Nat → Int32) → (Nat → Int32) → Prop) (fallen_1 : Nat → Int32) (held_1 : Nat → Int32) (stands_1 : Nat → Int32) (L_11 : Int32 → Int32 → Int32 → Int32 → Int32 → Int32 → Int32 → Int32 → (Nat → Int32) → (Nat → Int32) → (Nat → Int32) → Prop) (v1_11 : Int32) (v2_11 : Int32) (v3_11 : Int32) (read_11 : Int32) (spot_11 : Int32) (isWrong_11 : Int32) (open_11 : Int32) (act_11 : Int32) (letBy_11 : Nat → Int32) (letStamp_11 : Nat → Int32) (falling_11 : Nat → Int32) : Prop := ((((nI 1) <<< ((k_s 8) &&& 31)) ≤ v3_11 → (Q v1_11 read_11 spot_11 isWrong_11 open_11 act_11 letBy_11 letStamp_11 fallen_1 held_1 stands_1 falling_11)) ∧ (¬ ((nI 1) <<< ((k_s 8) &&& 31)) ≤ v3_11 → (wp_X12_fallsBy v3_11 k_s stands_1 falling_11 (fun (r_26 : Int32) (falling_26 : Nat → Int32) => (wp_X12_metBy v3_11 k_s read_11 spot_11 isWrong_11 open_11 act_11 letBy_11 letStamp_11 k_stamp stands_1 (fun (r_33 : Int32) (read_33 : Int32) (spot_33 : Int32) (isWrong_33 : Int32) (open_33 : Int32) (act_33 : Int32) (letBy_33 : Nat → Int32) (letStamp_33 : Nat → Int32) => (∀ x1_63 : Int32, x1_63 = (if r_33 = (k_s 9) then (if v1_11 = (-5) then v3_11 else (if v2_11 ≤ r_26 then v1_11 else v3_11)) else v1_11) → (∀ x2_63 : Int32, x2_63 = (if r_33 = (k_s 9) then (if v1_11 = (-5) then r_26 else (if v2_11 ≤ r_26 then v2_11 else r_26)) else v2_11) → (L_11 x1_63 x2_63 (v3_11 + (nI 1)) read_33 spot_33 isWrong_33 open_33 act_33 letBy_33 letStamp_33 falling_26)))))))))
def wl_X12_best_11 (k_s : Nat → Int32) (k_stamp : Int32) (Q : Int32 → (Int32) → (Int32) → (Int32) → (Int32) → (Int32) → (Nat → Int32) → (Nat → Int32) → (Nat → Int32) → (Nat → Int32) → (Nat → Int32) → (Nat → Int32) → Prop) (fallen_1 : Nat → Int32) (held_1 : Nat → Int32) (stands_1 : Nat → Int32) : Nat → Int32 → Int32 → Int32 → Int32 → Int32 → Int32 → Int32 → Int32 → (Nat → Int32) → (Nat → Int32) → (Nat → Int32) → Prop
  | 0, _, _, _, _, _, _, _, _, _, _, _ => False
  | n + 1, v1_11, v2_11, v3_11, read_11, spot_11, isWrong_11, open_11, act_11, letBy_11, letStamp_11, falling_11 => wb_X12_best_11 k_s k_stamp Q fallen_1 held_1 stands_1 (wl_X12_best_11 k_s k_stamp Q fallen_1 held_1 stands_1 n) v1_11 v2_11 v3_11 read_11 spot_11 isWrong_11 open_11 act_11 letBy_11 letStamp_11 falling_11
def wp_X12_best  (k_s : Nat → Int32) (k_read : Int32) (k_spot : Int32) (k_isWrong : Int32) (k_open : Int32) (k_act : Int32) (k_letBy : Nat → Int32) (k_letStamp : Nat → Int32) (k_stamp : Int32) (k_fallen : Nat → Int32) (k_held : Nat → Int32) (k_stands : Nat → Int32) (k_falling : Nat → Int32) (Q : Int32 → (Int32) → (Int32) → (Int32) → (Int32) → (Int32) → (Nat → Int32) → (Nat → Int32) → (Nat → Int32) → (Nat → Int32) → (Nat → Int32) → (Nat → Int32) → Prop) : Prop := (wp_X12_looks k_s k_fallen k_held k_stands (fun (fallen_1 : Nat → Int32) (held_1 : Nat → Int32) (stands_1 : Nat → Int32) => (∃ n, wl_X12_best_11 k_s k_stamp Q fallen_1 held_1 stands_1 n (-5) (nI 0) (nI 0) k_read k_spot k_isWrong k_open k_act k_letBy k_letStamp k_falling)))
set_option maxHeartbeats 4000000 in
set_option maxRecDepth 100000 in
theorem c_X12_best {l : Launch} {D : va_G} {cI cZ cJ : ClassId} {h : Nat} {ad : Nat → Nat} {sz : Nat} {k_thrown : Int32} {k_s : Nat → Int32} {k_image : Nat → Int32} {k_hasImage : Int32} {k_steps : Nat → Int32} {k_read : Int32} {k_spot : Int32} {k_isWrong : Int32} {k_open : Int32} {k_act : Int32} {k_letBy : Nat → Int32} {k_letStamp : Nat → Int32} {k_stamp : Int32} {k_fallen : Nat → Int32} {k_held : Nat → Int32} {k_stands : Nat → Int32} {k_falling : Nat → Int32} {k_away : Nat → Int32} {k_round : Nat → Int32} {k_rests : Nat → Int64} {k_may : Nat → Int32} {k_next : Nat → Int32} {k_could : Nat → Int32} {k_couldNight : Nat → Int32} {k_night : Int32} {k_seats : Nat → Int32}  {Q : Int32 → (Int32) → (Int32) → (Int32) → (Int32) → (Int32) → (Nat → Int32) → (Nat → Int32) → (Nat → Int32) → (Nat → Int32) → (Nat → Int32) → (Nat → Int32) → Prop} (hw : wp_X12_best k_s k_read k_spot k_isWrong k_open k_act k_letBy k_letStamp k_stamp k_fallen k_held k_stands k_falling Q) : Met l yX12_best (Cond.code yX12_best cX12_best 5 (some .int) :: wsG) ({ frames := 36, cells := 0, slots := 0, locals := 824 } : Room) (preW D (tyM cI cZ cJ) (wM cI cZ cJ h ad k_thrown k_s k_image k_hasImage k_steps k_read k_spot k_isWrong k_open k_act k_letBy k_letStamp k_stamp k_fallen k_held k_stands k_falling k_away k_round k_rests k_may k_next k_could k_couldNight k_night k_seats) sz [.ref h]) (qi11 D (tyM cI cZ cJ) (va_A (wM cI cZ cJ h ad k_thrown k_s k_image k_hasImage k_steps k_read k_spot k_isWrong k_open k_act k_letBy k_letStamp k_stamp k_fallen k_held k_stands k_falling k_away k_round k_rests k_may k_next k_could k_couldNight k_night k_seats) sz) Q (fun k_read' k_spot' k_isWrong' k_open' k_act' k_letBy' k_letStamp' k_fallen' k_held' k_stands' k_falling' => (wM cI cZ cJ h ad k_thrown k_s k_image k_hasImage k_steps k_read' k_spot' k_isWrong' k_open' k_act' k_letBy' k_letStamp' k_stamp k_fallen' k_held' k_stands' k_falling' k_away k_round k_rests k_may k_next k_could k_couldNight k_night k_seats))) 0 0 (va_A (wM cI cZ cJ h ad k_thrown k_s k_image k_hasImage k_steps k_read k_spot k_isWrong k_open k_act k_letBy k_letStamp k_stamp k_fallen k_held k_stands k_falling k_away k_round k_rests k_may k_next k_could k_couldNight k_night k_seats) sz) := by
  refine st_met (cc := cX12_best) (maxL := 5) (ret := (some .int)) (lv := [(0, .ref h)]) (Qc := fun A => qi11 D (tyM cI cZ cJ) A Q (fun k_read' k_spot' k_isWrong' k_open' k_act' k_letBy' k_letStamp' k_fallen' k_held' k_stands' k_falling' => (wM cI cZ cJ h ad k_thrown k_s k_image k_hasImage k_steps k_read' k_spot' k_isWrong' k_open' k_act' k_letBy' k_letStamp' k_stamp k_fallen' k_held' k_stands' k_falling' k_away k_round k_rests k_may k_next k_could k_couldNight k_night k_seats))) (by decide) rfl (Nat.le_of_ble_eq_true rfl) rfl ?_
  intro p e s m below meth c ls A R args QQ H locs C hr hlk hnm hK hX hsz hl hO hR hQQ
  have hx := C.1
  have hb := C.2.1
  have hown := C.2.2.2.1
  have hts := C.2.2.2.2
  have hin : ∀ w ∈ u_ws RX12 TX12 26, w ∈ (Cond.code yX12_best cX12_best 5 (some .int) :: wsG) := fun w h9 => List.mem_cons_of_mem _ (inG12 w h9)
  have lk_s := hts (Cond.fieldLink RX12 7 "FreeCityModel" "s" "[I") (List.mem_cons_of_mem _ qw5_207)
  unfold wp_X12_best at hw
  refine lv_aload_n hx hb dX12_best_0 rfl (lv_at hl 0 rfl) ?_
  refine cVv3 (As := []) (rest := []) C hK hX hO (c_X12_looks (l := l) hw) (cwV 0 hts gd_X12_169 rfl rfl rfl hd_X12_looks (rok hR (Nat.le_of_ble_eq_true rfl) (Nat.le_of_ble_eq_true rfl))) (ci := 12) (q0 := 0) rfl rfl rfl rfl hl.1 rfl (Nat.le_of_ble_eq_true rfl) dX12_best_1 ⟨Nat.zero_le _, Nat.zero_le _⟩ (fun fallen_1 held_1 stands_1 H locs hw hO => ?_)
  refine lv_bipush (v := (-5)) hx hb dX12_best_4 (by decide) ?_
  refine lv_istore_n (lv' := [(1, .int (-5)), (0, .ref h)]) hx hb dX12_best_6 rfl hl (by decide) rfl (fun ls hl => ?_)
  refine lv_iconst (v := (nI 0)) hx hb dX12_best_7 (by decide) ?_
  refine lv_istore_n (lv' := [(2, .int (nI 0)), (1, .int (-5)), (0, .ref h)]) hx hb dX12_best_8 rfl hl (by decide) rfl (fun ls hl => ?_)
  refine lv_iconst (v := (nI 0)) hx hb dX12_best_9 (by decide) ?_
  refine lv_istore_n (lv' := [(3, .int (nI 0)), (2, .int (nI 0)), (1, .int (-5)), (0, .ref h)]) hx hb dX12_best_10 rfl hl (by decide) rfl (fun ls hl => ?_)
  obtain ⟨n_11, hw⟩ := hw
  have b_11 : ∀ (L_11 : Int32 → Int32 → Int32 → Int32 → Int32 → Int32 → Int32 → Int32 → (Nat → Int32) → (Nat → Int32) → (Nat → Int32) → Prop) (ih_11 : ∀ (v1_11 : Int32) (v2_11 : Int32) (v3_11 : Int32) (read_11 : Int32) (spot_11 : Int32) (isWrong_11 : Int32) (open_11 : Int32) (act_11 : Int32) (letBy_11 : Nat → Int32) (letStamp_11 : Nat → Int32) (falling_11 : Nat → Int32) (H : Heap) (locs : List Loc) (ls : Array Slot), okW D A s.heap H locs (wM cI cZ cJ h ad k_thrown k_s k_image k_hasImage k_steps read_11 spot_11 isWrong_11 open_11 act_11 letBy_11 letStamp_11 k_stamp fallen_1 held_1 stands_1 falling_11 k_away k_round k_rests k_may k_next k_could k_couldNight k_night k_seats) → lv_has ls 5 [(0, .ref h), (1, .int v1_11), (2, .int v2_11), (3, .int v3_11)] → L_11 v1_11 v2_11 v3_11 read_11 spot_11 isWrong_11 open_11 act_11 letBy_11 letStamp_11 falling_11 → W p l e R s m args below meth c H locs 0 0 QQ (F0 m 11 ls [])) (v1_11 : Int32) (v2_11 : Int32) (v3_11 : Int32) (read_11 : Int32) (spot_11 : Int32) (isWrong_11 : Int32) (open_11 : Int32) (act_11 : Int32) (letBy_11 : Nat → Int32) (letStamp_11 : Nat → Int32) (falling_11 : Nat → Int32) (H : Heap) (locs : List Loc) (ls : Array Slot), okW D A s.heap H locs (wM cI cZ cJ h ad k_thrown k_s k_image k_hasImage k_steps read_11 spot_11 isWrong_11 open_11 act_11 letBy_11 letStamp_11 k_stamp fallen_1 held_1 stands_1 falling_11 k_away k_round k_rests k_may k_next k_could k_couldNight k_night k_seats) → lv_has ls 5 [(0, .ref h), (1, .int v1_11), (2, .int v2_11), (3, .int v3_11)] → wb_X12_best_11 k_s k_stamp Q fallen_1 held_1 stands_1 L_11 v1_11 v2_11 v3_11 read_11 spot_11 isWrong_11 open_11 act_11 letBy_11 letStamp_11 falling_11 → W p l e R s m args below meth c H locs 0 0 QQ (F0 m 11 ls []) := by
    intro L_11 ih_11 v1_11 v2_11 v3_11 read_11 spot_11 isWrong_11 open_11 act_11 letBy_11 letStamp_11 falling_11 H locs ls hO hl hw
    unfold wb_X12_best_11 at hw
    refine lv_iload_n hx hb dX12_best_11 rfl (lv_at hl 3 rfl) ?_
    refine lv_iconst (v := (nI 1)) hx hb dX12_best_12 (by decide) ?_
    refine lv_aload_n hx hb dX12_best_13 rfl (lv_at hl 0 rfl) ?_
    refine gM_s C hin hK lk_s hO dX12_best_14 ?_
    refine lv_bipush (v := (nI 8)) hx hb dX12_best_17 (by decide) ?_
    refine ldM_s C hK hO (inK 8 6700 (by decide) (by decide)) (clK 8 (by decide)) dX12_best_19 ?_
    refine lv_ishl hx hb dX12_best_20 ?_
    refine lv_icmp_ge (tgt := 69) hx hb dX12_best_21 (by decide) (fun q_21 => ?_) (fun q_21 => ?_)
    · have hw := hw.1 q_21
      refine lv_iload_n hx hb dX12_best_69 rfl (lv_at hl 1 rfl) ?_
      exact ri11 hQQ hx hb hr hlk hK hO hw dX12_best_70
    · have hw := hw.2 q_21
      refine lv_aload_n hx hb dX12_best_24 rfl (lv_at hl 0 rfl) ?_
      refine lv_iload_n hx hb dX12_best_25 rfl (lv_at hl 3 rfl) ?_
      refine cVi1 (As := [.int v3_11]) (rest := []) C hK hX hO (c_X12_fallsBy (l := l) hw) (cwV 1 hts gd_X12_262 rfl rfl rfl hd_X12_fallsBy (rok hR (Nat.le_of_ble_eq_true rfl) (Nat.le_of_ble_eq_true rfl))) (ci := 12) (q0 := 0) rfl rfl rfl rfl hl.1 rfl (Nat.le_of_ble_eq_true rfl) dX12_best_26 ⟨Nat.zero_le _, Nat.zero_le _⟩ (fun r_26 falling_26 H locs hw hO => ?_)
      refine lv_istore (lv' := [(4, .int r_26), (0, .ref h), (1, .int v1_11), (2, .int v2_11), (3, .int v3_11)]) hx hb dX12_best_29 hl (by decide) rfl (fun ls hl => ?_)
      refine lv_aload_n hx hb dX12_best_31 rfl (lv_at hl 1 rfl) ?_
      refine lv_iload_n hx hb dX12_best_32 rfl (lv_at hl 4 rfl) ?_
      refine cVi7 (As := [.int v3_11]) (rest := []) C hK hX hO (c_X12_metBy (l := l) hw) (cwV 1 hts gd_X12_259 rfl rfl rfl hd_X12_metBy (rok hR (Nat.le_of_ble_eq_true rfl) (Nat.le_of_ble_eq_true rfl))) (ci := 12) (q0 := 0) rfl rfl rfl rfl hl.1 rfl (Nat.le_of_ble_eq_true rfl) dX12_best_33 ⟨Nat.zero_le _, Nat.zero_le _⟩ (fun r_33 read_33 spot_33 isWrong_33 open_33 act_33 letBy_33 letStamp_33 H locs hw hO => ?_)
      refine lv_aload_n hx hb dX12_best_36 rfl (lv_at hl 1 rfl) ?_
      refine gM_s C hin hK lk_s hO dX12_best_37 ?_
      refine lv_bipush (v := (nI 9)) hx hb dX12_best_40 (by decide) ?_
      refine ldM_s C hK hO (inK 9 6700 (by decide) (by decide)) (clK 9 (by decide)) dX12_best_42 ?_
      have m_63 : ∀ (x1_63 : Int32) (x2_63 : Int32) (H : Heap) (locs : List Loc) (ls : Array Slot), x1_63 = (if r_33 = (k_s 9) then (if v1_11 = (-5) then v3_11 else (if v2_11 ≤ r_26 then v1_11 else v3_11)) else v1_11) → x2_63 = (if r_33 = (k_s 9) then (if v1_11 = (-5) then r_26 else (if v2_11 ≤ r_26 then v2_11 else r_26)) else v2_11) → okW D A s.heap H locs (wM cI cZ cJ h ad k_thrown k_s k_image k_hasImage k_steps read_33 spot_33 isWrong_33 open_33 act_33 letBy_33 letStamp_33 k_stamp fallen_1 held_1 stands_1 falling_26 k_away k_round k_rests k_may k_next k_could k_couldNight k_night k_seats) → lv_has ls 5 [(0, .ref h), (1, .int x1_63), (2, .int x2_63), (3, .int v3_11)] → W p l e R s m args below meth c H locs 0 0 QQ (F0 m 63 ls []) := by
        intro x1_63 x2_63 H locs ls ex1_63 ex2_63 hO hl
        have hw := hw x1_63 ex1_63
        have hw := hw x2_63 ex2_63
        refine lv_iinc (v := (v3_11 + (nI 1))) (lv' := [(3, .int (v3_11 + (nI 1))), (0, .ref h), (1, .int x1_63), (2, .int x2_63)]) hx hb dX12_best_63 hl (k := 3) rfl (iinc_1 _) (by decide) rfl (fun ls hl => ?_)
        refine lv_goto (tgt := 11) hx hb dX12_best_66 (by decide) ?_
        exact ih_11 x1_63 x2_63 (v3_11 + (nI 1)) read_33 spot_33 isWrong_33 open_33 act_33 letBy_33 letStamp_33 falling_26 _ _ _ hO (lv_sub hl [1, 2, 3, 0] rfl) hw
      refine lv_icmp_ne (tgt := 63) hx hb dX12_best_43 (by decide) (fun q_43 => ?_) (fun q_43 => ?_)
      · have hl := lv_sub hl [1, 2, 3, 4] rfl (l' := [(0, .ref h), (1, .int v1_11), (2, .int v2_11), (3, .int v3_11)])
        exact m_63 _ _ _ _ _ (by rw [if_neg q_43]) (by rw [if_neg q_43]) hO hl
      · refine lv_iload_n hx hb dX12_best_46 rfl (lv_at hl 2 rfl) ?_
        refine lv_bipush (v := (-5)) hx hb dX12_best_47 (by decide) ?_
        refine lv_icmp_eq (tgt := 58) hx hb dX12_best_49 (by decide) (fun q_49 => ?_) (fun q_49 => ?_)
        · refine lv_iload_n hx hb dX12_best_58 rfl (lv_at hl 4 rfl) ?_
          refine lv_istore_n (lv' := [(1, .int v3_11), (4, .int r_26), (0, .ref h), (2, .int v2_11), (3, .int v3_11)]) hx hb dX12_best_59 rfl hl (by decide) rfl (fun ls hl => ?_)
          refine lv_iload hx hb dX12_best_60 (lv_at hl 1 rfl) ?_
          refine lv_istore_n (lv' := [(2, .int r_26), (1, .int v3_11), (4, .int r_26), (0, .ref h), (3, .int v3_11)]) hx hb dX12_best_62 rfl hl (by decide) rfl (fun ls hl => ?_)
          have hl := lv_sub hl [3, 1, 0, 4] rfl (l' := [(0, .ref h), (1, .int v3_11), (2, .int r_26), (3, .int v3_11)])
          exact m_63 _ _ _ _ _ (by rw [if_pos q_43, if_pos q_49]) (by rw [if_pos q_43, if_pos q_49]) hO hl
        · refine lv_iload hx hb dX12_best_52 (lv_at hl 0 rfl) ?_
          refine lv_iload_n hx hb dX12_best_54 rfl (lv_at hl 3 rfl) ?_
          refine lv_icmp_ge (tgt := 63) hx hb dX12_best_55 (by decide) (fun q_55 => ?_) (fun q_55 => ?_)
          · have hl := lv_sub hl [1, 2, 3, 4] rfl (l' := [(0, .ref h), (1, .int v1_11), (2, .int v2_11), (3, .int v3_11)])
            exact m_63 _ _ _ _ _ (by rw [if_pos q_43, if_neg q_49, if_pos q_55]) (by rw [if_pos q_43, if_neg q_49, if_pos q_55]) hO hl
          · refine lv_iload_n hx hb dX12_best_58 rfl (lv_at hl 4 rfl) ?_
            refine lv_istore_n (lv' := [(1, .int v3_11), (4, .int r_26), (0, .ref h), (2, .int v2_11), (3, .int v3_11)]) hx hb dX12_best_59 rfl hl (by decide) rfl (fun ls hl => ?_)
            refine lv_iload hx hb dX12_best_60 (lv_at hl 1 rfl) ?_
            refine lv_istore_n (lv' := [(2, .int r_26), (1, .int v3_11), (4, .int r_26), (0, .ref h), (3, .int v3_11)]) hx hb dX12_best_62 rfl hl (by decide) rfl (fun ls hl => ?_)
            have hl := lv_sub hl [3, 1, 0, 4] rfl (l' := [(0, .ref h), (1, .int v3_11), (2, .int r_26), (3, .int v3_11)])
            exact m_63 _ _ _ _ _ (by rw [if_pos q_43, if_neg q_49, if_neg q_55]) (by rw [if_pos q_43, if_neg q_49, if_neg q_55]) hO hl
  have l_11 : ∀ (n : Nat) (v1_11 : Int32) (v2_11 : Int32) (v3_11 : Int32) (read_11 : Int32) (spot_11 : Int32) (isWrong_11 : Int32) (open_11 : Int32) (act_11 : Int32) (letBy_11 : Nat → Int32) (letStamp_11 : Nat → Int32) (falling_11 : Nat → Int32) (H : Heap) (locs : List Loc) (ls : Array Slot), okW D A s.heap H locs (wM cI cZ cJ h ad k_thrown k_s k_image k_hasImage k_steps read_11 spot_11 isWrong_11 open_11 act_11 letBy_11 letStamp_11 k_stamp fallen_1 held_1 stands_1 falling_11 k_away k_round k_rests k_may k_next k_could k_couldNight k_night k_seats) → lv_has ls 5 [(0, .ref h), (1, .int v1_11), (2, .int v2_11), (3, .int v3_11)] → wl_X12_best_11 k_s k_stamp Q fallen_1 held_1 stands_1 n v1_11 v2_11 v3_11 read_11 spot_11 isWrong_11 open_11 act_11 letBy_11 letStamp_11 falling_11 → W p l e R s m args below meth c H locs 0 0 QQ (F0 m 11 ls []) := by
    intro n
    induction n with
    | zero => intro v1_11 v2_11 v3_11 read_11 spot_11 isWrong_11 open_11 act_11 letBy_11 letStamp_11 falling_11 H locs ls hO hl hw; exact False.elim hw
    | succ n ih => exact b_11 _ ih
  exact l_11 n_11 (-5) (nI 0) (nI 0) k_read k_spot k_isWrong k_open k_act k_letBy k_letStamp k_falling _ _ _ hO (lv_sub hl [3, 2, 1, 0] rfl) hw
