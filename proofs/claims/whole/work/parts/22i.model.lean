def wb_X12_isUnder_2 (p2 : Int32) (k_s : Nat → Int32) (Q : Int32 → Prop) (L_2 : Int32 → Prop) (v3_2 : Int32) : Prop := (((¬ v3_2 = (-1) ∧ ¬ v3_2 = p2) → (vp_in ((nI 140) + v3_2) 6700 ∧ (∀ x_21 : Int32, x_21 = (k_s (((nI 140) + v3_2)).toNatClampNeg) → (L_2 x_21)))) ∧ (¬ ((¬ v3_2 = (-1) ∧ ¬ v3_2 = p2)) → (∀ y0_36 : Int32, y0_36 = (if v3_2 = p2 then (nI 1) else (nI 0)) → (Q y0_36))))
def wl_X12_isUnder_2 (p2 : Int32) (k_s : Nat → Int32) (Q : Int32 → Prop) : Nat → Int32 → Prop
  | 0, _ => False
  | n + 1, v3_2 => wb_X12_isUnder_2 p2 k_s Q (wl_X12_isUnder_2 p2 k_s Q n) v3_2
def wp_X12_isUnder (p1 : Int32) (p2 : Int32) (k_s : Nat → Int32) (Q : Int32 → Prop) : Prop := (∃ n, wl_X12_isUnder_2 p2 k_s Q n p1)
set_option maxHeartbeats 4000000 in
set_option maxRecDepth 100000 in
theorem c_X12_isUnder {l : Launch} {D : va_G} {cI cZ cJ : ClassId} {h : Nat} {ad : Nat → Nat} {sz : Nat} {k_thrown : Int32} {k_s : Nat → Int32} {k_image : Nat → Int32} {k_hasImage : Int32} {k_steps : Nat → Int32} {k_read : Int32} {k_spot : Int32} {k_isWrong : Int32} {k_open : Int32} {k_act : Int32} {k_letBy : Nat → Int32} {k_letStamp : Nat → Int32} {k_stamp : Int32} {k_fallen : Nat → Int32} {k_held : Nat → Int32} {k_stands : Nat → Int32} {k_falling : Nat → Int32} {k_away : Nat → Int32} {k_round : Nat → Int32} {k_rests : Nat → Int64} {k_may : Nat → Int32} {k_next : Nat → Int32} {k_could : Nat → Int32} {k_couldNight : Nat → Int32} {k_night : Int32} {k_seats : Nat → Int32} {p1 : Int32} {p2 : Int32} {Q : Int32 → Prop} (hw : wp_X12_isUnder p1 p2 k_s Q) : Met l yX12_isUnder (Cond.code yX12_isUnder cX12_isUnder 4 (some .boolean) :: wsG) ({ frames := 0, cells := 0, slots := 0, locals := 0 } : Room) (preW D (tyM cI cZ cJ) (wM cI cZ cJ h ad k_thrown k_s k_image k_hasImage k_steps k_read k_spot k_isWrong k_open k_act k_letBy k_letStamp k_stamp k_fallen k_held k_stands k_falling k_away k_round k_rests k_may k_next k_could k_couldNight k_night k_seats) sz [.ref h, .int p1, .int p2]) (qi0 D (tyM cI cZ cJ) (va_A (wM cI cZ cJ h ad k_thrown k_s k_image k_hasImage k_steps k_read k_spot k_isWrong k_open k_act k_letBy k_letStamp k_stamp k_fallen k_held k_stands k_falling k_away k_round k_rests k_may k_next k_could k_couldNight k_night k_seats) sz) Q (wM cI cZ cJ h ad k_thrown k_s k_image k_hasImage k_steps k_read k_spot k_isWrong k_open k_act k_letBy k_letStamp k_stamp k_fallen k_held k_stands k_falling k_away k_round k_rests k_may k_next k_could k_couldNight k_night k_seats)) 0 0 (va_A (wM cI cZ cJ h ad k_thrown k_s k_image k_hasImage k_steps k_read k_spot k_isWrong k_open k_act k_letBy k_letStamp k_stamp k_fallen k_held k_stands k_falling k_away k_round k_rests k_may k_next k_could k_couldNight k_night k_seats) sz) := by
  refine st_met (cc := cX12_isUnder) (maxL := 4) (ret := (some .boolean)) (lv := [(0, .ref h), (1, .int p1), (2, .int p2)]) (Qc := fun A => qi0 D (tyM cI cZ cJ) A Q (wM cI cZ cJ h ad k_thrown k_s k_image k_hasImage k_steps k_read k_spot k_isWrong k_open k_act k_letBy k_letStamp k_stamp k_fallen k_held k_stands k_falling k_away k_round k_rests k_may k_next k_could k_couldNight k_night k_seats)) (by decide) rfl (Nat.le_of_ble_eq_true rfl) rfl ?_
  intro p e s m below meth c ls A R args QQ H locs C hr hlk hnm hK hX hsz hl hO hR hQQ
  have hx := C.1
  have hb := C.2.1
  have hown := C.2.2.2.1
  have hts := C.2.2.2.2
  have hin : ∀ w ∈ u_ws RX12 TX12 26, w ∈ (Cond.code yX12_isUnder cX12_isUnder 4 (some .boolean) :: wsG) := fun w h9 => List.mem_cons_of_mem _ (inG12 w h9)
  have lk_s := hts (Cond.fieldLink RX12 7 "FreeCityModel" "s" "[I") (List.mem_cons_of_mem _ qw5_207)
  unfold wp_X12_isUnder at hw
  refine lv_iload_n hx hb dX12_isUnder_0 rfl (lv_at hl 1 rfl) ?_
  refine lv_istore_n (lv' := [(3, .int p1), (0, .ref h), (1, .int p1), (2, .int p2)]) hx hb dX12_isUnder_1 rfl hl (by decide) rfl (fun ls hl => ?_)
  obtain ⟨n_2, hw⟩ := hw
  have b_2 : ∀ (L_2 : Int32 → Prop) (ih_2 : ∀ (v3_2 : Int32) (H : Heap) (locs : List Loc) (ls : Array Slot), okW D A s.heap H locs (wM cI cZ cJ h ad k_thrown k_s k_image k_hasImage k_steps k_read k_spot k_isWrong k_open k_act k_letBy k_letStamp k_stamp k_fallen k_held k_stands k_falling k_away k_round k_rests k_may k_next k_could k_couldNight k_night k_seats) → lv_has ls 4 [(0, .ref h), (2, .int p2), (3, .int v3_2)] → L_2 v3_2 → W p l e R s m args below meth c H locs 0 0 QQ (F0 m 2 ls [])) (v3_2 : Int32) (H : Heap) (locs : List Loc) (ls : Array Slot), okW D A s.heap H locs (wM cI cZ cJ h ad k_thrown k_s k_image k_hasImage k_steps k_read k_spot k_isWrong k_open k_act k_letBy k_letStamp k_stamp k_fallen k_held k_stands k_falling k_away k_round k_rests k_may k_next k_could k_couldNight k_night k_seats) → lv_has ls 4 [(0, .ref h), (2, .int p2), (3, .int v3_2)] → wb_X12_isUnder_2 p2 k_s Q L_2 v3_2 → W p l e R s m args below meth c H locs 0 0 QQ (F0 m 2 ls []) := by
    intro L_2 ih_2 v3_2 H locs ls hO hl hw
    unfold wb_X12_isUnder_2 at hw
    refine lv_iload_n hx hb dX12_isUnder_2 rfl (lv_at hl 2 rfl) ?_
    refine lv_iconst (v := (-1)) hx hb dX12_isUnder_3 (by decide) ?_
    have a_12 : (¬ v3_2 = (-1) ∧ ¬ v3_2 = p2) → ∀ (H : Heap) (locs : List Loc) (ls : Array Slot), okW D A s.heap H locs (wM cI cZ cJ h ad k_thrown k_s k_image k_hasImage k_steps k_read k_spot k_isWrong k_open k_act k_letBy k_letStamp k_stamp k_fallen k_held k_stands k_falling k_away k_round k_rests k_may k_next k_could k_couldNight k_night k_seats) → lv_has ls 4 [(0, .ref h), (2, .int p2), (3, .int v3_2)] → W p l e R s m args below meth c H locs 0 0 QQ (F0 m 12 ls []) := by
      intro cf H locs ls hO hl
      have hw := hw.1 cf
      refine lv_aload_n hx hb dX12_isUnder_12 rfl (lv_at hl 0 rfl) ?_
      refine gM_s C hin hK lk_s hO dX12_isUnder_13 ?_
      refine lv_sipush (v := (nI 140)) hx hb dX12_isUnder_16 (by decide) ?_
      refine lv_iload_n hx hb dX12_isUnder_19 rfl (lv_at hl 2 rfl) ?_
      refine lv_iadd hx hb dX12_isUnder_20 ?_
      obtain ⟨o_21, hw⟩ := hw
      refine ldM_s C hK hO o_21 rfl dX12_isUnder_21 ?_
      refine lv_topi (fun x_21 ex_21 => ?_)
      have hw := hw x_21 ex_21
      refine lv_istore_n (lv' := [(3, .int x_21), (0, .ref h), (2, .int p2)]) hx hb dX12_isUnder_22 rfl hl (by decide) rfl (fun ls hl => ?_)
      refine lv_goto (tgt := 2) hx hb dX12_isUnder_23 (by decide) ?_
      exact ih_2 x_21 _ _ _ hO (lv_sub hl [1, 2, 0] rfl) hw
    have a_26 : ¬ ((¬ v3_2 = (-1) ∧ ¬ v3_2 = p2)) → ∀ (H : Heap) (locs : List Loc) (ls : Array Slot), okW D A s.heap H locs (wM cI cZ cJ h ad k_thrown k_s k_image k_hasImage k_steps k_read k_spot k_isWrong k_open k_act k_letBy k_letStamp k_stamp k_fallen k_held k_stands k_falling k_away k_round k_rests k_may k_next k_could k_couldNight k_night k_seats) → lv_has ls 4 [(2, .int p2), (3, .int v3_2)] → W p l e R s m args below meth c H locs 0 0 QQ (F0 m 26 ls []) := by
      intro cf H locs ls hO hl
      have hw := hw.2 cf
      refine lv_iload_n hx hb dX12_isUnder_26 rfl (lv_at hl 1 rfl) ?_
      refine lv_iload_n hx hb dX12_isUnder_27 rfl (lv_at hl 0 rfl) ?_
      have m_36 : ∀ (y0_36 : Int32) (H : Heap) (locs : List Loc) (ls : Array Slot), y0_36 = (if v3_2 = p2 then (nI 1) else (nI 0)) → okW D A s.heap H locs (wM cI cZ cJ h ad k_thrown k_s k_image k_hasImage k_steps k_read k_spot k_isWrong k_open k_act k_letBy k_letStamp k_stamp k_fallen k_held k_stands k_falling k_away k_round k_rests k_may k_next k_could k_couldNight k_night k_seats) → lv_has ls 4 [] → W p l e R s m args below meth c H locs 0 0 QQ (F0 m 36 ls [.int y0_36]) := by
        intro y0_36 H locs ls ey0_36 hO hl
        have hw := hw y0_36 ey0_36
        exact rz0 hQQ hx hb hr hlk hK hO (by rw [ey0_36]; exact (zb_ite zb1 zb0)) hw dX12_isUnder_36
      refine lv_icmp_ne (tgt := 35) hx hb dX12_isUnder_28 (by decide) (fun q_28 => ?_) (fun q_28 => ?_)
      · refine lv_iconst (v := (nI 0)) hx hb dX12_isUnder_35 (by decide) ?_
        have hl := lv_sub hl [] rfl (l' := [])
        exact m_36 _ _ _ _ (by rw [if_neg q_28]) hO hl
      · refine lv_iconst (v := (nI 1)) hx hb dX12_isUnder_31 (by decide) ?_
        refine lv_goto (tgt := 36) hx hb dX12_isUnder_32 (by decide) ?_
        have hl := lv_sub hl [] rfl (l' := [])
        exact m_36 _ _ _ _ (by rw [if_pos q_28]) hO hl
    refine lv_icmp_eq (tgt := 26) hx hb dX12_isUnder_4 (by decide) (fun q_4 => ?_) (fun q_4 => ?_)
    · have hl := lv_sub hl [1, 2] rfl (l' := [(2, .int p2), (3, .int v3_2)])
      exact a_26 (fun h => h.1 q_4) _ _ _ hO hl
    · refine lv_iload_n hx hb dX12_isUnder_7 rfl (lv_at hl 2 rfl) ?_
      refine lv_iload_n hx hb dX12_isUnder_8 rfl (lv_at hl 1 rfl) ?_
      refine lv_icmp_eq (tgt := 26) hx hb dX12_isUnder_9 (by decide) (fun q_9 => ?_) (fun q_9 => ?_)
      · have hl := lv_sub hl [1, 2] rfl (l' := [(2, .int p2), (3, .int v3_2)])
        exact a_26 (fun h => ((fun h => h q_9)) h.2) _ _ _ hO hl
      · have hl := lv_sub hl [0, 1, 2] rfl (l' := [(0, .ref h), (2, .int p2), (3, .int v3_2)])
        exact a_12 ⟨q_4, q_9⟩ _ _ _ hO hl
  have l_2 : ∀ (n : Nat) (v3_2 : Int32) (H : Heap) (locs : List Loc) (ls : Array Slot), okW D A s.heap H locs (wM cI cZ cJ h ad k_thrown k_s k_image k_hasImage k_steps k_read k_spot k_isWrong k_open k_act k_letBy k_letStamp k_stamp k_fallen k_held k_stands k_falling k_away k_round k_rests k_may k_next k_could k_couldNight k_night k_seats) → lv_has ls 4 [(0, .ref h), (2, .int p2), (3, .int v3_2)] → wl_X12_isUnder_2 p2 k_s Q n v3_2 → W p l e R s m args below meth c H locs 0 0 QQ (F0 m 2 ls []) := by
    intro n
    induction n with
    | zero => intro v3_2 H locs ls hO hl hw; exact False.elim hw
    | succ n ih => exact b_2 _ ih
  exact l_2 n_2 p1 _ _ _ hO (lv_sub hl [1, 3, 0] rfl) hw
theorem gd_X12_225 {a : Cond} : GoodIn (a :: wsG) (wsV RX12 225 RX12 yX12_isUnder (Cond.code yX12_isUnder cX12_isUnder 4 (some .boolean) :: wsG)) := gdV qw7_75 qw7_77 qs_64 qw1_12 qw7_78
theorem hd_X12_isUnder : yX12_isUnder.cls = RX12 ∧ yX12_isUnder.cls ≠ "java/lang/invoke/MethodHandle" ∧ yX12_isUnder.cls ≠ "java/lang/invoke/VarHandle" ∧ (parseMethodDescriptor yX12_isUnder.desc).map (fun d => d.parameters.length) = some 2 := by decide +kernel
def wk_X12_left_108 (p1 : Int32) (p2 : Int32) (k_s : Nat → Int32) (v3_44 : Int32) (v4_44 : Int32) (v5_44 : Int32) (L_44 : Int32 → Int32 → Int32 → Prop) (t0_108 : Int32) : Prop := (((¬ t0_108 = 0 → (vp_in ((nI 190) + v5_44) 6700))) ∧ (∀ y1_131 : Int32, y1_131 = (if t0_108 = 0 then (nI 0) else (k_s (((nI 190) + v5_44)).toNatClampNeg)) → (((¬ t0_108 = 0 → ((p1 = (nI 2) → ((v4_44 = (-5) → (vp_in ((nI 72) + p2) 6700))))))) ∧ (∀ y0_170 : Int32, y0_170 = (if t0_108 = 0 then v4_44 else (if p1 = (nI 2) then (if v4_44 = (-5) then (if (v3_44 + y1_131) ≤ (k_s (((nI 72) + p2)).toNatClampNeg) then v4_44 else v5_44) else v4_44) else v4_44)) → (L_44 (v3_44 + y1_131) y0_170 (v5_44 + (nI 1)))))))
def wb_X12_left_44 (p1 : Int32) (p2 : Int32) (k_s : Nat → Int32) (Q : Int32 → Prop) (L_44 : Int32 → Int32 → Int32 → Prop) (v3_44 : Int32) (v4_44 : Int32) (v5_44 : Int32) : Prop := (((k_s 11) ≤ v5_44 → (((¬ p1 = 0 → ((p1 = (nI 1) → (vp_in ((nI 72) + p2) 6700))))) ∧ (∀ y0_207 : Int32, y0_207 = (if p1 = 0 then v3_44 else (if p1 = (nI 1) then ((k_s (((nI 72) + p2)).toNatClampNeg) - v3_44) else v4_44)) → (Q y0_207)))) ∧ (¬ (k_s 11) ≤ v5_44 → ((¬ p1 = 0 → (vp_in ((nI 150) + v5_44) 6700 ∧ (vp_in ((nI 130) + (k_s (((nI 150) + v5_44)).toNatClampNeg)) 6700 ∧ (∀ y0_108 : Int32, y0_108 = (if (k_s (((nI 130) + (k_s (((nI 150) + v5_44)).toNatClampNeg))).toNatClampNeg) = p2 then (nI 1) else (nI 0)) → (wk_X12_left_108 p1 p2 k_s v3_44 v4_44 v5_44 L_44 y0_108))))) ∧ (p1 = 0 → (vp_in ((nI 150) + v5_44) 6700 ∧ (wp_X12_isUnder (k_s (((nI 150) + v5_44)).toNatClampNeg) p2 k_s (fun (r_73 : Int32) => (wk_X12_left_108 p1 p2 k_s v3_44 v4_44 v5_44 L_44 r_73))))))))
def wl_X12_left_44 (p1 : Int32) (p2 : Int32) (k_s : Nat → Int32) (Q : Int32 → Prop) : Nat → Int32 → Int32 → Int32 → Prop
  | 0, _, _, _ => False
  | n + 1, v3_44, v4_44, v5_44 => wb_X12_left_44 p1 p2 k_s Q (wl_X12_left_44 p1 p2 k_s Q n) v3_44 v4_44 v5_44
def wk_X12_left_35 (p1 : Int32) (p2 : Int32) (k_s : Nat → Int32) (Q : Int32 → Prop)  : Prop := (∃ n, wl_X12_left_44 p1 p2 k_s Q n (nI 0) (-5) (nI 0))
def wp_X12_left (p1 : Int32) (p2 : Int32) (k_s : Nat → Int32) (Q : Int32 → Prop) : Prop := (((f_X12_in p1 (nI 0) (nI 2)) = 0 → (Q (-1))) ∧ (¬ (f_X12_in p1 (nI 0) (nI 2)) = 0 → ((¬ p1 = 0 → ((¬ (f_X12_in p2 (nI 0) (nI 2)) = 0 → (wk_X12_left_35 p1 p2 k_s Q)) ∧ ((f_X12_in p2 (nI 0) (nI 2)) = 0 → (Q (-1))))) ∧ (p1 = 0 → ((¬ (f_X12_isFirm k_s p2) = 0 → (wk_X12_left_35 p1 p2 k_s Q)) ∧ ((f_X12_isFirm k_s p2) = 0 → (Q (-1))))))))
set_option maxHeartbeats 4000000 in
set_option maxRecDepth 100000 in
theorem c_X12_left {l : Launch} {D : va_G} {cI cZ cJ : ClassId} {h : Nat} {ad : Nat → Nat} {sz : Nat} {k_thrown : Int32} {k_s : Nat → Int32} {k_image : Nat → Int32} {k_hasImage : Int32} {k_steps : Nat → Int32} {k_read : Int32} {k_spot : Int32} {k_isWrong : Int32} {k_open : Int32} {k_act : Int32} {k_letBy : Nat → Int32} {k_letStamp : Nat → Int32} {k_stamp : Int32} {k_fallen : Nat → Int32} {k_held : Nat → Int32} {k_stands : Nat → Int32} {k_falling : Nat → Int32} {k_away : Nat → Int32} {k_round : Nat → Int32} {k_rests : Nat → Int64} {k_may : Nat → Int32} {k_next : Nat → Int32} {k_could : Nat → Int32} {k_couldNight : Nat → Int32} {k_night : Int32} {k_seats : Nat → Int32} {p1 : Int32} {p2 : Int32} {Q : Int32 → Prop} (hw : wp_X12_left p1 p2 k_s Q) : Met l yX12_left (Cond.code yX12_left cX12_left 7 (some .int) :: wsG) ({ frames := 2, cells := 0, slots := 0, locals := 43 } : Room) (preW D (tyM cI cZ cJ) (wM cI cZ cJ h ad k_thrown k_s k_image k_hasImage k_steps k_read k_spot k_isWrong k_open k_act k_letBy k_letStamp k_stamp k_fallen k_held k_stands k_falling k_away k_round k_rests k_may k_next k_could k_couldNight k_night k_seats) sz [.ref h, .int p1, .int p2]) (qi0 D (tyM cI cZ cJ) (va_A (wM cI cZ cJ h ad k_thrown k_s k_image k_hasImage k_steps k_read k_spot k_isWrong k_open k_act k_letBy k_letStamp k_stamp k_fallen k_held k_stands k_falling k_away k_round k_rests k_may k_next k_could k_couldNight k_night k_seats) sz) Q (wM cI cZ cJ h ad k_thrown k_s k_image k_hasImage k_steps k_read k_spot k_isWrong k_open k_act k_letBy k_letStamp k_stamp k_fallen k_held k_stands k_falling k_away k_round k_rests k_may k_next k_could k_couldNight k_night k_seats)) 0 0 (va_A (wM cI cZ cJ h ad k_thrown k_s k_image k_hasImage k_steps k_read k_spot k_isWrong k_open k_act k_letBy k_letStamp k_stamp k_fallen k_held k_stands k_falling k_away k_round k_rests k_may k_next k_could k_couldNight k_night k_seats) sz) := by
  refine st_met (cc := cX12_left) (maxL := 7) (ret := (some .int)) (lv := [(0, .ref h), (1, .int p1), (2, .int p2)]) (Qc := fun A => qi0 D (tyM cI cZ cJ) A Q (wM cI cZ cJ h ad k_thrown k_s k_image k_hasImage k_steps k_read k_spot k_isWrong k_open k_act k_letBy k_letStamp k_stamp k_fallen k_held k_stands k_falling k_away k_round k_rests k_may k_next k_could k_couldNight k_night k_seats)) (by decide) rfl (Nat.le_of_ble_eq_true rfl) rfl ?_
  intro p e s m below meth c ls A R args QQ H locs C hr hlk hnm hK hX hsz hl hO hR hQQ
  have hx := C.1
  have hb := C.2.1
  have hown := C.2.2.2.1
  have hts := C.2.2.2.2
  have hin : ∀ w ∈ u_ws RX12 TX12 26, w ∈ (Cond.code yX12_left cX12_left 7 (some .int) :: wsG) := fun w h9 => List.mem_cons_of_mem _ (inG12 w h9)
  have lk_s := hts (Cond.fieldLink RX12 7 "FreeCityModel" "s" "[I") (List.mem_cons_of_mem _ qw5_207)
  unfold wp_X12_left at hw
  refine lv_iload_n hx hb dX12_left_0 rfl (lv_at hl 1 rfl) ?_
  refine lv_iconst (v := (nI 0)) hx hb dX12_left_1 (by decide) ?_
  refine lv_iconst (v := (nI 2)) hx hb dX12_left_2 (by decide) ?_
  refine cSi0 (As := [.int p1, .int (nI 0), .int (nI 2)]) (rest := []) C hK hX hO (c_X12_in (l := l)) (va_cwS 3 hts gd_X12_74 rfl rfl rfl hd_X12_in (rok hR (Nat.le_of_ble_eq_true rfl) (Nat.le_of_ble_eq_true rfl))) rfl hl.1 rfl (Nat.le_of_ble_eq_true rfl) dX12_left_3 ⟨Nat.zero_le _, Nat.zero_le _⟩ (fun r_3 H locs e_3 hO => ?_)
  subst e_3
  refine lv_if_eq (tgt := 33) hx hb dX12_left_6 (by decide) (fun q_6 => ?_) (fun q_6 => ?_)
  · have hw := hw.1 q_6
    refine lv_iconst (v := (-1)) hx hb dX12_left_33 (by decide) ?_
    exact ri0 hQQ hx hb hr hlk hK hO hw dX12_left_34
  · have hw := hw.2 q_6
    refine lv_iload_n hx hb dX12_left_9 rfl (lv_at hl 1 rfl) ?_
    have j_35 : ∀  (H : Heap) (locs : List Loc) (ls : Array Slot), okW D A s.heap H locs (wM cI cZ cJ h ad k_thrown k_s k_image k_hasImage k_steps k_read k_spot k_isWrong k_open k_act k_letBy k_letStamp k_stamp k_fallen k_held k_stands k_falling k_away k_round k_rests k_may k_next k_could k_couldNight k_night k_seats) → lv_has ls 7 [(0, .ref h), (1, .int p1), (2, .int p2)] → wk_X12_left_35 p1 p2 k_s Q  → W p l e R s m args below meth c H locs 0 0 QQ (F0 m 35 ls []) := by
      intro  H locs ls hO hl hw
      unfold wk_X12_left_35 at hw
      refine lv_iconst (v := (nI 0)) hx hb dX12_left_35 (by decide) ?_
      refine lv_istore_n (lv' := [(3, .int (nI 0)), (0, .ref h), (1, .int p1), (2, .int p2)]) hx hb dX12_left_36 rfl hl (by decide) rfl (fun ls hl => ?_)
      refine lv_bipush (v := (-5)) hx hb dX12_left_37 (by decide) ?_
      refine lv_istore (lv' := [(4, .int (-5)), (3, .int (nI 0)), (0, .ref h), (1, .int p1), (2, .int p2)]) hx hb dX12_left_39 hl (by decide) rfl (fun ls hl => ?_)
      refine lv_iconst (v := (nI 0)) hx hb dX12_left_41 (by decide) ?_
      refine lv_istore (lv' := [(5, .int (nI 0)), (4, .int (-5)), (3, .int (nI 0)), (0, .ref h), (1, .int p1), (2, .int p2)]) hx hb dX12_left_42 hl (by decide) rfl (fun ls hl => ?_)
      obtain ⟨n_44, hw⟩ := hw
      have b_44 : ∀ (L_44 : Int32 → Int32 → Int32 → Prop) (ih_44 : ∀ (v3_44 : Int32) (v4_44 : Int32) (v5_44 : Int32) (H : Heap) (locs : List Loc) (ls : Array Slot), okW D A s.heap H locs (wM cI cZ cJ h ad k_thrown k_s k_image k_hasImage k_steps k_read k_spot k_isWrong k_open k_act k_letBy k_letStamp k_stamp k_fallen k_held k_stands k_falling k_away k_round k_rests k_may k_next k_could k_couldNight k_night k_seats) → lv_has ls 7 [(0, .ref h), (1, .int p1), (2, .int p2), (3, .int v3_44), (4, .int v4_44), (5, .int v5_44)] → L_44 v3_44 v4_44 v5_44 → W p l e R s m args below meth c H locs 0 0 QQ (F0 m 44 ls [])) (v3_44 : Int32) (v4_44 : Int32) (v5_44 : Int32) (H : Heap) (locs : List Loc) (ls : Array Slot), okW D A s.heap H locs (wM cI cZ cJ h ad k_thrown k_s k_image k_hasImage k_steps k_read k_spot k_isWrong k_open k_act k_letBy k_letStamp k_stamp k_fallen k_held k_stands k_falling k_away k_round k_rests k_may k_next k_could k_couldNight k_night k_seats) → lv_has ls 7 [(0, .ref h), (1, .int p1), (2, .int p2), (3, .int v3_44), (4, .int v4_44), (5, .int v5_44)] → wb_X12_left_44 p1 p2 k_s Q L_44 v3_44 v4_44 v5_44 → W p l e R s m args below meth c H locs 0 0 QQ (F0 m 44 ls []) := by
        intro L_44 ih_44 v3_44 v4_44 v5_44 H locs ls hO hl hw
        unfold wb_X12_left_44 at hw
        refine lv_iload hx hb dX12_left_44 (lv_at hl 5 rfl) ?_
        refine lv_aload_n hx hb dX12_left_46 rfl (lv_at hl 0 rfl) ?_
        refine gM_s C hin hK lk_s hO dX12_left_47 ?_
        refine lv_bipush (v := (nI 11)) hx hb dX12_left_50 (by decide) ?_
        refine ldM_s C hK hO (inK 11 6700 (by decide) (by decide)) (clK 11 (by decide)) dX12_left_52 ?_
        refine lv_icmp_ge (tgt := 178) hx hb dX12_left_53 (by decide) (fun q_53 => ?_) (fun q_53 => ?_)
        · have hw := hw.1 q_53
          refine lv_iload_n hx hb dX12_left_178 rfl (lv_at hl 1 rfl) ?_
          obtain ⟨hs, hw⟩ := hw
          have m_207 : ∀ (y0_207 : Int32) (H : Heap) (locs : List Loc) (ls : Array Slot), y0_207 = (if p1 = 0 then v3_44 else (if p1 = (nI 1) then ((k_s (((nI 72) + p2)).toNatClampNeg) - v3_44) else v4_44)) → okW D A s.heap H locs (wM cI cZ cJ h ad k_thrown k_s k_image k_hasImage k_steps k_read k_spot k_isWrong k_open k_act k_letBy k_letStamp k_stamp k_fallen k_held k_stands k_falling k_away k_round k_rests k_may k_next k_could k_couldNight k_night k_seats) → lv_has ls 7 [] → W p l e R s m args below meth c H locs 0 0 QQ (F0 m 207 ls [.int y0_207]) := by
            intro y0_207 H locs ls ey0_207 hO hl
            have hw := hw y0_207 ey0_207
            exact ri0 hQQ hx hb hr hlk hK hO hw dX12_left_207
          refine lv_if_ne (tgt := 186) hx hb dX12_left_179 (by decide) (fun q_179 => ?_) (fun q_179 => ?_)
          · have hs := hs q_179
            refine lv_iload_n hx hb dX12_left_186 rfl (lv_at hl 1 rfl) ?_
            refine lv_iconst (v := (nI 1)) hx hb dX12_left_187 (by decide) ?_
            refine lv_icmp_ne (tgt := 205) hx hb dX12_left_188 (by decide) (fun q_188 => ?_) (fun q_188 => ?_)
            · refine lv_iload hx hb dX12_left_205 (lv_at hl 4 rfl) ?_
              have hl := lv_sub hl [] rfl (l' := [])
              exact m_207 _ _ _ _ (by rw [if_neg q_179, if_neg q_188]) hO hl
            · have hs := hs q_188
              have o_199 := hs
              refine lv_aload_n hx hb dX12_left_191 rfl (lv_at hl 0 rfl) ?_
              refine gM_s C hin hK lk_s hO dX12_left_192 ?_
              refine lv_bipush (v := (nI 72)) hx hb dX12_left_195 (by decide) ?_
              refine lv_iload_n hx hb dX12_left_197 rfl (lv_at hl 2 rfl) ?_
              refine lv_iadd hx hb dX12_left_198 ?_
              refine ldM_s C hK hO o_199 rfl dX12_left_199 ?_
              refine lv_iload_n hx hb dX12_left_200 rfl (lv_at hl 3 rfl) ?_
              refine lv_isub hx hb dX12_left_201 ?_
              refine lv_goto (tgt := 207) hx hb dX12_left_202 (by decide) ?_
              have hl := lv_sub hl [] rfl (l' := [])
              exact m_207 _ _ _ _ (by rw [if_neg q_179, if_pos q_188]) hO hl
          · refine lv_iload_n hx hb dX12_left_182 rfl (lv_at hl 3 rfl) ?_
            refine lv_goto (tgt := 207) hx hb dX12_left_183 (by decide) ?_
            have hl := lv_sub hl [] rfl (l' := [])
            exact m_207 _ _ _ _ (by rw [if_pos q_179]) hO hl
        · have hw := hw.2 q_53
          refine lv_iload_n hx hb dX12_left_56 rfl (lv_at hl 1 rfl) ?_
          have j_108 : ∀ (t0_108 : Int32) (H : Heap) (locs : List Loc) (ls : Array Slot), okW D A s.heap H locs (wM cI cZ cJ h ad k_thrown k_s k_image k_hasImage k_steps k_read k_spot k_isWrong k_open k_act k_letBy k_letStamp k_stamp k_fallen k_held k_stands k_falling k_away k_round k_rests k_may k_next k_could k_couldNight k_night k_seats) → lv_has ls 7 [(0, .ref h), (1, .int p1), (2, .int p2), (3, .int v3_44), (4, .int v4_44), (5, .int v5_44)] → wk_X12_left_108 p1 p2 k_s v3_44 v4_44 v5_44 L_44 t0_108 → W p l e R s m args below meth c H locs 0 0 QQ (F0 m 108 ls [.int t0_108]) := by
            intro t0_108 H locs ls hO hl hw
            unfold wk_X12_left_108 at hw
            refine lv_istore (lv' := [(6, .int t0_108), (0, .ref h), (1, .int p1), (2, .int p2), (3, .int v3_44), (4, .int v4_44), (5, .int v5_44)]) hx hb dX12_left_108 hl (by decide) rfl (fun ls hl => ?_)
            refine lv_iload_n hx hb dX12_left_110 rfl (lv_at hl 4 rfl) ?_
            refine lv_iload hx hb dX12_left_111 (lv_at hl 0 rfl) ?_
            obtain ⟨hs, hw⟩ := hw
            have m_131 : ∀ (y1_131 : Int32) (H : Heap) (locs : List Loc) (ls : Array Slot), y1_131 = (if t0_108 = 0 then (nI 0) else (k_s (((nI 190) + v5_44)).toNatClampNeg)) → okW D A s.heap H locs (wM cI cZ cJ h ad k_thrown k_s k_image k_hasImage k_steps k_read k_spot k_isWrong k_open k_act k_letBy k_letStamp k_stamp k_fallen k_held k_stands k_falling k_away k_round k_rests k_may k_next k_could k_couldNight k_night k_seats) → lv_has ls 7 [(0, .ref h), (1, .int p1), (2, .int p2), (4, .int v4_44), (5, .int v5_44), (6, .int t0_108)] → W p l e R s m args below meth c H locs 0 0 QQ (F0 m 131 ls [.int y1_131, .int v3_44]) := by
              intro y1_131 H locs ls ey1_131 hO hl
              have hw := hw y1_131 ey1_131
              refine lv_iadd hx hb dX12_left_131 ?_
              refine lv_istore_n (lv' := [(3, .int (v3_44 + y1_131)), (0, .ref h), (1, .int p1), (2, .int p2), (4, .int v4_44), (5, .int v5_44), (6, .int t0_108)]) hx hb dX12_left_132 rfl hl (by decide) rfl (fun ls hl => ?_)
              refine lv_iload hx hb dX12_left_133 (lv_at hl 6 rfl) ?_
              obtain ⟨hs, hw⟩ := hw
              have m_170 : ∀ (y0_170 : Int32) (H : Heap) (locs : List Loc) (ls : Array Slot), y0_170 = (if t0_108 = 0 then v4_44 else (if p1 = (nI 2) then (if v4_44 = (-5) then (if (v3_44 + y1_131) ≤ (k_s (((nI 72) + p2)).toNatClampNeg) then v4_44 else v5_44) else v4_44) else v4_44)) → okW D A s.heap H locs (wM cI cZ cJ h ad k_thrown k_s k_image k_hasImage k_steps k_read k_spot k_isWrong k_open k_act k_letBy k_letStamp k_stamp k_fallen k_held k_stands k_falling k_away k_round k_rests k_may k_next k_could k_couldNight k_night k_seats) → lv_has ls 7 [(0, .ref h), (1, .int p1), (2, .int p2), (3, .int (v3_44 + y1_131)), (5, .int v5_44)] → W p l e R s m args below meth c H locs 0 0 QQ (F0 m 170 ls [.int y0_170]) := by
                intro y0_170 H locs ls ey0_170 hO hl
                have hw := hw y0_170 ey0_170
                refine lv_istore (lv' := [(4, .int y0_170), (0, .ref h), (1, .int p1), (2, .int p2), (3, .int (v3_44 + y1_131)), (5, .int v5_44)]) hx hb dX12_left_170 hl (by decide) rfl (fun ls hl => ?_)
                refine lv_iinc (v := (v5_44 + (nI 1))) (lv' := [(5, .int (v5_44 + (nI 1))), (4, .int y0_170), (0, .ref h), (1, .int p1), (2, .int p2), (3, .int (v3_44 + y1_131))]) hx hb dX12_left_172 hl (k := 5) rfl (iinc_1 _) (by decide) rfl (fun ls hl => ?_)
                refine lv_goto (tgt := 44) hx hb dX12_left_175 (by decide) ?_
                exact ih_44 (v3_44 + y1_131) y0_170 (v5_44 + (nI 1)) _ _ _ hO (lv_sub hl [2, 3, 4, 5, 1, 0] rfl) hw
              refine lv_if_eq (tgt := 168) hx hb dX12_left_135 (by decide) (fun q_135 => ?_) (fun q_135 => ?_)
              · refine lv_iload hx hb dX12_left_168 (lv_at hl 4 rfl) ?_
                have hl := lv_sub hl [1, 2, 3, 0, 5] rfl (l' := [(0, .ref h), (1, .int p1), (2, .int p2), (3, .int (v3_44 + y1_131)), (5, .int v5_44)])
                exact m_170 _ _ _ _ (by rw [if_pos q_135]) hO hl
              · have hs := hs q_135
                refine lv_iload_n hx hb dX12_left_138 rfl (lv_at hl 2 rfl) ?_
                refine lv_iconst (v := (nI 2)) hx hb dX12_left_139 (by decide) ?_
                refine lv_icmp_ne (tgt := 168) hx hb dX12_left_140 (by decide) (fun q_140 => ?_) (fun q_140 => ?_)
                · refine lv_iload hx hb dX12_left_168 (lv_at hl 4 rfl) ?_
                  have hl := lv_sub hl [1, 2, 3, 0, 5] rfl (l' := [(0, .ref h), (1, .int p1), (2, .int p2), (3, .int (v3_44 + y1_131)), (5, .int v5_44)])
                  exact m_170 _ _ _ _ (by rw [if_neg q_135, if_neg q_140]) hO hl
                · have hs := hs q_140
                  refine lv_iload hx hb dX12_left_143 (lv_at hl 4 rfl) ?_
                  refine lv_bipush (v := (-5)) hx hb dX12_left_145 (by decide) ?_
                  refine lv_icmp_ne (tgt := 168) hx hb dX12_left_147 (by decide) (fun q_147 => ?_) (fun q_147 => ?_)
                  · refine lv_iload hx hb dX12_left_168 (lv_at hl 4 rfl) ?_
                    have hl := lv_sub hl [1, 2, 3, 0, 5] rfl (l' := [(0, .ref h), (1, .int p1), (2, .int p2), (3, .int (v3_44 + y1_131)), (5, .int v5_44)])
                    exact m_170 _ _ _ _ (by rw [if_neg q_135, if_pos q_140, if_neg q_147]) hO hl
                  · have hs := hs q_147
                    have o_159 := hs
                    refine lv_iload_n hx hb dX12_left_150 rfl (lv_at hl 0 rfl) ?_
                    refine lv_aload_n hx hb dX12_left_151 rfl (lv_at hl 1 rfl) ?_
                    refine gM_s C hin hK lk_s hO dX12_left_152 ?_
                    refine lv_bipush (v := (nI 72)) hx hb dX12_left_155 (by decide) ?_
                    refine lv_iload_n hx hb dX12_left_157 rfl (lv_at hl 3 rfl) ?_
                    refine lv_iadd hx hb dX12_left_158 ?_
                    refine ldM_s C hK hO o_159 rfl dX12_left_159 ?_
                    refine lv_icmp_le (tgt := 168) hx hb dX12_left_160 (by decide) (fun q_160 => ?_) (fun q_160 => ?_)
                    · refine lv_iload hx hb dX12_left_168 (lv_at hl 4 rfl) ?_
                      have hl := lv_sub hl [1, 2, 3, 0, 5] rfl (l' := [(0, .ref h), (1, .int p1), (2, .int p2), (3, .int (v3_44 + y1_131)), (5, .int v5_44)])
                      exact m_170 _ _ _ _ (by rw [if_neg q_135, if_pos q_140, if_pos q_147, if_pos q_160]) hO hl
                    · refine lv_iload hx hb dX12_left_163 (lv_at hl 5 rfl) ?_
                      refine lv_goto (tgt := 170) hx hb dX12_left_165 (by decide) ?_
                      have hl := lv_sub hl [1, 2, 3, 0, 5] rfl (l' := [(0, .ref h), (1, .int p1), (2, .int p2), (3, .int (v3_44 + y1_131)), (5, .int v5_44)])
                      exact m_170 _ _ _ _ (by rw [if_neg q_135, if_pos q_140, if_pos q_147, if_neg q_160]) hO hl
            refine lv_if_eq (tgt := 130) hx hb dX12_left_113 (by decide) (fun q_113 => ?_) (fun q_113 => ?_)
            · refine lv_iconst (v := (nI 0)) hx hb dX12_left_130 (by decide) ?_
              have hl := lv_sub hl [1, 2, 3, 5, 6, 0] rfl (l' := [(0, .ref h), (1, .int p1), (2, .int p2), (4, .int v4_44), (5, .int v5_44), (6, .int t0_108)])
              exact m_131 _ _ _ _ (by rw [if_pos q_113]) hO hl
            · have hs := hs q_113
              have o_126 := hs
              refine lv_aload_n hx hb dX12_left_116 rfl (lv_at hl 1 rfl) ?_
              refine gM_s C hin hK lk_s hO dX12_left_117 ?_
              refine lv_sipush (v := (nI 190)) hx hb dX12_left_120 (by decide) ?_
              refine lv_iload hx hb dX12_left_123 (lv_at hl 6 rfl) ?_
              refine lv_iadd hx hb dX12_left_125 ?_
              refine ldM_s C hK hO o_126 rfl dX12_left_126 ?_
              refine lv_goto (tgt := 131) hx hb dX12_left_127 (by decide) ?_
              have hl := lv_sub hl [1, 2, 3, 5, 6, 0] rfl (l' := [(0, .ref h), (1, .int p1), (2, .int p2), (4, .int v4_44), (5, .int v5_44), (6, .int t0_108)])
              exact m_131 _ _ _ _ (by rw [if_neg q_113]) hO hl
          refine lv_if_ne (tgt := 79) hx hb dX12_left_57 (by decide) (fun q_57 => ?_) (fun q_57 => ?_)
          · have hw := hw.1 q_57
            refine lv_aload_n hx hb dX12_left_79 rfl (lv_at hl 0 rfl) ?_
            refine gM_s C hin hK lk_s hO dX12_left_80 ?_
            refine lv_sipush (v := (nI 130)) hx hb dX12_left_83 (by decide) ?_
            refine lv_aload_n hx hb dX12_left_86 rfl (lv_at hl 0 rfl) ?_
            refine gM_s C hin hK lk_s hO dX12_left_87 ?_
            refine lv_sipush (v := (nI 150)) hx hb dX12_left_90 (by decide) ?_
            refine lv_iload hx hb dX12_left_93 (lv_at hl 5 rfl) ?_
            refine lv_iadd hx hb dX12_left_95 ?_
            obtain ⟨o_96, hw⟩ := hw
            refine ldM_s C hK hO o_96 rfl dX12_left_96 ?_
            refine lv_iadd hx hb dX12_left_97 ?_
            obtain ⟨o_98, hw⟩ := hw
            refine ldM_s C hK hO o_98 rfl dX12_left_98 ?_
            refine lv_iload_n hx hb dX12_left_99 rfl (lv_at hl 2 rfl) ?_
            have m_108 : ∀ (y0_108 : Int32) (H : Heap) (locs : List Loc) (ls : Array Slot), y0_108 = (if (k_s (((nI 130) + (k_s (((nI 150) + v5_44)).toNatClampNeg))).toNatClampNeg) = p2 then (nI 1) else (nI 0)) → okW D A s.heap H locs (wM cI cZ cJ h ad k_thrown k_s k_image k_hasImage k_steps k_read k_spot k_isWrong k_open k_act k_letBy k_letStamp k_stamp k_fallen k_held k_stands k_falling k_away k_round k_rests k_may k_next k_could k_couldNight k_night k_seats) → lv_has ls 7 [(0, .ref h), (1, .int p1), (2, .int p2), (3, .int v3_44), (4, .int v4_44), (5, .int v5_44)] → W p l e R s m args below meth c H locs 0 0 QQ (F0 m 108 ls [.int y0_108]) := by
              intro y0_108 H locs ls ey0_108 hO hl
              have hw := hw y0_108 ey0_108
              exact j_108 y0_108 _ _ _ hO (lv_sub hl [0, 1, 2, 3, 4, 5] rfl) hw
            refine lv_icmp_ne (tgt := 107) hx hb dX12_left_100 (by decide) (fun q_100 => ?_) (fun q_100 => ?_)
            · refine lv_iconst (v := (nI 0)) hx hb dX12_left_107 (by decide) ?_
              have hl := lv_sub hl [0, 1, 2, 3, 4, 5] rfl (l' := [(0, .ref h), (1, .int p1), (2, .int p2), (3, .int v3_44), (4, .int v4_44), (5, .int v5_44)])
              exact m_108 _ _ _ _ (by rw [if_neg q_100]) hO hl
            · refine lv_iconst (v := (nI 1)) hx hb dX12_left_103 (by decide) ?_
              refine lv_goto (tgt := 108) hx hb dX12_left_104 (by decide) ?_
              have hl := lv_sub hl [0, 1, 2, 3, 4, 5] rfl (l' := [(0, .ref h), (1, .int p1), (2, .int p2), (3, .int v3_44), (4, .int v4_44), (5, .int v5_44)])
              exact m_108 _ _ _ _ (by rw [if_pos q_100]) hO hl
          · have hw := hw.2 q_57
            refine lv_aload_n hx hb dX12_left_60 rfl (lv_at hl 0 rfl) ?_
            refine lv_aload_n hx hb dX12_left_61 rfl (lv_at hl 0 rfl) ?_
            refine gM_s C hin hK lk_s hO dX12_left_62 ?_
            refine lv_sipush (v := (nI 150)) hx hb dX12_left_65 (by decide) ?_
            refine lv_iload hx hb dX12_left_68 (lv_at hl 5 rfl) ?_
            refine lv_iadd hx hb dX12_left_70 ?_
            obtain ⟨o_71, hw⟩ := hw
            refine ldM_s C hK hO o_71 rfl dX12_left_71 ?_
            refine lv_iload_n hx hb dX12_left_72 rfl (lv_at hl 2 rfl) ?_
            refine cVi0 (As := [.int (k_s (((nI 150) + v5_44)).toNatClampNeg), .int p2]) (rest := []) C hK hX hO (c_X12_isUnder (l := l) hw) (cwV 2 hts gd_X12_225 rfl rfl rfl hd_X12_isUnder (rok hR (Nat.le_of_ble_eq_true rfl) (Nat.le_of_ble_eq_true rfl))) (ci := 12) (q0 := 0) rfl rfl rfl rfl hl.1 rfl (Nat.le_of_ble_eq_true rfl) dX12_left_73 ⟨Nat.zero_le _, Nat.zero_le _⟩ (fun r_73 H locs hw hO => ?_)
            refine lv_goto (tgt := 108) hx hb dX12_left_76 (by decide) ?_
            exact j_108 r_73 _ _ _ hO (lv_sub hl [0, 1, 2, 3, 4, 5] rfl) hw
      have l_44 : ∀ (n : Nat) (v3_44 : Int32) (v4_44 : Int32) (v5_44 : Int32) (H : Heap) (locs : List Loc) (ls : Array Slot), okW D A s.heap H locs (wM cI cZ cJ h ad k_thrown k_s k_image k_hasImage k_steps k_read k_spot k_isWrong k_open k_act k_letBy k_letStamp k_stamp k_fallen k_held k_stands k_falling k_away k_round k_rests k_may k_next k_could k_couldNight k_night k_seats) → lv_has ls 7 [(0, .ref h), (1, .int p1), (2, .int p2), (3, .int v3_44), (4, .int v4_44), (5, .int v5_44)] → wl_X12_left_44 p1 p2 k_s Q n v3_44 v4_44 v5_44 → W p l e R s m args below meth c H locs 0 0 QQ (F0 m 44 ls []) := by
        intro n
        induction n with
        | zero => intro v3_44 v4_44 v5_44 H locs ls hO hl hw; exact False.elim hw
        | succ n ih => exact b_44 _ ih
      exact l_44 n_44 (nI 0) (-5) (nI 0) _ _ _ hO (lv_sub hl [3, 4, 5, 2, 1, 0] rfl) hw
    refine lv_if_ne (tgt := 24) hx hb dX12_left_10 (by decide) (fun q_10 => ?_) (fun q_10 => ?_)
    · have hw := hw.1 q_10
      refine lv_iload_n hx hb dX12_left_24 rfl (lv_at hl 2 rfl) ?_
      refine lv_iconst (v := (nI 0)) hx hb dX12_left_25 (by decide) ?_
      refine lv_iconst (v := (nI 2)) hx hb dX12_left_26 (by decide) ?_
      refine cSi0 (As := [.int p2, .int (nI 0), .int (nI 2)]) (rest := []) C hK hX hO (c_X12_in (l := l)) (va_cwS 3 hts gd_X12_74 rfl rfl rfl hd_X12_in (rok hR (Nat.le_of_ble_eq_true rfl) (Nat.le_of_ble_eq_true rfl))) rfl hl.1 rfl (Nat.le_of_ble_eq_true rfl) dX12_left_27 ⟨Nat.zero_le _, Nat.zero_le _⟩ (fun r_27 H locs e_27 hO => ?_)
      subst e_27
      refine lv_if_ne (tgt := 35) hx hb dX12_left_30 (by decide) (fun q_30 => ?_) (fun q_30 => ?_)
      · have hw := hw.1 q_30
        exact j_35  _ _ _ hO (lv_sub hl [0, 1, 2] rfl) hw
      · have hw := hw.2 q_30
        refine lv_iconst (v := (-1)) hx hb dX12_left_33 (by decide) ?_
        exact ri0 hQQ hx hb hr hlk hK hO hw dX12_left_34
    · have hw := hw.2 q_10
      refine lv_aload_n hx hb dX12_left_13 rfl (lv_at hl 0 rfl) ?_
      refine lv_iload_n hx hb dX12_left_14 rfl (lv_at hl 2 rfl) ?_
      refine cVi0 (As := [.int p2]) (rest := []) C hK hX hO (c_X12_isFirm (l := l)) (cwV 1 hts gd_X12_222 rfl rfl rfl hd_X12_isFirm (rok hR (Nat.le_of_ble_eq_true rfl) (Nat.le_of_ble_eq_true rfl))) (ci := 12) (q0 := 0) rfl rfl rfl rfl hl.1 rfl (Nat.le_of_ble_eq_true rfl) dX12_left_15 ⟨Nat.zero_le _, Nat.zero_le _⟩ (fun r_15 H locs e_15 hO => ?_)
      subst e_15
      refine lv_if_ne (tgt := 35) hx hb dX12_left_18 (by decide) (fun q_18 => ?_) (fun q_18 => ?_)
      · have hw := hw.1 q_18
        exact j_35  _ _ _ hO (lv_sub hl [0, 1, 2] rfl) hw
      · have hw := hw.2 q_18
        refine lv_goto (tgt := 33) hx hb dX12_left_21 (by decide) ?_
        refine lv_iconst (v := (-1)) hx hb dX12_left_33 (by decide) ?_
        exact ri0 hQQ hx hb hr hlk hK hO hw dX12_left_34
def f_X12_isHour  (p1 : Int32) : Int32 := (f_X12_in p1 (nI 0) (nI 23))
theorem z_X12_isHour  (p1 : Int32) : zb (f_X12_isHour p1) := by
  unfold f_X12_isHour
  exact (z_X12_in p1 (nI 0) (nI 23))
set_option maxHeartbeats 4000000 in
set_option maxRecDepth 100000 in
theorem c_X12_isHour {l : Launch} {D : va_G} {T : List (ClassId × FieldType)} {ws : va_W} {sz : Nat} {p1 : Int32} : Met l yX12_isHour (Cond.code yX12_isHour cX12_isHour 1 (some .boolean) :: wsG) ({ frames := 1, cells := 0, slots := 0, locals := 22 } : Room) (preW D T ws sz [.int p1]) (qi0 D T (va_A ws sz) (fun r => r = f_X12_isHour p1) ws) 0 0 (va_A ws sz) := by
  refine st_met (cc := cX12_isHour) (maxL := 1) (ret := (some .boolean)) (lv := [(0, .int p1)]) (Qc := fun A => qi0 D T A (fun r => r = f_X12_isHour p1) ws) (by decide) rfl (Nat.le_of_ble_eq_true rfl) rfl ?_
  intro p e s m below meth c ls A R args QQ H locs C hr hlk hnm hK hX hsz hl hO hR hQQ
  have hx := C.1
  have hb := C.2.1
  have hown := C.2.2.2.1
  have hts := C.2.2.2.2
  refine lv_iload_n hx hb dX12_isHour_0 rfl (lv_at hl 0 rfl) ?_
  refine lv_iconst (v := (nI 0)) hx hb dX12_isHour_1 (by decide) ?_
  refine lv_bipush (v := (nI 23)) hx hb dX12_isHour_2 (by decide) ?_
  refine cSi0 (As := [.int p1, .int (nI 0), .int (nI 23)]) (rest := []) C hK hX hO (c_X12_in (l := l)) (va_cwS 3 hts gd_X12_74 rfl rfl rfl hd_X12_in (rok hR (Nat.le_of_ble_eq_true rfl) (Nat.le_of_ble_eq_true rfl))) rfl hl.1 rfl (Nat.le_of_ble_eq_true rfl) dX12_isHour_4 ⟨Nat.zero_le _, Nat.zero_le _⟩ (fun r_4 H locs e_4 hO => ?_)
  subst e_4
  exact rz0 hQQ hx hb hr hlk hK hO (z_X12_in p1 (nI 0) (nI 23)) (by unfold f_X12_isHour; rfl) dX12_isHour_7
theorem gd_X12_228 {a : Cond} : GoodIn (a :: wsG) (va_wsS RX12 228 yX12_isHour (Cond.code yX12_isHour cX12_isHour 1 (some .boolean) :: wsG)) := gdS qw7_83 qw7_84 qw1_12 qw7_85
theorem hd_X12_isHour : yX12_isHour.cls ≠ "java/lang/invoke/MethodHandle" ∧ yX12_isHour.cls ≠ "java/lang/invoke/VarHandle" ∧ (parseMethodDescriptor yX12_isHour.desc).map (fun d => d.parameters.length) = some 1 := by decide +kernel
def wp_X12_door (p1 : Int32) (p2 : Int32) (p3 : Int32) (k_s : Nat → Int32) (k_night : Int32) (Q : Int32 → (Nat → Int32) → (Int32) → Prop) : Prop := ((¬ (f_X12_isSpot p1) = 0 → ((((f_X12_isHour p2) = 0 ∨ (f_X12_in p3 p2 (nI 23)) = 0) → (Q (-2) k_s k_night)) ∧ (¬ (((f_X12_isHour p2) = 0 ∨ (f_X12_in p3 p2 (nI 23)) = 0)) → (vp_in ((nI 20) + p1) 6700 ∧ (((k_s (((nI 20) + p1)).toNatClampNeg) = (nI 4) → ((¬ (k_s 6) = (nI 6) → (vp_in ((nI 230) + (k_s 6)) 6700 ∧ (vp_in ((nI 236) + ((upd k_s ((((nI 230) + (k_s 6))).toNatClampNeg) p1) 6)) 6700 ∧ (vp_in ((nI 242) + ((upd (upd k_s ((((nI 230) + (k_s 6))).toNatClampNeg) p1) ((((nI 236) + ((upd k_s ((((nI 230) + (k_s 6))).toNatClampNeg) p1) 6))).toNatClampNeg) p2) 6)) 6700 ∧ (Q (((upd (upd (upd (upd k_s ((((nI 230) + (k_s 6))).toNatClampNeg) p1) ((((nI 236) + ((upd k_s ((((nI 230) + (k_s 6))).toNatClampNeg) p1) 6))).toNatClampNeg) p2) ((((nI 242) + ((upd (upd k_s ((((nI 230) + (k_s 6))).toNatClampNeg) p1) ((((nI 236) + ((upd k_s ((((nI 230) + (k_s 6))).toNatClampNeg) p1) 6))).toNatClampNeg) p2) 6))).toNatClampNeg) p3) 6 (((upd (upd (upd k_s ((((nI 230) + (k_s 6))).toNatClampNeg) p1) ((((nI 236) + ((upd k_s ((((nI 230) + (k_s 6))).toNatClampNeg) p1) 6))).toNatClampNeg) p2) ((((nI 242) + ((upd (upd k_s ((((nI 230) + (k_s 6))).toNatClampNeg) p1) ((((nI 236) + ((upd k_s ((((nI 230) + (k_s 6))).toNatClampNeg) p1) 6))).toNatClampNeg) p2) 6))).toNatClampNeg) p3) 6) + (nI 1))) 6) - (nI 1)) (upd (upd (upd (upd k_s ((((nI 230) + (k_s 6))).toNatClampNeg) p1) ((((nI 236) + ((upd k_s ((((nI 230) + (k_s 6))).toNatClampNeg) p1) 6))).toNatClampNeg) p2) ((((nI 242) + ((upd (upd k_s ((((nI 230) + (k_s 6))).toNatClampNeg) p1) ((((nI 236) + ((upd k_s ((((nI 230) + (k_s 6))).toNatClampNeg) p1) 6))).toNatClampNeg) p2) 6))).toNatClampNeg) p3) 6 (((upd (upd (upd k_s ((((nI 230) + (k_s 6))).toNatClampNeg) p1) ((((nI 236) + ((upd k_s ((((nI 230) + (k_s 6))).toNatClampNeg) p1) 6))).toNatClampNeg) p2) ((((nI 242) + ((upd (upd k_s ((((nI 230) + (k_s 6))).toNatClampNeg) p1) ((((nI 236) + ((upd k_s ((((nI 230) + (k_s 6))).toNatClampNeg) p1) 6))).toNatClampNeg) p2) 6))).toNatClampNeg) p3) 6) + (nI 1))) (k_night + (nI 1))))))) ∧ ((k_s 6) = (nI 6) → (Q (-4) k_s k_night)))) ∧ (¬ (k_s (((nI 20) + p1)).toNatClampNeg) = (nI 4) → (Q (-3) k_s k_night))))))) ∧ ((f_X12_isSpot p1) = 0 → (Q (-1) k_s k_night)))
set_option maxHeartbeats 4000000 in
set_option maxRecDepth 100000 in
theorem c_X12_door {l : Launch} {D : va_G} {cI cZ cJ : ClassId} {h : Nat} {ad : Nat → Nat} {sz : Nat} {k_thrown : Int32} {k_s : Nat → Int32} {k_image : Nat → Int32} {k_hasImage : Int32} {k_steps : Nat → Int32} {k_read : Int32} {k_spot : Int32} {k_isWrong : Int32} {k_open : Int32} {k_act : Int32} {k_letBy : Nat → Int32} {k_letStamp : Nat → Int32} {k_stamp : Int32} {k_fallen : Nat → Int32} {k_held : Nat → Int32} {k_stands : Nat → Int32} {k_falling : Nat → Int32} {k_away : Nat → Int32} {k_round : Nat → Int32} {k_rests : Nat → Int64} {k_may : Nat → Int32} {k_next : Nat → Int32} {k_could : Nat → Int32} {k_couldNight : Nat → Int32} {k_night : Int32} {k_seats : Nat → Int32} {p1 : Int32} {p2 : Int32} {p3 : Int32} {Q : Int32 → (Nat → Int32) → (Int32) → Prop} (hw : wp_X12_door p1 p2 p3 k_s k_night Q) : Met l yX12_door (Cond.code yX12_door cX12_door 4 (some .int) :: wsG) ({ frames := 2, cells := 0, slots := 0, locals := 42 } : Room) (preW D (tyM cI cZ cJ) (wM cI cZ cJ h ad k_thrown k_s k_image k_hasImage k_steps k_read k_spot k_isWrong k_open k_act k_letBy k_letStamp k_stamp k_fallen k_held k_stands k_falling k_away k_round k_rests k_may k_next k_could k_couldNight k_night k_seats) sz [.ref h, .int p1, .int p2, .int p3]) (qi2 D (tyM cI cZ cJ) (va_A (wM cI cZ cJ h ad k_thrown k_s k_image k_hasImage k_steps k_read k_spot k_isWrong k_open k_act k_letBy k_letStamp k_stamp k_fallen k_held k_stands k_falling k_away k_round k_rests k_may k_next k_could k_couldNight k_night k_seats) sz) Q (fun k_s' k_night' => (wM cI cZ cJ h ad k_thrown k_s' k_image k_hasImage k_steps k_read k_spot k_isWrong k_open k_act k_letBy k_letStamp k_stamp k_fallen k_held k_stands k_falling k_away k_round k_rests k_may k_next k_could k_couldNight k_night' k_seats))) 0 0 (va_A (wM cI cZ cJ h ad k_thrown k_s k_image k_hasImage k_steps k_read k_spot k_isWrong k_open k_act k_letBy k_letStamp k_stamp k_fallen k_held k_stands k_falling k_away k_round k_rests k_may k_next k_could k_couldNight k_night k_seats) sz) := by
  refine st_met (cc := cX12_door) (maxL := 4) (ret := (some .int)) (lv := [(0, .ref h), (1, .int p1), (2, .int p2), (3, .int p3)]) (Qc := fun A => qi2 D (tyM cI cZ cJ) A Q (fun k_s' k_night' => (wM cI cZ cJ h ad k_thrown k_s' k_image k_hasImage k_steps k_read k_spot k_isWrong k_open k_act k_letBy k_letStamp k_stamp k_fallen k_held k_stands k_falling k_away k_round k_rests k_may k_next k_could k_couldNight k_night' k_seats))) (by decide) rfl (Nat.le_of_ble_eq_true rfl) rfl ?_
  intro p e s m below meth c ls A R args QQ H locs C hr hlk hnm hK hX hsz hl hO hR hQQ
  have hx := C.1
  have hb := C.2.1
  have hown := C.2.2.2.1
  have hts := C.2.2.2.2
  have hin : ∀ w ∈ u_ws RX12 TX12 26, w ∈ (Cond.code yX12_door cX12_door 4 (some .int) :: wsG) := fun w h9 => List.mem_cons_of_mem _ (inG12 w h9)
  have lk_s := hts (Cond.fieldLink RX12 7 "FreeCityModel" "s" "[I") (List.mem_cons_of_mem _ qw5_207)
  have lk_night := hts (Cond.fieldLink RX12 65 "FreeCityModel" "night" "I") (List.mem_cons_of_mem _ qw5_230)
  unfold wp_X12_door at hw
  refine lv_iload_n hx hb dX12_door_0 rfl (lv_at hl 1 rfl) ?_
  refine cSi0 (As := [.int p1]) (rest := []) C hK hX hO (c_X12_isSpot (l := l)) (va_cwS 1 hts gd_X12_78 rfl rfl rfl hd_X12_isSpot (rok hR (Nat.le_of_ble_eq_true rfl) (Nat.le_of_ble_eq_true rfl))) rfl hl.1 rfl (Nat.le_of_ble_eq_true rfl) dX12_door_1 ⟨Nat.zero_le _, Nat.zero_le _⟩ (fun r_1 H locs e_1 hO => ?_)
  subst e_1
  refine lv_if_ne (tgt := 9) hx hb dX12_door_4 (by decide) (fun q_4 => ?_) (fun q_4 => ?_)
  · have hw := hw.1 q_4
    refine lv_iload_n hx hb dX12_door_9 rfl (lv_at hl 2 rfl) ?_
    refine cSi0 (As := [.int p2]) (rest := []) C hK hX hO (c_X12_isHour (l := l)) (va_cwS 1 hts gd_X12_228 rfl rfl rfl hd_X12_isHour (rok hR (Nat.le_of_ble_eq_true rfl) (Nat.le_of_ble_eq_true rfl))) rfl hl.1 rfl (Nat.le_of_ble_eq_true rfl) dX12_door_10 ⟨Nat.zero_le _, Nat.zero_le _⟩ (fun r_10 H locs e_10 hO => ?_)
    subst e_10
    have a_26 : ((f_X12_isHour p2) = 0 ∨ (f_X12_in p3 p2 (nI 23)) = 0) → ∀ (H : Heap) (locs : List Loc) (ls : Array Slot), okW D A s.heap H locs (wM cI cZ cJ h ad k_thrown k_s k_image k_hasImage k_steps k_read k_spot k_isWrong k_open k_act k_letBy k_letStamp k_stamp k_fallen k_held k_stands k_falling k_away k_round k_rests k_may k_next k_could k_couldNight k_night k_seats) → lv_has ls 4 [] → W p l e R s m args below meth c H locs 0 0 QQ (F0 m 26 ls []) := by
      intro cf H locs ls hO hl
      have hw := hw.1 cf
      refine lv_bipush (v := (-2)) hx hb dX12_door_26 (by decide) ?_
      exact ri2 hQQ hx hb hr hlk hK hO hw dX12_door_28
    have a_29 : ¬ (((f_X12_isHour p2) = 0 ∨ (f_X12_in p3 p2 (nI 23)) = 0)) → ∀ (H : Heap) (locs : List Loc) (ls : Array Slot), okW D A s.heap H locs (wM cI cZ cJ h ad k_thrown k_s k_image k_hasImage k_steps k_read k_spot k_isWrong k_open k_act k_letBy k_letStamp k_stamp k_fallen k_held k_stands k_falling k_away k_round k_rests k_may k_next k_could k_couldNight k_night k_seats) → lv_has ls 4 [(0, .ref h), (1, .int p1), (2, .int p2), (3, .int p3)] → W p l e R s m args below meth c H locs 0 0 QQ (F0 m 29 ls []) := by
      intro cf H locs ls hO hl
      have hw := hw.2 cf
      refine lv_aload_n hx hb dX12_door_29 rfl (lv_at hl 0 rfl) ?_
      refine gM_s C hin hK lk_s hO dX12_door_30 ?_
      refine lv_bipush (v := (nI 20)) hx hb dX12_door_33 (by decide) ?_
      refine lv_iload_n hx hb dX12_door_35 rfl (lv_at hl 1 rfl) ?_
      refine lv_iadd hx hb dX12_door_36 ?_
      obtain ⟨o_37, hw⟩ := hw
      refine ldM_s C hK hO o_37 rfl dX12_door_37 ?_
      refine lv_iconst (v := (nI 4)) hx hb dX12_door_38 (by decide) ?_
      refine lv_icmp_eq (tgt := 45) hx hb dX12_door_39 (by decide) (fun q_39 => ?_) (fun q_39 => ?_)
      · have hw := hw.1 q_39
        refine lv_aload_n hx hb dX12_door_45 rfl (lv_at hl 0 rfl) ?_
        refine gM_s C hin hK lk_s hO dX12_door_46 ?_
        refine lv_bipush (v := (nI 6)) hx hb dX12_door_49 (by decide) ?_
        refine ldM_s C hK hO (inK 6 6700 (by decide) (by decide)) (clK 6 (by decide)) dX12_door_51 ?_
        refine lv_bipush (v := (nI 6)) hx hb dX12_door_52 (by decide) ?_
        refine lv_icmp_ne (tgt := 60) hx hb dX12_door_54 (by decide) (fun q_54 => ?_) (fun q_54 => ?_)
        · have hw := hw.1 q_54
          refine lv_aload_n hx hb dX12_door_60 rfl (lv_at hl 0 rfl) ?_
          refine gM_s C hin hK lk_s hO dX12_door_61 ?_
          refine lv_sipush (v := (nI 230)) hx hb dX12_door_64 (by decide) ?_
          refine lv_aload_n hx hb dX12_door_67 rfl (lv_at hl 0 rfl) ?_
          refine gM_s C hin hK lk_s hO dX12_door_68 ?_
          refine lv_bipush (v := (nI 6)) hx hb dX12_door_71 (by decide) ?_
          refine ldM_s C hK hO (inK 6 6700 (by decide) (by decide)) (clK 6 (by decide)) dX12_door_73 ?_
          refine lv_iadd hx hb dX12_door_74 ?_
          refine lv_iload_n hx hb dX12_door_75 rfl (lv_at hl 1 rfl) ?_
          obtain ⟨o_76, hw⟩ := hw
          refine stM_s C hK hO o_76 rfl dX12_door_76 (fun H locs hO => ?_)
          refine lv_aload_n hx hb dX12_door_77 rfl (lv_at hl 0 rfl) ?_
          refine gM_s C hin hK lk_s hO dX12_door_78 ?_
          refine lv_sipush (v := (nI 236)) hx hb dX12_door_81 (by decide) ?_
          refine lv_aload_n hx hb dX12_door_84 rfl (lv_at hl 0 rfl) ?_
          refine gM_s C hin hK lk_s hO dX12_door_85 ?_
          refine lv_bipush (v := (nI 6)) hx hb dX12_door_88 (by decide) ?_
          refine ldM_s C hK hO (inK 6 6700 (by decide) (by decide)) (clK 6 (by decide)) dX12_door_90 ?_
          refine lv_iadd hx hb dX12_door_91 ?_
          refine lv_iload_n hx hb dX12_door_92 rfl (lv_at hl 2 rfl) ?_
          obtain ⟨o_93, hw⟩ := hw
          refine stM_s C hK hO o_93 rfl dX12_door_93 (fun H locs hO => ?_)
          refine lv_aload_n hx hb dX12_door_94 rfl (lv_at hl 0 rfl) ?_
          refine gM_s C hin hK lk_s hO dX12_door_95 ?_
          refine lv_sipush (v := (nI 242)) hx hb dX12_door_98 (by decide) ?_
          refine lv_aload_n hx hb dX12_door_101 rfl (lv_at hl 0 rfl) ?_
          refine gM_s C hin hK lk_s hO dX12_door_102 ?_
          refine lv_bipush (v := (nI 6)) hx hb dX12_door_105 (by decide) ?_
          refine ldM_s C hK hO (inK 6 6700 (by decide) (by decide)) (clK 6 (by decide)) dX12_door_107 ?_
          refine lv_iadd hx hb dX12_door_108 ?_
          refine lv_iload_n hx hb dX12_door_109 rfl (lv_at hl 3 rfl) ?_
          obtain ⟨o_110, hw⟩ := hw
          refine stM_s C hK hO o_110 rfl dX12_door_110 (fun H locs hO => ?_)
          refine lv_aload_n hx hb dX12_door_111 rfl (lv_at hl 0 rfl) ?_
          refine gM_s C hin hK lk_s hO dX12_door_112 ?_
          refine lv_bipush (v := (nI 6)) hx hb dX12_door_115 (by decide) ?_
          refine lv_dup2_11 hx hb dX12_door_117 rfl rfl ?_
          refine ldM_s C hK hO (inK 6 6700 (by decide) (by decide)) (clK 6 (by decide)) dX12_door_118 ?_
          refine lv_iconst (v := (nI 1)) hx hb dX12_door_119 (by decide) ?_
          refine lv_iadd hx hb dX12_door_120 ?_
          refine stM_s C hK hO (inK 6 6700 (by decide) (by decide)) (clK 6 (by decide)) dX12_door_121 (fun H locs hO => ?_)
          refine lv_aload_n hx hb dX12_door_122 rfl (lv_at hl 0 rfl) ?_
          refine lv_dup hx hb dX12_door_123 rfl ?_
          refine gM_night C hin hK lk_night hO dX12_door_124 ?_
          refine lv_iconst (v := (nI 1)) hx hb dX12_door_127 (by decide) ?_
          refine lv_iadd hx hb dX12_door_128 ?_
          refine pM_night C hin hK lk_night hO dX12_door_129 (fun H locs hO => ?_)
          refine lv_aload_n hx hb dX12_door_132 rfl (lv_at hl 0 rfl) ?_
          refine gM_s C hin hK lk_s hO dX12_door_133 ?_
          refine lv_bipush (v := (nI 6)) hx hb dX12_door_136 (by decide) ?_
          refine ldM_s C hK hO (inK 6 6700 (by decide) (by decide)) (clK 6 (by decide)) dX12_door_138 ?_
          refine lv_iconst (v := (nI 1)) hx hb dX12_door_139 (by decide) ?_
          refine lv_isub hx hb dX12_door_140 ?_
          exact ri2 hQQ hx hb hr hlk hK hO hw dX12_door_141
        · have hw := hw.2 q_54
          refine lv_bipush (v := (-4)) hx hb dX12_door_57 (by decide) ?_
          exact ri2 hQQ hx hb hr hlk hK hO hw dX12_door_59
      · have hw := hw.2 q_39
        refine lv_bipush (v := (-3)) hx hb dX12_door_42 (by decide) ?_
        exact ri2 hQQ hx hb hr hlk hK hO hw dX12_door_44
    refine lv_if_eq (tgt := 26) hx hb dX12_door_13 (by decide) (fun q_13 => ?_) (fun q_13 => ?_)
    · have hl := lv_sub hl [] rfl (l' := [])
      exact a_26 (Or.inl q_13) _ _ _ hO hl
    · refine lv_iload_n hx hb dX12_door_16 rfl (lv_at hl 3 rfl) ?_
      refine lv_iload_n hx hb dX12_door_17 rfl (lv_at hl 2 rfl) ?_
      refine lv_bipush (v := (nI 23)) hx hb dX12_door_18 (by decide) ?_
      refine cSi0 (As := [.int p3, .int p2, .int (nI 23)]) (rest := []) C hK hX hO (c_X12_in (l := l)) (va_cwS 3 hts gd_X12_74 rfl rfl rfl hd_X12_in (rok hR (Nat.le_of_ble_eq_true rfl) (Nat.le_of_ble_eq_true rfl))) rfl hl.1 rfl (Nat.le_of_ble_eq_true rfl) dX12_door_20 ⟨Nat.zero_le _, Nat.zero_le _⟩ (fun r_20 H locs e_20 hO => ?_)
      subst e_20
      refine lv_if_ne (tgt := 29) hx hb dX12_door_23 (by decide) (fun q_23 => ?_) (fun q_23 => ?_)
      · have hl := lv_sub hl [0, 1, 2, 3] rfl (l' := [(0, .ref h), (1, .int p1), (2, .int p2), (3, .int p3)])
        exact a_29 (fun h => h.elim q_13 q_23) _ _ _ hO hl
      · have hl := lv_sub hl [] rfl (l' := [])
        exact a_26 (Or.inr q_23) _ _ _ hO hl
  · have hw := hw.2 q_4
    refine lv_iconst (v := (-1)) hx hb dX12_door_7 (by decide) ?_
    exact ri2 hQQ hx hb hr hlk hK hO hw dX12_door_8
def f_X12_isPerson  (p1 : Int32) : Int32 := (f_X12_in p1 (nI 0) (nI 7))
theorem z_X12_isPerson  (p1 : Int32) : zb (f_X12_isPerson p1) := by
  unfold f_X12_isPerson
  exact (z_X12_in p1 (nI 0) (nI 7))
set_option maxHeartbeats 4000000 in
set_option maxRecDepth 100000 in
theorem c_X12_isPerson {l : Launch} {D : va_G} {T : List (ClassId × FieldType)} {ws : va_W} {sz : Nat} {p1 : Int32} : Met l yX12_isPerson (Cond.code yX12_isPerson cX12_isPerson 1 (some .boolean) :: wsG) ({ frames := 1, cells := 0, slots := 0, locals := 22 } : Room) (preW D T ws sz [.int p1]) (qi0 D T (va_A ws sz) (fun r => r = f_X12_isPerson p1) ws) 0 0 (va_A ws sz) := by
  refine st_met (cc := cX12_isPerson) (maxL := 1) (ret := (some .boolean)) (lv := [(0, .int p1)]) (Qc := fun A => qi0 D T A (fun r => r = f_X12_isPerson p1) ws) (by decide) rfl (Nat.le_of_ble_eq_true rfl) rfl ?_
  intro p e s m below meth c ls A R args QQ H locs C hr hlk hnm hK hX hsz hl hO hR hQQ
  have hx := C.1
  have hb := C.2.1
  have hown := C.2.2.2.1
  have hts := C.2.2.2.2
  refine lv_iload_n hx hb dX12_isPerson_0 rfl (lv_at hl 0 rfl) ?_
  refine lv_iconst (v := (nI 0)) hx hb dX12_isPerson_1 (by decide) ?_
  refine lv_bipush (v := (nI 7)) hx hb dX12_isPerson_2 (by decide) ?_
  refine cSi0 (As := [.int p1, .int (nI 0), .int (nI 7)]) (rest := []) C hK hX hO (c_X12_in (l := l)) (va_cwS 3 hts gd_X12_74 rfl rfl rfl hd_X12_in (rok hR (Nat.le_of_ble_eq_true rfl) (Nat.le_of_ble_eq_true rfl))) rfl hl.1 rfl (Nat.le_of_ble_eq_true rfl) dX12_isPerson_4 ⟨Nat.zero_le _, Nat.zero_le _⟩ (fun r_4 H locs e_4 hO => ?_)
  subst e_4
  exact rz0 hQQ hx hb hr hlk hK hO (z_X12_in p1 (nI 0) (nI 7)) (by unfold f_X12_isPerson; rfl) dX12_isPerson_7
theorem gd_X12_231 {a : Cond} : GoodIn (a :: wsG) (va_wsS RX12 231 yX12_isPerson (Cond.code yX12_isPerson cX12_isPerson 1 (some .boolean) :: wsG)) := gdS qw7_90 qw7_91 qw1_12 qw7_92
theorem hd_X12_isPerson : yX12_isPerson.cls ≠ "java/lang/invoke/MethodHandle" ∧ yX12_isPerson.cls ≠ "java/lang/invoke/VarHandle" ∧ (parseMethodDescriptor yX12_isPerson.desc).map (fun d => d.parameters.length) = some 1 := by decide +kernel
def wb_X12_seen_52 (p1 : Int32) (p2 : Int32) (p3 : Int32) (k_s : Nat → Int32) (k_night : Int32) (Q : Int32 → (Nat → Int32) → (Int32) → Prop) (L_52 : Int32 → Int32 → Int32 → Prop) (v4_52 : Int32) (v5_52 : Int32) (v6_52 : Int32) : Prop := (vp_in ((nI 250) + p1) 6700 ∧ (((k_s (((nI 250) + p1)).toNatClampNeg) ≤ v6_52 → ((¬ v4_52 = 0 → ((v5_52 = 0 → (vp_in ((nI 250) + p1) 6700 ∧ ((¬ (k_s (((nI 250) + p1)).toNatClampNeg) = (nI 12) → (vp_in ((nI 250) + p1) 6700 ∧ (vp_in (((nI 260) + ((nI 12) * p1)) + (k_s (((nI 250) + p1)).toNatClampNeg)) 6700 ∧ (vp_in ((nI 250) + p1) 6700 ∧ (vp_in (((nI 356) + ((nI 12) * p1)) + ((upd k_s (((((nI 260) + ((nI 12) * p1)) + (k_s (((nI 250) + p1)).toNatClampNeg))).toNatClampNeg) p2) (((nI 250) + p1)).toNatClampNeg)) 6700 ∧ (vp_in ((nI 250) + p1) 6700 ∧ (vp_in ((nI 250) + p1) 6700 ∧ (vp_in ((nI 250) + p1) 6700 ∧ (Q ((upd (upd (upd k_s (((((nI 260) + ((nI 12) * p1)) + (k_s (((nI 250) + p1)).toNatClampNeg))).toNatClampNeg) p2) (((((nI 356) + ((nI 12) * p1)) + ((upd k_s (((((nI 260) + ((nI 12) * p1)) + (k_s (((nI 250) + p1)).toNatClampNeg))).toNatClampNeg) p2) (((nI 250) + p1)).toNatClampNeg))).toNatClampNeg) p3) ((((nI 250) + p1)).toNatClampNeg) (((upd (upd k_s (((((nI 260) + ((nI 12) * p1)) + (k_s (((nI 250) + p1)).toNatClampNeg))).toNatClampNeg) p2) (((((nI 356) + ((nI 12) * p1)) + ((upd k_s (((((nI 260) + ((nI 12) * p1)) + (k_s (((nI 250) + p1)).toNatClampNeg))).toNatClampNeg) p2) (((nI 250) + p1)).toNatClampNeg))).toNatClampNeg) p3) (((nI 250) + p1)).toNatClampNeg) + (nI 1))) (((nI 250) + p1)).toNatClampNeg) (upd (upd (upd k_s (((((nI 260) + ((nI 12) * p1)) + (k_s (((nI 250) + p1)).toNatClampNeg))).toNatClampNeg) p2) (((((nI 356) + ((nI 12) * p1)) + ((upd k_s (((((nI 260) + ((nI 12) * p1)) + (k_s (((nI 250) + p1)).toNatClampNeg))).toNatClampNeg) p2) (((nI 250) + p1)).toNatClampNeg))).toNatClampNeg) p3) ((((nI 250) + p1)).toNatClampNeg) (((upd (upd k_s (((((nI 260) + ((nI 12) * p1)) + (k_s (((nI 250) + p1)).toNatClampNeg))).toNatClampNeg) p2) (((((nI 356) + ((nI 12) * p1)) + ((upd k_s (((((nI 260) + ((nI 12) * p1)) + (k_s (((nI 250) + p1)).toNatClampNeg))).toNatClampNeg) p2) (((nI 250) + p1)).toNatClampNeg))).toNatClampNeg) p3) (((nI 250) + p1)).toNatClampNeg) + (nI 1))) (k_night + (nI 1))))))))))) ∧ ((k_s (((nI 250) + p1)).toNatClampNeg) = (nI 12) → (Q (-4) k_s k_night))))) ∧ (¬ v5_52 = 0 → (vp_in ((nI 250) + p1) 6700 ∧ (Q (k_s (((nI 250) + p1)).toNatClampNeg) k_s k_night))))) ∧ (v4_52 = 0 → (Q (-3) k_s k_night)))) ∧ (¬ (k_s (((nI 250) + p1)).toNatClampNeg) ≤ v6_52 → (vp_in (((nI 356) + ((nI 12) * p1)) + v6_52) 6700 ∧ (∀ y0_92 : Int32, y0_92 = (if (k_s ((((nI 356) + ((nI 12) * p1)) + v6_52)).toNatClampNeg) = p3 then (nI 1) else (nI 0)) → (((¬ v4_52 = 0 → ((¬ y0_92 = 0 → (vp_in (((nI 260) + ((nI 12) * p1)) + v6_52) 6700))))) ∧ (∀ y0_129 : Int32, y0_129 = (if v4_52 = 0 then (nI 0) else (if y0_92 = 0 then (nI 1) else (if (k_s ((((nI 260) + ((nI 12) * p1)) + v6_52)).toNatClampNeg) = p2 then (nI 1) else (nI 0)))) → (∀ y0_146 : Int32, y0_146 = (if v5_52 = 0 then (if y0_92 = 0 then (nI 0) else (nI 1)) else (nI 1)) → (L_52 y0_129 y0_146 (v6_52 + (nI 1)))))))))))
def wl_X12_seen_52 (p1 : Int32) (p2 : Int32) (p3 : Int32) (k_s : Nat → Int32) (k_night : Int32) (Q : Int32 → (Nat → Int32) → (Int32) → Prop) : Nat → Int32 → Int32 → Int32 → Prop
  | 0, _, _, _ => False
  | n + 1, v4_52, v5_52, v6_52 => wb_X12_seen_52 p1 p2 p3 k_s k_night Q (wl_X12_seen_52 p1 p2 p3 k_s k_night Q n) v4_52 v5_52 v6_52
def wp_X12_seen (p1 : Int32) (p2 : Int32) (p3 : Int32) (k_s : Nat → Int32) (k_night : Int32) (Q : Int32 → (Nat → Int32) → (Int32) → Prop) : Prop := ((((f_X12_isPerson p1) = 0 ∨ (f_X12_isSpot p2) = 0) → (Q (-1) k_s k_night)) ∧ (¬ (((f_X12_isPerson p1) = 0 ∨ (f_X12_isSpot p2) = 0)) → ((¬ (f_X12_isHour p3) = 0 → (vp_in ((nI 20) + p2) 6700 ∧ (∀ y0_44 : Int32, y0_44 = (if (k_s (((nI 20) + p2)).toNatClampNeg) = (nI 5) then (nI 0) else (nI 1)) → (∃ n, wl_X12_seen_52 p1 p2 p3 k_s k_night Q n y0_44 (nI 0) (nI 0))))) ∧ ((f_X12_isHour p3) = 0 → (Q (-2) k_s k_night)))))
set_option maxHeartbeats 4000000 in
set_option maxRecDepth 100000 in
theorem c_X12_seen {l : Launch} {D : va_G} {cI cZ cJ : ClassId} {h : Nat} {ad : Nat → Nat} {sz : Nat} {k_thrown : Int32} {k_s : Nat → Int32} {k_image : Nat → Int32} {k_hasImage : Int32} {k_steps : Nat → Int32} {k_read : Int32} {k_spot : Int32} {k_isWrong : Int32} {k_open : Int32} {k_act : Int32} {k_letBy : Nat → Int32} {k_letStamp : Nat → Int32} {k_stamp : Int32} {k_fallen : Nat → Int32} {k_held : Nat → Int32} {k_stands : Nat → Int32} {k_falling : Nat → Int32} {k_away : Nat → Int32} {k_round : Nat → Int32} {k_rests : Nat → Int64} {k_may : Nat → Int32} {k_next : Nat → Int32} {k_could : Nat → Int32} {k_couldNight : Nat → Int32} {k_night : Int32} {k_seats : Nat → Int32} {p1 : Int32} {p2 : Int32} {p3 : Int32} {Q : Int32 → (Nat → Int32) → (Int32) → Prop} (hw : wp_X12_seen p1 p2 p3 k_s k_night Q) : Met l yX12_seen (Cond.code yX12_seen cX12_seen 8 (some .int) :: wsG) ({ frames := 2, cells := 0, slots := 0, locals := 42 } : Room) (preW D (tyM cI cZ cJ) (wM cI cZ cJ h ad k_thrown k_s k_image k_hasImage k_steps k_read k_spot k_isWrong k_open k_act k_letBy k_letStamp k_stamp k_fallen k_held k_stands k_falling k_away k_round k_rests k_may k_next k_could k_couldNight k_night k_seats) sz [.ref h, .int p1, .int p2, .int p3]) (qi2 D (tyM cI cZ cJ) (va_A (wM cI cZ cJ h ad k_thrown k_s k_image k_hasImage k_steps k_read k_spot k_isWrong k_open k_act k_letBy k_letStamp k_stamp k_fallen k_held k_stands k_falling k_away k_round k_rests k_may k_next k_could k_couldNight k_night k_seats) sz) Q (fun k_s' k_night' => (wM cI cZ cJ h ad k_thrown k_s' k_image k_hasImage k_steps k_read k_spot k_isWrong k_open k_act k_letBy k_letStamp k_stamp k_fallen k_held k_stands k_falling k_away k_round k_rests k_may k_next k_could k_couldNight k_night' k_seats))) 0 0 (va_A (wM cI cZ cJ h ad k_thrown k_s k_image k_hasImage k_steps k_read k_spot k_isWrong k_open k_act k_letBy k_letStamp k_stamp k_fallen k_held k_stands k_falling k_away k_round k_rests k_may k_next k_could k_couldNight k_night k_seats) sz) := by
  refine st_met (cc := cX12_seen) (maxL := 8) (ret := (some .int)) (lv := [(0, .ref h), (1, .int p1), (2, .int p2), (3, .int p3)]) (Qc := fun A => qi2 D (tyM cI cZ cJ) A Q (fun k_s' k_night' => (wM cI cZ cJ h ad k_thrown k_s' k_image k_hasImage k_steps k_read k_spot k_isWrong k_open k_act k_letBy k_letStamp k_stamp k_fallen k_held k_stands k_falling k_away k_round k_rests k_may k_next k_could k_couldNight k_night' k_seats))) (by decide) rfl (Nat.le_of_ble_eq_true rfl) rfl ?_
  intro p e s m below meth c ls A R args QQ H locs C hr hlk hnm hK hX hsz hl hO hR hQQ
  have hx := C.1
  have hb := C.2.1
  have hown := C.2.2.2.1
  have hts := C.2.2.2.2
  have hin : ∀ w ∈ u_ws RX12 TX12 26, w ∈ (Cond.code yX12_seen cX12_seen 8 (some .int) :: wsG) := fun w h9 => List.mem_cons_of_mem _ (inG12 w h9)
  have lk_s := hts (Cond.fieldLink RX12 7 "FreeCityModel" "s" "[I") (List.mem_cons_of_mem _ qw5_207)
  have lk_night := hts (Cond.fieldLink RX12 65 "FreeCityModel" "night" "I") (List.mem_cons_of_mem _ qw5_230)
  unfold wp_X12_seen at hw
  refine lv_iload_n hx hb dX12_seen_0 rfl (lv_at hl 1 rfl) ?_
  refine cSi0 (As := [.int p1]) (rest := []) C hK hX hO (c_X12_isPerson (l := l)) (va_cwS 1 hts gd_X12_231 rfl rfl rfl hd_X12_isPerson (rok hR (Nat.le_of_ble_eq_true rfl) (Nat.le_of_ble_eq_true rfl))) rfl hl.1 rfl (Nat.le_of_ble_eq_true rfl) dX12_seen_1 ⟨Nat.zero_le _, Nat.zero_le _⟩ (fun r_1 H locs e_1 hO => ?_)
  subst e_1
  have a_14 : ((f_X12_isPerson p1) = 0 ∨ (f_X12_isSpot p2) = 0) → ∀ (H : Heap) (locs : List Loc) (ls : Array Slot), okW D A s.heap H locs (wM cI cZ cJ h ad k_thrown k_s k_image k_hasImage k_steps k_read k_spot k_isWrong k_open k_act k_letBy k_letStamp k_stamp k_fallen k_held k_stands k_falling k_away k_round k_rests k_may k_next k_could k_couldNight k_night k_seats) → lv_has ls 8 [] → W p l e R s m args below meth c H locs 0 0 QQ (F0 m 14 ls []) := by
    intro cf H locs ls hO hl
    have hw := hw.1 cf
    refine lv_iconst (v := (-1)) hx hb dX12_seen_14 (by decide) ?_
    exact ri2 hQQ hx hb hr hlk hK hO hw dX12_seen_15
  have a_16 : ¬ (((f_X12_isPerson p1) = 0 ∨ (f_X12_isSpot p2) = 0)) → ∀ (H : Heap) (locs : List Loc) (ls : Array Slot), okW D A s.heap H locs (wM cI cZ cJ h ad k_thrown k_s k_image k_hasImage k_steps k_read k_spot k_isWrong k_open k_act k_letBy k_letStamp k_stamp k_fallen k_held k_stands k_falling k_away k_round k_rests k_may k_next k_could k_couldNight k_night k_seats) → lv_has ls 8 [(0, .ref h), (1, .int p1), (2, .int p2), (3, .int p3)] → W p l e R s m args below meth c H locs 0 0 QQ (F0 m 16 ls []) := by
    intro cf H locs ls hO hl
    have hw := hw.2 cf
    refine lv_iload_n hx hb dX12_seen_16 rfl (lv_at hl 3 rfl) ?_
    refine cSi0 (As := [.int p3]) (rest := []) C hK hX hO (c_X12_isHour (l := l)) (va_cwS 1 hts gd_X12_228 rfl rfl rfl hd_X12_isHour (rok hR (Nat.le_of_ble_eq_true rfl) (Nat.le_of_ble_eq_true rfl))) rfl hl.1 rfl (Nat.le_of_ble_eq_true rfl) dX12_seen_17 ⟨Nat.zero_le _, Nat.zero_le _⟩ (fun r_17 H locs e_17 hO => ?_)
    subst e_17
    refine lv_if_ne (tgt := 26) hx hb dX12_seen_20 (by decide) (fun q_20 => ?_) (fun q_20 => ?_)
    · have hw := hw.1 q_20
      refine lv_aload_n hx hb dX12_seen_26 rfl (lv_at hl 0 rfl) ?_
      refine gM_s C hin hK lk_s hO dX12_seen_27 ?_
      refine lv_bipush (v := (nI 20)) hx hb dX12_seen_30 (by decide) ?_
      refine lv_iload_n hx hb dX12_seen_32 rfl (lv_at hl 2 rfl) ?_
      refine lv_iadd hx hb dX12_seen_33 ?_
      obtain ⟨o_34, hw⟩ := hw
      refine ldM_s C hK hO o_34 rfl dX12_seen_34 ?_
      refine lv_iconst (v := (nI 5)) hx hb dX12_seen_35 (by decide) ?_
      have m_44 : ∀ (y0_44 : Int32) (H : Heap) (locs : List Loc) (ls : Array Slot), y0_44 = (if (k_s (((nI 20) + p2)).toNatClampNeg) = (nI 5) then (nI 0) else (nI 1)) → okW D A s.heap H locs (wM cI cZ cJ h ad k_thrown k_s k_image k_hasImage k_steps k_read k_spot k_isWrong k_open k_act k_letBy k_letStamp k_stamp k_fallen k_held k_stands k_falling k_away k_round k_rests k_may k_next k_could k_couldNight k_night k_seats) → lv_has ls 8 [(0, .ref h), (1, .int p1), (2, .int p2), (3, .int p3)] → W p l e R s m args below meth c H locs 0 0 QQ (F0 m 44 ls [.int y0_44]) := by
        intro y0_44 H locs ls ey0_44 hO hl
        have hw := hw y0_44 ey0_44
        refine lv_istore (lv' := [(4, .int y0_44), (0, .ref h), (1, .int p1), (2, .int p2), (3, .int p3)]) hx hb dX12_seen_44 hl (by decide) rfl (fun ls hl => ?_)
        refine lv_iconst (v := (nI 0)) hx hb dX12_seen_46 (by decide) ?_
        refine lv_istore (lv' := [(5, .int (nI 0)), (4, .int y0_44), (0, .ref h), (1, .int p1), (2, .int p2), (3, .int p3)]) hx hb dX12_seen_47 hl (by decide) rfl (fun ls hl => ?_)
        refine lv_iconst (v := (nI 0)) hx hb dX12_seen_49 (by decide) ?_
        refine lv_istore (lv' := [(6, .int (nI 0)), (5, .int (nI 0)), (4, .int y0_44), (0, .ref h), (1, .int p1), (2, .int p2), (3, .int p3)]) hx hb dX12_seen_50 hl (by decide) rfl (fun ls hl => ?_)
        obtain ⟨n_52, hw⟩ := hw
        have b_52 : ∀ (L_52 : Int32 → Int32 → Int32 → Prop) (ih_52 : ∀ (v4_52 : Int32) (v5_52 : Int32) (v6_52 : Int32) (H : Heap) (locs : List Loc) (ls : Array Slot), okW D A s.heap H locs (wM cI cZ cJ h ad k_thrown k_s k_image k_hasImage k_steps k_read k_spot k_isWrong k_open k_act k_letBy k_letStamp k_stamp k_fallen k_held k_stands k_falling k_away k_round k_rests k_may k_next k_could k_couldNight k_night k_seats) → lv_has ls 8 [(0, .ref h), (1, .int p1), (2, .int p2), (3, .int p3), (4, .int v4_52), (5, .int v5_52), (6, .int v6_52)] → L_52 v4_52 v5_52 v6_52 → W p l e R s m args below meth c H locs 0 0 QQ (F0 m 52 ls [])) (v4_52 : Int32) (v5_52 : Int32) (v6_52 : Int32) (H : Heap) (locs : List Loc) (ls : Array Slot), okW D A s.heap H locs (wM cI cZ cJ h ad k_thrown k_s k_image k_hasImage k_steps k_read k_spot k_isWrong k_open k_act k_letBy k_letStamp k_stamp k_fallen k_held k_stands k_falling k_away k_round k_rests k_may k_next k_could k_couldNight k_night k_seats) → lv_has ls 8 [(0, .ref h), (1, .int p1), (2, .int p2), (3, .int p3), (4, .int v4_52), (5, .int v5_52), (6, .int v6_52)] → wb_X12_seen_52 p1 p2 p3 k_s k_night Q L_52 v4_52 v5_52 v6_52 → W p l e R s m args below meth c H locs 0 0 QQ (F0 m 52 ls []) := by
          intro L_52 ih_52 v4_52 v5_52 v6_52 H locs ls hO hl hw
          unfold wb_X12_seen_52 at hw
          refine lv_iload hx hb dX12_seen_52 (lv_at hl 6 rfl) ?_
          refine lv_aload_n hx hb dX12_seen_54 rfl (lv_at hl 0 rfl) ?_
          refine gM_s C hin hK lk_s hO dX12_seen_55 ?_
          refine lv_sipush (v := (nI 250)) hx hb dX12_seen_58 (by decide) ?_
          refine lv_iload_n hx hb dX12_seen_61 rfl (lv_at hl 1 rfl) ?_
          refine lv_iadd hx hb dX12_seen_62 ?_
          obtain ⟨o_63, hw⟩ := hw
          refine ldM_s C hK hO o_63 rfl dX12_seen_63 ?_
          refine lv_icmp_ge (tgt := 154) hx hb dX12_seen_64 (by decide) (fun q_64 => ?_) (fun q_64 => ?_)
          · have hw := hw.1 q_64
            refine lv_iload hx hb dX12_seen_154 (lv_at hl 4 rfl) ?_
            refine lv_if_ne (tgt := 162) hx hb dX12_seen_156 (by decide) (fun q_156 => ?_) (fun q_156 => ?_)
            · have hw := hw.1 q_156
              refine lv_iload hx hb dX12_seen_162 (lv_at hl 5 rfl) ?_
              refine lv_if_eq (tgt := 178) hx hb dX12_seen_164 (by decide) (fun q_164 => ?_) (fun q_164 => ?_)
              · have hw := hw.1 q_164
                refine lv_aload_n hx hb dX12_seen_178 rfl (lv_at hl 0 rfl) ?_
                refine gM_s C hin hK lk_s hO dX12_seen_179 ?_
                refine lv_sipush (v := (nI 250)) hx hb dX12_seen_182 (by decide) ?_
                refine lv_iload_n hx hb dX12_seen_185 rfl (lv_at hl 1 rfl) ?_
                refine lv_iadd hx hb dX12_seen_186 ?_
                obtain ⟨o_187, hw⟩ := hw
                refine ldM_s C hK hO o_187 rfl dX12_seen_187 ?_
                refine lv_bipush (v := (nI 12)) hx hb dX12_seen_188 (by decide) ?_
                refine lv_icmp_ne (tgt := 196) hx hb dX12_seen_190 (by decide) (fun q_190 => ?_) (fun q_190 => ?_)
                · have hw := hw.1 q_190
                  refine lv_aload_n hx hb dX12_seen_196 rfl (lv_at hl 0 rfl) ?_
                  refine gM_s C hin hK lk_s hO dX12_seen_197 ?_
                  refine lv_sipush (v := (nI 260)) hx hb dX12_seen_200 (by decide) ?_
                  refine lv_bipush (v := (nI 12)) hx hb dX12_seen_203 (by decide) ?_
                  refine lv_iload_n hx hb dX12_seen_205 rfl (lv_at hl 1 rfl) ?_
                  refine lv_imul hx hb dX12_seen_206 ?_
                  refine lv_iadd hx hb dX12_seen_207 ?_
                  refine lv_aload_n hx hb dX12_seen_208 rfl (lv_at hl 0 rfl) ?_
                  refine gM_s C hin hK lk_s hO dX12_seen_209 ?_
                  refine lv_sipush (v := (nI 250)) hx hb dX12_seen_212 (by decide) ?_
                  refine lv_iload_n hx hb dX12_seen_215 rfl (lv_at hl 1 rfl) ?_
                  refine lv_iadd hx hb dX12_seen_216 ?_
                  obtain ⟨o_217, hw⟩ := hw
                  refine ldM_s C hK hO o_217 rfl dX12_seen_217 ?_
                  refine lv_iadd hx hb dX12_seen_218 ?_
                  refine lv_iload_n hx hb dX12_seen_219 rfl (lv_at hl 2 rfl) ?_
                  obtain ⟨o_220, hw⟩ := hw
                  refine stM_s C hK hO o_220 rfl dX12_seen_220 (fun H locs hO => ?_)
                  refine lv_aload_n hx hb dX12_seen_221 rfl (lv_at hl 0 rfl) ?_
                  refine gM_s C hin hK lk_s hO dX12_seen_222 ?_
                  refine lv_sipush (v := (nI 356)) hx hb dX12_seen_225 (by decide) ?_
                  refine lv_bipush (v := (nI 12)) hx hb dX12_seen_228 (by decide) ?_
                  refine lv_iload_n hx hb dX12_seen_230 rfl (lv_at hl 1 rfl) ?_
                  refine lv_imul hx hb dX12_seen_231 ?_
                  refine lv_iadd hx hb dX12_seen_232 ?_
                  refine lv_aload_n hx hb dX12_seen_233 rfl (lv_at hl 0 rfl) ?_
                  refine gM_s C hin hK lk_s hO dX12_seen_234 ?_
                  refine lv_sipush (v := (nI 250)) hx hb dX12_seen_237 (by decide) ?_
                  refine lv_iload_n hx hb dX12_seen_240 rfl (lv_at hl 1 rfl) ?_
                  refine lv_iadd hx hb dX12_seen_241 ?_
                  obtain ⟨o_242, hw⟩ := hw
                  refine ldM_s C hK hO o_242 rfl dX12_seen_242 ?_
                  refine lv_iadd hx hb dX12_seen_243 ?_
                  refine lv_iload_n hx hb dX12_seen_244 rfl (lv_at hl 3 rfl) ?_
                  obtain ⟨o_245, hw⟩ := hw
                  refine stM_s C hK hO o_245 rfl dX12_seen_245 (fun H locs hO => ?_)
                  refine lv_aload_n hx hb dX12_seen_246 rfl (lv_at hl 0 rfl) ?_
                  refine gM_s C hin hK lk_s hO dX12_seen_247 ?_
                  refine lv_sipush (v := (nI 250)) hx hb dX12_seen_250 (by decide) ?_
                  refine lv_iload_n hx hb dX12_seen_253 rfl (lv_at hl 1 rfl) ?_
                  refine lv_iadd hx hb dX12_seen_254 ?_
                  refine lv_dup2_11 hx hb dX12_seen_255 rfl rfl ?_
                  obtain ⟨o_256, hw⟩ := hw
                  refine ldM_s C hK hO o_256 rfl dX12_seen_256 ?_
                  refine lv_iconst (v := (nI 1)) hx hb dX12_seen_257 (by decide) ?_
                  refine lv_iadd hx hb dX12_seen_258 ?_
                  obtain ⟨o_259, hw⟩ := hw
                  refine stM_s C hK hO o_259 rfl dX12_seen_259 (fun H locs hO => ?_)
                  refine lv_aload_n hx hb dX12_seen_260 rfl (lv_at hl 0 rfl) ?_
                  refine lv_dup hx hb dX12_seen_261 rfl ?_
                  refine gM_night C hin hK lk_night hO dX12_seen_262 ?_
                  refine lv_iconst (v := (nI 1)) hx hb dX12_seen_265 (by decide) ?_
                  refine lv_iadd hx hb dX12_seen_266 ?_
                  refine pM_night C hin hK lk_night hO dX12_seen_267 (fun H locs hO => ?_)
                  refine lv_aload_n hx hb dX12_seen_270 rfl (lv_at hl 0 rfl) ?_
                  refine gM_s C hin hK lk_s hO dX12_seen_271 ?_
                  refine lv_sipush (v := (nI 250)) hx hb dX12_seen_274 (by decide) ?_
                  refine lv_iload_n hx hb dX12_seen_277 rfl (lv_at hl 1 rfl) ?_
                  refine lv_iadd hx hb dX12_seen_278 ?_
                  obtain ⟨o_279, hw⟩ := hw
                  refine ldM_s C hK hO o_279 rfl dX12_seen_279 ?_
                  exact ri2 hQQ hx hb hr hlk hK hO hw dX12_seen_280
                · have hw := hw.2 q_190
                  refine lv_bipush (v := (-4)) hx hb dX12_seen_193 (by decide) ?_
                  exact ri2 hQQ hx hb hr hlk hK hO hw dX12_seen_195
              · have hw := hw.2 q_164
                refine lv_aload_n hx hb dX12_seen_167 rfl (lv_at hl 0 rfl) ?_
                refine gM_s C hin hK lk_s hO dX12_seen_168 ?_
                refine lv_sipush (v := (nI 250)) hx hb dX12_seen_171 (by decide) ?_
                refine lv_iload_n hx hb dX12_seen_174 rfl (lv_at hl 1 rfl) ?_
                refine lv_iadd hx hb dX12_seen_175 ?_
                obtain ⟨o_176, hw⟩ := hw
                refine ldM_s C hK hO o_176 rfl dX12_seen_176 ?_
                exact ri2 hQQ hx hb hr hlk hK hO hw dX12_seen_177
            · have hw := hw.2 q_156
              refine lv_bipush (v := (-3)) hx hb dX12_seen_159 (by decide) ?_
              exact ri2 hQQ hx hb hr hlk hK hO hw dX12_seen_161
          · have hw := hw.2 q_64
            refine lv_aload_n hx hb dX12_seen_67 rfl (lv_at hl 0 rfl) ?_
            refine gM_s C hin hK lk_s hO dX12_seen_68 ?_
            refine lv_sipush (v := (nI 356)) hx hb dX12_seen_71 (by decide) ?_
            refine lv_bipush (v := (nI 12)) hx hb dX12_seen_74 (by decide) ?_
            refine lv_iload_n hx hb dX12_seen_76 rfl (lv_at hl 1 rfl) ?_
            refine lv_imul hx hb dX12_seen_77 ?_
            refine lv_iadd hx hb dX12_seen_78 ?_
            refine lv_iload hx hb dX12_seen_79 (lv_at hl 6 rfl) ?_
            refine lv_iadd hx hb dX12_seen_81 ?_
            obtain ⟨o_82, hw⟩ := hw
            refine ldM_s C hK hO o_82 rfl dX12_seen_82 ?_
            refine lv_iload_n hx hb dX12_seen_83 rfl (lv_at hl 3 rfl) ?_
            have m_92 : ∀ (y0_92 : Int32) (H : Heap) (locs : List Loc) (ls : Array Slot), y0_92 = (if (k_s ((((nI 356) + ((nI 12) * p1)) + v6_52)).toNatClampNeg) = p3 then (nI 1) else (nI 0)) → okW D A s.heap H locs (wM cI cZ cJ h ad k_thrown k_s k_image k_hasImage k_steps k_read k_spot k_isWrong k_open k_act k_letBy k_letStamp k_stamp k_fallen k_held k_stands k_falling k_away k_round k_rests k_may k_next k_could k_couldNight k_night k_seats) → lv_has ls 8 [(0, .ref h), (1, .int p1), (2, .int p2), (3, .int p3), (4, .int v4_52), (5, .int v5_52), (6, .int v6_52)] → W p l e R s m args below meth c H locs 0 0 QQ (F0 m 92 ls [.int y0_92]) := by
              intro y0_92 H locs ls ey0_92 hO hl
              have hw := hw y0_92 ey0_92
              refine lv_istore (lv' := [(7, .int y0_92), (0, .ref h), (1, .int p1), (2, .int p2), (3, .int p3), (4, .int v4_52), (5, .int v5_52), (6, .int v6_52)]) hx hb dX12_seen_92 hl (by decide) rfl (fun ls hl => ?_)
              refine lv_iload hx hb dX12_seen_94 (lv_at hl 5 rfl) ?_
              obtain ⟨hs, hw⟩ := hw
              have m_129 : ∀ (y0_129 : Int32) (H : Heap) (locs : List Loc) (ls : Array Slot), y0_129 = (if v4_52 = 0 then (nI 0) else (if y0_92 = 0 then (nI 1) else (if (k_s ((((nI 260) + ((nI 12) * p1)) + v6_52)).toNatClampNeg) = p2 then (nI 1) else (nI 0)))) → okW D A s.heap H locs (wM cI cZ cJ h ad k_thrown k_s k_image k_hasImage k_steps k_read k_spot k_isWrong k_open k_act k_letBy k_letStamp k_stamp k_fallen k_held k_stands k_falling k_away k_round k_rests k_may k_next k_could k_couldNight k_night k_seats) → lv_has ls 8 [(0, .ref h), (1, .int p1), (2, .int p2), (3, .int p3), (5, .int v5_52), (6, .int v6_52), (7, .int y0_92)] → W p l e R s m args below meth c H locs 0 0 QQ (F0 m 129 ls [.int y0_129]) := by
                intro y0_129 H locs ls ey0_129 hO hl
                have hw := hw y0_129 ey0_129
                refine lv_istore (lv' := [(4, .int y0_129), (0, .ref h), (1, .int p1), (2, .int p2), (3, .int p3), (5, .int v5_52), (6, .int v6_52), (7, .int y0_92)]) hx hb dX12_seen_129 hl (by decide) rfl (fun ls hl => ?_)
                refine lv_iload hx hb dX12_seen_131 (lv_at hl 5 rfl) ?_
                have m_146 : ∀ (y0_146 : Int32) (H : Heap) (locs : List Loc) (ls : Array Slot), y0_146 = (if v5_52 = 0 then (if y0_92 = 0 then (nI 0) else (nI 1)) else (nI 1)) → okW D A s.heap H locs (wM cI cZ cJ h ad k_thrown k_s k_image k_hasImage k_steps k_read k_spot k_isWrong k_open k_act k_letBy k_letStamp k_stamp k_fallen k_held k_stands k_falling k_away k_round k_rests k_may k_next k_could k_couldNight k_night k_seats) → lv_has ls 8 [(0, .ref h), (1, .int p1), (2, .int p2), (3, .int p3), (4, .int y0_129), (6, .int v6_52)] → W p l e R s m args below meth c H locs 0 0 QQ (F0 m 146 ls [.int y0_146]) := by
                  intro y0_146 H locs ls ey0_146 hO hl
                  have hw := hw y0_146 ey0_146
                  refine lv_istore (lv' := [(5, .int y0_146), (0, .ref h), (1, .int p1), (2, .int p2), (3, .int p3), (4, .int y0_129), (6, .int v6_52)]) hx hb dX12_seen_146 hl (by decide) rfl (fun ls hl => ?_)
                  refine lv_iinc (v := (v6_52 + (nI 1))) (lv' := [(6, .int (v6_52 + (nI 1))), (5, .int y0_146), (0, .ref h), (1, .int p1), (2, .int p2), (3, .int p3), (4, .int y0_129)]) hx hb dX12_seen_148 hl (k := 6) rfl (iinc_1 _) (by decide) rfl (fun ls hl => ?_)
                  refine lv_goto (tgt := 52) hx hb dX12_seen_151 (by decide) ?_
                  exact ih_52 y0_129 y0_146 (v6_52 + (nI 1)) _ _ _ hO (lv_sub hl [2, 3, 4, 5, 6, 1, 0] rfl) hw
                refine lv_if_ne (tgt := 141) hx hb dX12_seen_133 (by decide) (fun q_133 => ?_) (fun q_133 => ?_)
                · refine lv_iconst (v := (nI 1)) hx hb dX12_seen_141 (by decide) ?_
                  refine lv_goto (tgt := 146) hx hb dX12_seen_142 (by decide) ?_
                  have hl := lv_sub hl [1, 2, 3, 4, 0, 6] rfl (l' := [(0, .ref h), (1, .int p1), (2, .int p2), (3, .int p3), (4, .int y0_129), (6, .int v6_52)])
                  exact m_146 _ _ _ _ (by rw [if_neg q_133]) hO hl
                · refine lv_iload hx hb dX12_seen_136 (lv_at hl 7 rfl) ?_
                  refine lv_if_eq (tgt := 145) hx hb dX12_seen_138 (by decide) (fun q_138 => ?_) (fun q_138 => ?_)
                  · refine lv_iconst (v := (nI 0)) hx hb dX12_seen_145 (by decide) ?_
                    have hl := lv_sub hl [1, 2, 3, 4, 0, 6] rfl (l' := [(0, .ref h), (1, .int p1), (2, .int p2), (3, .int p3), (4, .int y0_129), (6, .int v6_52)])
                    exact m_146 _ _ _ _ (by rw [if_pos q_133, if_pos q_138]) hO hl
                  · refine lv_iconst (v := (nI 1)) hx hb dX12_seen_141 (by decide) ?_
                    refine lv_goto (tgt := 146) hx hb dX12_seen_142 (by decide) ?_
                    have hl := lv_sub hl [1, 2, 3, 4, 0, 6] rfl (l' := [(0, .ref h), (1, .int p1), (2, .int p2), (3, .int p3), (4, .int y0_129), (6, .int v6_52)])
                    exact m_146 _ _ _ _ (by rw [if_pos q_133, if_neg q_138]) hO hl
              refine lv_if_eq (tgt := 128) hx hb dX12_seen_96 (by decide) (fun q_96 => ?_) (fun q_96 => ?_)
              · refine lv_iconst (v := (nI 0)) hx hb dX12_seen_128 (by decide) ?_
                have hl := lv_sub hl [1, 2, 3, 4, 6, 7, 0] rfl (l' := [(0, .ref h), (1, .int p1), (2, .int p2), (3, .int p3), (5, .int v5_52), (6, .int v6_52), (7, .int y0_92)])
                exact m_129 _ _ _ _ (by rw [if_pos q_96]) hO hl
              · have hs := hs q_96
                refine lv_iload hx hb dX12_seen_99 (lv_at hl 0 rfl) ?_
                refine lv_if_eq (tgt := 124) hx hb dX12_seen_101 (by decide) (fun q_101 => ?_) (fun q_101 => ?_)
                · refine lv_iconst (v := (nI 1)) hx hb dX12_seen_124 (by decide) ?_
                  refine lv_goto (tgt := 129) hx hb dX12_seen_125 (by decide) ?_
                  have hl := lv_sub hl [1, 2, 3, 4, 6, 7, 0] rfl (l' := [(0, .ref h), (1, .int p1), (2, .int p2), (3, .int p3), (5, .int v5_52), (6, .int v6_52), (7, .int y0_92)])
                  exact m_129 _ _ _ _ (by rw [if_neg q_96, if_pos q_101]) hO hl
                · have hs := hs q_101
                  have o_119 := hs
                  refine lv_aload_n hx hb dX12_seen_104 rfl (lv_at hl 1 rfl) ?_
                  refine gM_s C hin hK lk_s hO dX12_seen_105 ?_
                  refine lv_sipush (v := (nI 260)) hx hb dX12_seen_108 (by decide) ?_
                  refine lv_bipush (v := (nI 12)) hx hb dX12_seen_111 (by decide) ?_
                  refine lv_iload_n hx hb dX12_seen_113 rfl (lv_at hl 2 rfl) ?_
                  refine lv_imul hx hb dX12_seen_114 ?_
                  refine lv_iadd hx hb dX12_seen_115 ?_
                  refine lv_iload hx hb dX12_seen_116 (lv_at hl 7 rfl) ?_
                  refine lv_iadd hx hb dX12_seen_118 ?_
                  refine ldM_s C hK hO o_119 rfl dX12_seen_119 ?_
                  refine lv_iload_n hx hb dX12_seen_120 rfl (lv_at hl 3 rfl) ?_
                  refine lv_icmp_ne (tgt := 128) hx hb dX12_seen_121 (by decide) (fun q_121 => ?_) (fun q_121 => ?_)
                  · refine lv_iconst (v := (nI 0)) hx hb dX12_seen_128 (by decide) ?_
                    have hl := lv_sub hl [1, 2, 3, 4, 6, 7, 0] rfl (l' := [(0, .ref h), (1, .int p1), (2, .int p2), (3, .int p3), (5, .int v5_52), (6, .int v6_52), (7, .int y0_92)])
                    exact m_129 _ _ _ _ (by rw [if_neg q_96, if_neg q_101, if_neg q_121]) hO hl
                  · refine lv_iconst (v := (nI 1)) hx hb dX12_seen_124 (by decide) ?_
                    refine lv_goto (tgt := 129) hx hb dX12_seen_125 (by decide) ?_
                    have hl := lv_sub hl [1, 2, 3, 4, 6, 7, 0] rfl (l' := [(0, .ref h), (1, .int p1), (2, .int p2), (3, .int p3), (5, .int v5_52), (6, .int v6_52), (7, .int y0_92)])
                    exact m_129 _ _ _ _ (by rw [if_neg q_96, if_neg q_101, if_pos q_121]) hO hl
            refine lv_icmp_ne (tgt := 91) hx hb dX12_seen_84 (by decide) (fun q_84 => ?_) (fun q_84 => ?_)
            · refine lv_iconst (v := (nI 0)) hx hb dX12_seen_91 (by decide) ?_
              have hl := lv_sub hl [0, 1, 2, 3, 4, 5, 6] rfl (l' := [(0, .ref h), (1, .int p1), (2, .int p2), (3, .int p3), (4, .int v4_52), (5, .int v5_52), (6, .int v6_52)])
              exact m_92 _ _ _ _ (by rw [if_neg q_84]) hO hl
            · refine lv_iconst (v := (nI 1)) hx hb dX12_seen_87 (by decide) ?_
              refine lv_goto (tgt := 92) hx hb dX12_seen_88 (by decide) ?_
              have hl := lv_sub hl [0, 1, 2, 3, 4, 5, 6] rfl (l' := [(0, .ref h), (1, .int p1), (2, .int p2), (3, .int p3), (4, .int v4_52), (5, .int v5_52), (6, .int v6_52)])
              exact m_92 _ _ _ _ (by rw [if_pos q_84]) hO hl
        have l_52 : ∀ (n : Nat) (v4_52 : Int32) (v5_52 : Int32) (v6_52 : Int32) (H : Heap) (locs : List Loc) (ls : Array Slot), okW D A s.heap H locs (wM cI cZ cJ h ad k_thrown k_s k_image k_hasImage k_steps k_read k_spot k_isWrong k_open k_act k_letBy k_letStamp k_stamp k_fallen k_held k_stands k_falling k_away k_round k_rests k_may k_next k_could k_couldNight k_night k_seats) → lv_has ls 8 [(0, .ref h), (1, .int p1), (2, .int p2), (3, .int p3), (4, .int v4_52), (5, .int v5_52), (6, .int v6_52)] → wl_X12_seen_52 p1 p2 p3 k_s k_night Q n v4_52 v5_52 v6_52 → W p l e R s m args below meth c H locs 0 0 QQ (F0 m 52 ls []) := by
          intro n
          induction n with
          | zero => intro v4_52 v5_52 v6_52 H locs ls hO hl hw; exact False.elim hw
          | succ n ih => exact b_52 _ ih
        exact l_52 n_52 y0_44 (nI 0) (nI 0) _ _ _ hO (lv_sub hl [3, 4, 5, 6, 2, 1, 0] rfl) hw
      refine lv_icmp_eq (tgt := 43) hx hb dX12_seen_36 (by decide) (fun q_36 => ?_) (fun q_36 => ?_)
      · refine lv_iconst (v := (nI 0)) hx hb dX12_seen_43 (by decide) ?_
        have hl := lv_sub hl [0, 1, 2, 3] rfl (l' := [(0, .ref h), (1, .int p1), (2, .int p2), (3, .int p3)])
        exact m_44 _ _ _ _ (by rw [if_pos q_36]) hO hl
      · refine lv_iconst (v := (nI 1)) hx hb dX12_seen_39 (by decide) ?_
        refine lv_goto (tgt := 44) hx hb dX12_seen_40 (by decide) ?_
        have hl := lv_sub hl [0, 1, 2, 3] rfl (l' := [(0, .ref h), (1, .int p1), (2, .int p2), (3, .int p3)])
        exact m_44 _ _ _ _ (by rw [if_neg q_36]) hO hl
    · have hw := hw.2 q_20
      refine lv_bipush (v := (-2)) hx hb dX12_seen_23 (by decide) ?_
      exact ri2 hQQ hx hb hr hlk hK hO hw dX12_seen_25
  refine lv_if_eq (tgt := 14) hx hb dX12_seen_4 (by decide) (fun q_4 => ?_) (fun q_4 => ?_)
  · have hl := lv_sub hl [] rfl (l' := [])
    exact a_14 (Or.inl q_4) _ _ _ hO hl
  · refine lv_iload_n hx hb dX12_seen_7 rfl (lv_at hl 2 rfl) ?_
    refine cSi0 (As := [.int p2]) (rest := []) C hK hX hO (c_X12_isSpot (l := l)) (va_cwS 1 hts gd_X12_78 rfl rfl rfl hd_X12_isSpot (rok hR (Nat.le_of_ble_eq_true rfl) (Nat.le_of_ble_eq_true rfl))) rfl hl.1 rfl (Nat.le_of_ble_eq_true rfl) dX12_seen_8 ⟨Nat.zero_le _, Nat.zero_le _⟩ (fun r_8 H locs e_8 hO => ?_)
    subst e_8
    refine lv_if_ne (tgt := 16) hx hb dX12_seen_11 (by decide) (fun q_11 => ?_) (fun q_11 => ?_)
    · have hl := lv_sub hl [0, 1, 2, 3] rfl (l' := [(0, .ref h), (1, .int p1), (2, .int p2), (3, .int p3)])
      exact a_16 (fun h => h.elim q_4 q_11) _ _ _ hO hl
    · have hl := lv_sub hl [] rfl (l' := [])
      exact a_14 (Or.inr q_11) _ _ _ hO hl
def wb_X12_canBe_23 (p1 : Int32) (p2 : Int32) (p3 : Int32) (k_s : Nat → Int32) (Q : Int32 → Prop) (L_23 : Int32 → Int32 → Prop) (v4_23 : Int32) (v5_23 : Int32) : Prop := (vp_in ((nI 250) + p1) 6700 ∧ (((k_s (((nI 250) + p1)).toNatClampNeg) ≤ v5_23 → (zb v4_23 ∧ (Q v4_23))) ∧ (¬ (k_s (((nI 250) + p1)).toNatClampNeg) ≤ v5_23 → (((¬ v4_23 = 0 → (vp_in (((nI 356) + ((nI 12) * p1)) + v5_23) 6700 ∧ ((k_s ((((nI 356) + ((nI 12) * p1)) + v5_23)).toNatClampNeg) = p3 → (vp_in (((nI 260) + ((nI 12) * p1)) + v5_23) 6700))))) ∧ (∀ y0_88 : Int32, y0_88 = (if v4_23 = 0 then (nI 0) else (if (k_s ((((nI 356) + ((nI 12) * p1)) + v5_23)).toNatClampNeg) = p3 then (if (k_s ((((nI 260) + ((nI 12) * p1)) + v5_23)).toNatClampNeg) = p2 then (nI 1) else (nI 0)) else (nI 1))) → (L_23 y0_88 (v5_23 + (nI 1))))))))
def wl_X12_canBe_23 (p1 : Int32) (p2 : Int32) (p3 : Int32) (k_s : Nat → Int32) (Q : Int32 → Prop) : Nat → Int32 → Int32 → Prop
  | 0, _, _ => False
  | n + 1, v4_23, v5_23 => wb_X12_canBe_23 p1 p2 p3 k_s Q (wl_X12_canBe_23 p1 p2 p3 k_s Q n) v4_23 v5_23
def wp_X12_canBe (p1 : Int32) (p2 : Int32) (p3 : Int32) (k_s : Nat → Int32) (Q : Int32 → Prop) : Prop := (vp_in ((nI 20) + p2) 6700 ∧ (∀ y0_18 : Int32, y0_18 = (if (k_s (((nI 20) + p2)).toNatClampNeg) = (nI 5) then (nI 0) else (nI 1)) → (∃ n, wl_X12_canBe_23 p1 p2 p3 k_s Q n y0_18 (nI 0))))
set_option maxHeartbeats 4000000 in
set_option maxRecDepth 100000 in
theorem c_X12_canBe {l : Launch} {D : va_G} {cI cZ cJ : ClassId} {h : Nat} {ad : Nat → Nat} {sz : Nat} {k_thrown : Int32} {k_s : Nat → Int32} {k_image : Nat → Int32} {k_hasImage : Int32} {k_steps : Nat → Int32} {k_read : Int32} {k_spot : Int32} {k_isWrong : Int32} {k_open : Int32} {k_act : Int32} {k_letBy : Nat → Int32} {k_letStamp : Nat → Int32} {k_stamp : Int32} {k_fallen : Nat → Int32} {k_held : Nat → Int32} {k_stands : Nat → Int32} {k_falling : Nat → Int32} {k_away : Nat → Int32} {k_round : Nat → Int32} {k_rests : Nat → Int64} {k_may : Nat → Int32} {k_next : Nat → Int32} {k_could : Nat → Int32} {k_couldNight : Nat → Int32} {k_night : Int32} {k_seats : Nat → Int32} {p1 : Int32} {p2 : Int32} {p3 : Int32} {Q : Int32 → Prop} (hw : wp_X12_canBe p1 p2 p3 k_s Q) : Met l yX12_canBe (Cond.code yX12_canBe cX12_canBe 6 (some .boolean) :: wsG) ({ frames := 0, cells := 0, slots := 0, locals := 0 } : Room) (preW D (tyM cI cZ cJ) (wM cI cZ cJ h ad k_thrown k_s k_image k_hasImage k_steps k_read k_spot k_isWrong k_open k_act k_letBy k_letStamp k_stamp k_fallen k_held k_stands k_falling k_away k_round k_rests k_may k_next k_could k_couldNight k_night k_seats) sz [.ref h, .int p1, .int p2, .int p3]) (qi0 D (tyM cI cZ cJ) (va_A (wM cI cZ cJ h ad k_thrown k_s k_image k_hasImage k_steps k_read k_spot k_isWrong k_open k_act k_letBy k_letStamp k_stamp k_fallen k_held k_stands k_falling k_away k_round k_rests k_may k_next k_could k_couldNight k_night k_seats) sz) Q (wM cI cZ cJ h ad k_thrown k_s k_image k_hasImage k_steps k_read k_spot k_isWrong k_open k_act k_letBy k_letStamp k_stamp k_fallen k_held k_stands k_falling k_away k_round k_rests k_may k_next k_could k_couldNight k_night k_seats)) 0 0 (va_A (wM cI cZ cJ h ad k_thrown k_s k_image k_hasImage k_steps k_read k_spot k_isWrong k_open k_act k_letBy k_letStamp k_stamp k_fallen k_held k_stands k_falling k_away k_round k_rests k_may k_next k_could k_couldNight k_night k_seats) sz) := by
  refine st_met (cc := cX12_canBe) (maxL := 6) (ret := (some .boolean)) (lv := [(0, .ref h), (1, .int p1), (2, .int p2), (3, .int p3)]) (Qc := fun A => qi0 D (tyM cI cZ cJ) A Q (wM cI cZ cJ h ad k_thrown k_s k_image k_hasImage k_steps k_read k_spot k_isWrong k_open k_act k_letBy k_letStamp k_stamp k_fallen k_held k_stands k_falling k_away k_round k_rests k_may k_next k_could k_couldNight k_night k_seats)) (by decide) rfl (Nat.le_of_ble_eq_true rfl) rfl ?_
  intro p e s m below meth c ls A R args QQ H locs C hr hlk hnm hK hX hsz hl hO hR hQQ
  have hx := C.1
  have hb := C.2.1
  have hown := C.2.2.2.1
  have hts := C.2.2.2.2
  have hin : ∀ w ∈ u_ws RX12 TX12 26, w ∈ (Cond.code yX12_canBe cX12_canBe 6 (some .boolean) :: wsG) := fun w h9 => List.mem_cons_of_mem _ (inG12 w h9)
  have lk_s := hts (Cond.fieldLink RX12 7 "FreeCityModel" "s" "[I") (List.mem_cons_of_mem _ qw5_207)
  unfold wp_X12_canBe at hw
  refine lv_aload_n hx hb dX12_canBe_0 rfl (lv_at hl 0 rfl) ?_
  refine gM_s C hin hK lk_s hO dX12_canBe_1 ?_
  refine lv_bipush (v := (nI 20)) hx hb dX12_canBe_4 (by decide) ?_
  refine lv_iload_n hx hb dX12_canBe_6 rfl (lv_at hl 2 rfl) ?_
  refine lv_iadd hx hb dX12_canBe_7 ?_
  obtain ⟨o_8, hw⟩ := hw
  refine ldM_s C hK hO o_8 rfl dX12_canBe_8 ?_
  refine lv_iconst (v := (nI 5)) hx hb dX12_canBe_9 (by decide) ?_
  have m_18 : ∀ (y0_18 : Int32) (H : Heap) (locs : List Loc) (ls : Array Slot), y0_18 = (if (k_s (((nI 20) + p2)).toNatClampNeg) = (nI 5) then (nI 0) else (nI 1)) → okW D A s.heap H locs (wM cI cZ cJ h ad k_thrown k_s k_image k_hasImage k_steps k_read k_spot k_isWrong k_open k_act k_letBy k_letStamp k_stamp k_fallen k_held k_stands k_falling k_away k_round k_rests k_may k_next k_could k_couldNight k_night k_seats) → lv_has ls 6 [(0, .ref h), (1, .int p1), (2, .int p2), (3, .int p3)] → W p l e R s m args below meth c H locs 0 0 QQ (F0 m 18 ls [.int y0_18]) := by
    intro y0_18 H locs ls ey0_18 hO hl
    have hw := hw y0_18 ey0_18
    refine lv_istore (lv' := [(4, .int y0_18), (0, .ref h), (1, .int p1), (2, .int p2), (3, .int p3)]) hx hb dX12_canBe_18 hl (by decide) rfl (fun ls hl => ?_)
    refine lv_iconst (v := (nI 0)) hx hb dX12_canBe_20 (by decide) ?_
    refine lv_istore (lv' := [(5, .int (nI 0)), (4, .int y0_18), (0, .ref h), (1, .int p1), (2, .int p2), (3, .int p3)]) hx hb dX12_canBe_21 hl (by decide) rfl (fun ls hl => ?_)
    obtain ⟨n_23, hw⟩ := hw
    have b_23 : ∀ (L_23 : Int32 → Int32 → Prop) (ih_23 : ∀ (v4_23 : Int32) (v5_23 : Int32) (H : Heap) (locs : List Loc) (ls : Array Slot), okW D A s.heap H locs (wM cI cZ cJ h ad k_thrown k_s k_image k_hasImage k_steps k_read k_spot k_isWrong k_open k_act k_letBy k_letStamp k_stamp k_fallen k_held k_stands k_falling k_away k_round k_rests k_may k_next k_could k_couldNight k_night k_seats) → lv_has ls 6 [(0, .ref h), (1, .int p1), (2, .int p2), (3, .int p3), (4, .int v4_23), (5, .int v5_23)] → L_23 v4_23 v5_23 → W p l e R s m args below meth c H locs 0 0 QQ (F0 m 23 ls [])) (v4_23 : Int32) (v5_23 : Int32) (H : Heap) (locs : List Loc) (ls : Array Slot), okW D A s.heap H locs (wM cI cZ cJ h ad k_thrown k_s k_image k_hasImage k_steps k_read k_spot k_isWrong k_open k_act k_letBy k_letStamp k_stamp k_fallen k_held k_stands k_falling k_away k_round k_rests k_may k_next k_could k_couldNight k_night k_seats) → lv_has ls 6 [(0, .ref h), (1, .int p1), (2, .int p2), (3, .int p3), (4, .int v4_23), (5, .int v5_23)] → wb_X12_canBe_23 p1 p2 p3 k_s Q L_23 v4_23 v5_23 → W p l e R s m args below meth c H locs 0 0 QQ (F0 m 23 ls []) := by
      intro L_23 ih_23 v4_23 v5_23 H locs ls hO hl hw
      unfold wb_X12_canBe_23 at hw
      refine lv_iload hx hb dX12_canBe_23 (lv_at hl 5 rfl) ?_
      refine lv_aload_n hx hb dX12_canBe_25 rfl (lv_at hl 0 rfl) ?_
      refine gM_s C hin hK lk_s hO dX12_canBe_26 ?_
      refine lv_sipush (v := (nI 250)) hx hb dX12_canBe_29 (by decide) ?_
      refine lv_iload_n hx hb dX12_canBe_32 rfl (lv_at hl 1 rfl) ?_
      refine lv_iadd hx hb dX12_canBe_33 ?_
      obtain ⟨o_34, hw⟩ := hw
      refine ldM_s C hK hO o_34 rfl dX12_canBe_34 ?_
      refine lv_icmp_ge (tgt := 96) hx hb dX12_canBe_35 (by decide) (fun q_35 => ?_) (fun q_35 => ?_)
      · have hw := hw.1 q_35
        refine lv_iload hx hb dX12_canBe_96 (lv_at hl 4 rfl) ?_
        obtain ⟨hz, hw⟩ := hw
        exact rz0 hQQ hx hb hr hlk hK hO hz hw dX12_canBe_98
      · have hw := hw.2 q_35
        refine lv_iload hx hb dX12_canBe_38 (lv_at hl 4 rfl) ?_
        obtain ⟨hs, hw⟩ := hw
        have m_88 : ∀ (y0_88 : Int32) (H : Heap) (locs : List Loc) (ls : Array Slot), y0_88 = (if v4_23 = 0 then (nI 0) else (if (k_s ((((nI 356) + ((nI 12) * p1)) + v5_23)).toNatClampNeg) = p3 then (if (k_s ((((nI 260) + ((nI 12) * p1)) + v5_23)).toNatClampNeg) = p2 then (nI 1) else (nI 0)) else (nI 1))) → okW D A s.heap H locs (wM cI cZ cJ h ad k_thrown k_s k_image k_hasImage k_steps k_read k_spot k_isWrong k_open k_act k_letBy k_letStamp k_stamp k_fallen k_held k_stands k_falling k_away k_round k_rests k_may k_next k_could k_couldNight k_night k_seats) → lv_has ls 6 [(0, .ref h), (1, .int p1), (2, .int p2), (3, .int p3), (5, .int v5_23)] → W p l e R s m args below meth c H locs 0 0 QQ (F0 m 88 ls [.int y0_88]) := by
          intro y0_88 H locs ls ey0_88 hO hl
          have hw := hw y0_88 ey0_88
          refine lv_istore (lv' := [(4, .int y0_88), (0, .ref h), (1, .int p1), (2, .int p2), (3, .int p3), (5, .int v5_23)]) hx hb dX12_canBe_88 hl (by decide) rfl (fun ls hl => ?_)
          refine lv_iinc (v := (v5_23 + (nI 1))) (lv' := [(5, .int (v5_23 + (nI 1))), (4, .int y0_88), (0, .ref h), (1, .int p1), (2, .int p2), (3, .int p3)]) hx hb dX12_canBe_90 hl (k := 5) rfl (iinc_1 _) (by decide) rfl (fun ls hl => ?_)
          refine lv_goto (tgt := 23) hx hb dX12_canBe_93 (by decide) ?_
          exact ih_23 y0_88 (v5_23 + (nI 1)) _ _ _ hO (lv_sub hl [2, 3, 4, 5, 1, 0] rfl) hw
        refine lv_if_eq (tgt := 87) hx hb dX12_canBe_40 (by decide) (fun q_40 => ?_) (fun q_40 => ?_)
        · refine lv_iconst (v := (nI 0)) hx hb dX12_canBe_87 (by decide) ?_
          have hl := lv_sub hl [0, 1, 2, 3, 5] rfl (l' := [(0, .ref h), (1, .int p1), (2, .int p2), (3, .int p3), (5, .int v5_23)])
          exact m_88 _ _ _ _ (by rw [if_pos q_40]) hO hl
        · have hs := hs q_40
          obtain ⟨o_58, hs⟩ := hs
          refine lv_aload_n hx hb dX12_canBe_43 rfl (lv_at hl 0 rfl) ?_
          refine gM_s C hin hK lk_s hO dX12_canBe_44 ?_
          refine lv_sipush (v := (nI 356)) hx hb dX12_canBe_47 (by decide) ?_
          refine lv_bipush (v := (nI 12)) hx hb dX12_canBe_50 (by decide) ?_
          refine lv_iload_n hx hb dX12_canBe_52 rfl (lv_at hl 1 rfl) ?_
          refine lv_imul hx hb dX12_canBe_53 ?_
          refine lv_iadd hx hb dX12_canBe_54 ?_
          refine lv_iload hx hb dX12_canBe_55 (lv_at hl 5 rfl) ?_
          refine lv_iadd hx hb dX12_canBe_57 ?_
          refine ldM_s C hK hO o_58 rfl dX12_canBe_58 ?_
          refine lv_iload_n hx hb dX12_canBe_59 rfl (lv_at hl 3 rfl) ?_
          refine lv_icmp_ne (tgt := 83) hx hb dX12_canBe_60 (by decide) (fun q_60 => ?_) (fun q_60 => ?_)
          · refine lv_iconst (v := (nI 1)) hx hb dX12_canBe_83 (by decide) ?_
            refine lv_goto (tgt := 88) hx hb dX12_canBe_84 (by decide) ?_
            have hl := lv_sub hl [0, 1, 2, 3, 5] rfl (l' := [(0, .ref h), (1, .int p1), (2, .int p2), (3, .int p3), (5, .int v5_23)])
            exact m_88 _ _ _ _ (by rw [if_neg q_40, if_neg q_60]) hO hl
          · have hs := hs q_60
            have o_78 := hs
            refine lv_aload_n hx hb dX12_canBe_63 rfl (lv_at hl 0 rfl) ?_
            refine gM_s C hin hK lk_s hO dX12_canBe_64 ?_
            refine lv_sipush (v := (nI 260)) hx hb dX12_canBe_67 (by decide) ?_
            refine lv_bipush (v := (nI 12)) hx hb dX12_canBe_70 (by decide) ?_
            refine lv_iload_n hx hb dX12_canBe_72 rfl (lv_at hl 1 rfl) ?_
            refine lv_imul hx hb dX12_canBe_73 ?_
            refine lv_iadd hx hb dX12_canBe_74 ?_
            refine lv_iload hx hb dX12_canBe_75 (lv_at hl 5 rfl) ?_
            refine lv_iadd hx hb dX12_canBe_77 ?_
            refine ldM_s C hK hO o_78 rfl dX12_canBe_78 ?_
            refine lv_iload_n hx hb dX12_canBe_79 rfl (lv_at hl 2 rfl) ?_
            refine lv_icmp_ne (tgt := 87) hx hb dX12_canBe_80 (by decide) (fun q_80 => ?_) (fun q_80 => ?_)
            · refine lv_iconst (v := (nI 0)) hx hb dX12_canBe_87 (by decide) ?_
              have hl := lv_sub hl [0, 1, 2, 3, 5] rfl (l' := [(0, .ref h), (1, .int p1), (2, .int p2), (3, .int p3), (5, .int v5_23)])
              exact m_88 _ _ _ _ (by rw [if_neg q_40, if_pos q_60, if_neg q_80]) hO hl
            · refine lv_iconst (v := (nI 1)) hx hb dX12_canBe_83 (by decide) ?_
              refine lv_goto (tgt := 88) hx hb dX12_canBe_84 (by decide) ?_
              have hl := lv_sub hl [0, 1, 2, 3, 5] rfl (l' := [(0, .ref h), (1, .int p1), (2, .int p2), (3, .int p3), (5, .int v5_23)])
              exact m_88 _ _ _ _ (by rw [if_neg q_40, if_pos q_60, if_pos q_80]) hO hl
    have l_23 : ∀ (n : Nat) (v4_23 : Int32) (v5_23 : Int32) (H : Heap) (locs : List Loc) (ls : Array Slot), okW D A s.heap H locs (wM cI cZ cJ h ad k_thrown k_s k_image k_hasImage k_steps k_read k_spot k_isWrong k_open k_act k_letBy k_letStamp k_stamp k_fallen k_held k_stands k_falling k_away k_round k_rests k_may k_next k_could k_couldNight k_night k_seats) → lv_has ls 6 [(0, .ref h), (1, .int p1), (2, .int p2), (3, .int p3), (4, .int v4_23), (5, .int v5_23)] → wl_X12_canBe_23 p1 p2 p3 k_s Q n v4_23 v5_23 → W p l e R s m args below meth c H locs 0 0 QQ (F0 m 23 ls []) := by
      intro n
      induction n with
      | zero => intro v4_23 v5_23 H locs ls hO hl hw; exact False.elim hw
      | succ n ih => exact b_23 _ ih
    exact l_23 n_23 y0_18 (nI 0) _ _ _ hO (lv_sub hl [2, 3, 4, 5, 1, 0] rfl) hw
  refine lv_icmp_eq (tgt := 17) hx hb dX12_canBe_10 (by decide) (fun q_10 => ?_) (fun q_10 => ?_)
  · refine lv_iconst (v := (nI 0)) hx hb dX12_canBe_17 (by decide) ?_
    have hl := lv_sub hl [0, 1, 2, 3] rfl (l' := [(0, .ref h), (1, .int p1), (2, .int p2), (3, .int p3)])
    exact m_18 _ _ _ _ (by rw [if_pos q_10]) hO hl
  · refine lv_iconst (v := (nI 1)) hx hb dX12_canBe_13 (by decide) ?_
    refine lv_goto (tgt := 18) hx hb dX12_canBe_14 (by decide) ?_
    have hl := lv_sub hl [0, 1, 2, 3] rfl (l' := [(0, .ref h), (1, .int p1), (2, .int p2), (3, .int p3)])
    exact m_18 _ _ _ _ (by rw [if_neg q_10]) hO hl
def wb_X12_finds__5 (p1 : Int32) (p2 : Int32) (k_may : Nat → Int32) (k_could : Nat → Int32) (Q : (Nat → Int32) → Prop) (L_5 : Int32 → Int32 → Prop) (v3_5 : Int32) (v4_5 : Int32) : Prop := (((nI 30) ≤ v4_5 → (vp_in (((nI 64) * p1) + p2) 512 ∧ (Q (upd k_could (((((nI 64) * p1) + p2)).toNatClampNeg) (vp_nar .boolean v3_5))))) ∧ (¬ (nI 30) ≤ v4_5 → (((v3_5 = 0 → (vp_in (((nI 64) * v4_5) + p2) 1920))) ∧ (∀ y0_36 : Int32, y0_36 = (if v3_5 = 0 then (if (k_may ((((nI 64) * v4_5) + p2)).toNatClampNeg) = 0 then (nI 0) else (nI 1)) else (nI 1)) → (L_5 y0_36 (v4_5 + (nI 1)))))))
def wl_X12_finds__5 (p1 : Int32) (p2 : Int32) (k_may : Nat → Int32) (k_could : Nat → Int32) (Q : (Nat → Int32) → Prop) : Nat → Int32 → Int32 → Prop
  | 0, _, _ => False
  | n + 1, v3_5, v4_5 => wb_X12_finds__5 p1 p2 k_may k_could Q (wl_X12_finds__5 p1 p2 k_may k_could Q n) v3_5 v4_5
def wp_X12_finds_ (p1 : Int32) (p2 : Int32) (k_may : Nat → Int32) (k_could : Nat → Int32) (Q : (Nat → Int32) → Prop) : Prop := (∃ n, wl_X12_finds__5 p1 p2 k_may k_could Q n (nI 0) (nI 0))
set_option maxHeartbeats 4000000 in
set_option maxRecDepth 100000 in
theorem c_X12_finds_ {l : Launch} {D : va_G} {cI cZ cJ : ClassId} {h : Nat} {ad : Nat → Nat} {sz : Nat} {k_thrown : Int32} {k_s : Nat → Int32} {k_image : Nat → Int32} {k_hasImage : Int32} {k_steps : Nat → Int32} {k_read : Int32} {k_spot : Int32} {k_isWrong : Int32} {k_open : Int32} {k_act : Int32} {k_letBy : Nat → Int32} {k_letStamp : Nat → Int32} {k_stamp : Int32} {k_fallen : Nat → Int32} {k_held : Nat → Int32} {k_stands : Nat → Int32} {k_falling : Nat → Int32} {k_away : Nat → Int32} {k_round : Nat → Int32} {k_rests : Nat → Int64} {k_may : Nat → Int32} {k_next : Nat → Int32} {k_could : Nat → Int32} {k_couldNight : Nat → Int32} {k_night : Int32} {k_seats : Nat → Int32} {p1 : Int32} {p2 : Int32} {Q : (Nat → Int32) → Prop} (hw : wp_X12_finds_ p1 p2 k_may k_could Q) : Met l yX12_finds_ (Cond.code yX12_finds_ cX12_finds_ 5 none :: wsG) ({ frames := 0, cells := 0, slots := 0, locals := 0 } : Room) (preW D (tyM cI cZ cJ) (wM cI cZ cJ h ad k_thrown k_s k_image k_hasImage k_steps k_read k_spot k_isWrong k_open k_act k_letBy k_letStamp k_stamp k_fallen k_held k_stands k_falling k_away k_round k_rests k_may k_next k_could k_couldNight k_night k_seats) sz [.ref h, .int p1, .int p2]) (qv1 D (tyM cI cZ cJ) (va_A (wM cI cZ cJ h ad k_thrown k_s k_image k_hasImage k_steps k_read k_spot k_isWrong k_open k_act k_letBy k_letStamp k_stamp k_fallen k_held k_stands k_falling k_away k_round k_rests k_may k_next k_could k_couldNight k_night k_seats) sz) Q (fun k_could' => (wM cI cZ cJ h ad k_thrown k_s k_image k_hasImage k_steps k_read k_spot k_isWrong k_open k_act k_letBy k_letStamp k_stamp k_fallen k_held k_stands k_falling k_away k_round k_rests k_may k_next k_could' k_couldNight k_night k_seats))) 0 0 (va_A (wM cI cZ cJ h ad k_thrown k_s k_image k_hasImage k_steps k_read k_spot k_isWrong k_open k_act k_letBy k_letStamp k_stamp k_fallen k_held k_stands k_falling k_away k_round k_rests k_may k_next k_could k_couldNight k_night k_seats) sz) := by
  refine st_met (cc := cX12_finds_) (maxL := 5) (ret := none) (lv := [(0, .ref h), (1, .int p1), (2, .int p2)]) (Qc := fun A => qv1 D (tyM cI cZ cJ) A Q (fun k_could' => (wM cI cZ cJ h ad k_thrown k_s k_image k_hasImage k_steps k_read k_spot k_isWrong k_open k_act k_letBy k_letStamp k_stamp k_fallen k_held k_stands k_falling k_away k_round k_rests k_may k_next k_could' k_couldNight k_night k_seats))) (by decide) rfl (Nat.le_of_ble_eq_true rfl) rfl ?_
  intro p e s m below meth c ls A R args QQ H locs C hr hlk hnm hK hX hsz hl hO hR hQQ
  have hx := C.1
  have hb := C.2.1
  have hown := C.2.2.2.1
  have hts := C.2.2.2.2
  have hin : ∀ w ∈ u_ws RX12 TX12 26, w ∈ (Cond.code yX12_finds_ cX12_finds_ 5 none :: wsG) := fun w h9 => List.mem_cons_of_mem _ (inG12 w h9)
  have lk_could := hts (Cond.fieldLink RX12 59 "FreeCityModel" "could" "[Z") (List.mem_cons_of_mem _ qw5_228)
  have lk_may := hts (Cond.fieldLink RX12 53 "FreeCityModel" "may" "[Z") (List.mem_cons_of_mem _ qw5_226)
  unfold wp_X12_finds_ at hw
  refine lv_iconst (v := (nI 0)) hx hb dX12_finds__0 (by decide) ?_
  refine lv_istore_n (lv' := [(3, .int (nI 0)), (0, .ref h), (1, .int p1), (2, .int p2)]) hx hb dX12_finds__1 rfl hl (by decide) rfl (fun ls hl => ?_)
  refine lv_iconst (v := (nI 0)) hx hb dX12_finds__2 (by decide) ?_
  refine lv_istore (lv' := [(4, .int (nI 0)), (3, .int (nI 0)), (0, .ref h), (1, .int p1), (2, .int p2)]) hx hb dX12_finds__3 hl (by decide) rfl (fun ls hl => ?_)
  obtain ⟨n_5, hw⟩ := hw
  have b_5 : ∀ (L_5 : Int32 → Int32 → Prop) (ih_5 : ∀ (v3_5 : Int32) (v4_5 : Int32) (H : Heap) (locs : List Loc) (ls : Array Slot), okW D A s.heap H locs (wM cI cZ cJ h ad k_thrown k_s k_image k_hasImage k_steps k_read k_spot k_isWrong k_open k_act k_letBy k_letStamp k_stamp k_fallen k_held k_stands k_falling k_away k_round k_rests k_may k_next k_could k_couldNight k_night k_seats) → lv_has ls 5 [(0, .ref h), (1, .int p1), (2, .int p2), (3, .int v3_5), (4, .int v4_5)] → L_5 v3_5 v4_5 → W p l e R s m args below meth c H locs 0 0 QQ (F0 m 5 ls [])) (v3_5 : Int32) (v4_5 : Int32) (H : Heap) (locs : List Loc) (ls : Array Slot), okW D A s.heap H locs (wM cI cZ cJ h ad k_thrown k_s k_image k_hasImage k_steps k_read k_spot k_isWrong k_open k_act k_letBy k_letStamp k_stamp k_fallen k_held k_stands k_falling k_away k_round k_rests k_may k_next k_could k_couldNight k_night k_seats) → lv_has ls 5 [(0, .ref h), (1, .int p1), (2, .int p2), (3, .int v3_5), (4, .int v4_5)] → wb_X12_finds__5 p1 p2 k_may k_could Q L_5 v3_5 v4_5 → W p l e R s m args below meth c H locs 0 0 QQ (F0 m 5 ls []) := by
    intro L_5 ih_5 v3_5 v4_5 H locs ls hO hl hw
    unfold wb_X12_finds__5 at hw
    refine lv_iload hx hb dX12_finds__5 (lv_at hl 4 rfl) ?_
    refine lv_bipush (v := (nI 30)) hx hb dX12_finds__7 (by decide) ?_
    refine lv_icmp_ge (tgt := 43) hx hb dX12_finds__9 (by decide) (fun q_9 => ?_) (fun q_9 => ?_)
    · have hw := hw.1 q_9
      refine lv_aload_n hx hb dX12_finds__43 rfl (lv_at hl 0 rfl) ?_
      refine gM_could C hin hK lk_could hO dX12_finds__44 ?_
      refine lv_bipush (v := (nI 64)) hx hb dX12_finds__47 (by decide) ?_
      refine lv_iload_n hx hb dX12_finds__49 rfl (lv_at hl 1 rfl) ?_
      refine lv_imul hx hb dX12_finds__50 ?_
      refine lv_iload_n hx hb dX12_finds__51 rfl (lv_at hl 2 rfl) ?_
      refine lv_iadd hx hb dX12_finds__52 ?_
      refine lv_iload_n hx hb dX12_finds__53 rfl (lv_at hl 3 rfl) ?_
      obtain ⟨o_54, hw⟩ := hw
      refine stM_could C hK hO o_54 rfl dX12_finds__54 (fun H locs hO => ?_)
      exact rv1 hQQ hx hb hr hlk hK hO hw dX12_finds__55
    · have hw := hw.2 q_9
      refine lv_iload_n hx hb dX12_finds__12 rfl (lv_at hl 3 rfl) ?_
      obtain ⟨hs, hw⟩ := hw
      have m_36 : ∀ (y0_36 : Int32) (H : Heap) (locs : List Loc) (ls : Array Slot), y0_36 = (if v3_5 = 0 then (if (k_may ((((nI 64) * v4_5) + p2)).toNatClampNeg) = 0 then (nI 0) else (nI 1)) else (nI 1)) → okW D A s.heap H locs (wM cI cZ cJ h ad k_thrown k_s k_image k_hasImage k_steps k_read k_spot k_isWrong k_open k_act k_letBy k_letStamp k_stamp k_fallen k_held k_stands k_falling k_away k_round k_rests k_may k_next k_could k_couldNight k_night k_seats) → lv_has ls 5 [(0, .ref h), (1, .int p1), (2, .int p2), (4, .int v4_5)] → W p l e R s m args below meth c H locs 0 0 QQ (F0 m 36 ls [.int y0_36]) := by
        intro y0_36 H locs ls ey0_36 hO hl
        have hw := hw y0_36 ey0_36
        refine lv_istore_n (lv' := [(3, .int y0_36), (0, .ref h), (1, .int p1), (2, .int p2), (4, .int v4_5)]) hx hb dX12_finds__36 rfl hl (by decide) rfl (fun ls hl => ?_)
        refine lv_iinc (v := (v4_5 + (nI 1))) (lv' := [(4, .int (v4_5 + (nI 1))), (3, .int y0_36), (0, .ref h), (1, .int p1), (2, .int p2)]) hx hb dX12_finds__37 hl (k := 4) rfl (iinc_1 _) (by decide) rfl (fun ls hl => ?_)
        refine lv_goto (tgt := 5) hx hb dX12_finds__40 (by decide) ?_
        exact ih_5 y0_36 (v4_5 + (nI 1)) _ _ _ hO (lv_sub hl [2, 3, 4, 1, 0] rfl) hw
      refine lv_if_ne (tgt := 31) hx hb dX12_finds__13 (by decide) (fun q_13 => ?_) (fun q_13 => ?_)
      · refine lv_iconst (v := (nI 1)) hx hb dX12_finds__31 (by decide) ?_
        refine lv_goto (tgt := 36) hx hb dX12_finds__32 (by decide) ?_
        have hl := lv_sub hl [0, 1, 2, 4] rfl (l' := [(0, .ref h), (1, .int p1), (2, .int p2), (4, .int v4_5)])
        exact m_36 _ _ _ _ (by rw [if_neg q_13]) hO hl
      · have hs := hs q_13
        have o_27 := hs
        refine lv_aload_n hx hb dX12_finds__16 rfl (lv_at hl 0 rfl) ?_
        refine gM_may C hin hK lk_may hO dX12_finds__17 ?_
        refine lv_bipush (v := (nI 64)) hx hb dX12_finds__20 (by decide) ?_
        refine lv_iload hx hb dX12_finds__22 (lv_at hl 4 rfl) ?_
        refine lv_imul hx hb dX12_finds__24 ?_
        refine lv_iload_n hx hb dX12_finds__25 rfl (lv_at hl 2 rfl) ?_
        refine lv_iadd hx hb dX12_finds__26 ?_
        refine ldM_may C hK hO o_27 rfl dX12_finds__27 ?_
        refine lv_if_eq (tgt := 35) hx hb dX12_finds__28 (by decide) (fun q_28 => ?_) (fun q_28 => ?_)
        · refine lv_iconst (v := (nI 0)) hx hb dX12_finds__35 (by decide) ?_
          have hl := lv_sub hl [0, 1, 2, 4] rfl (l' := [(0, .ref h), (1, .int p1), (2, .int p2), (4, .int v4_5)])
          exact m_36 _ _ _ _ (by rw [if_pos q_13, if_pos q_28]) hO hl
        · refine lv_iconst (v := (nI 1)) hx hb dX12_finds__31 (by decide) ?_
          refine lv_goto (tgt := 36) hx hb dX12_finds__32 (by decide) ?_
          have hl := lv_sub hl [0, 1, 2, 4] rfl (l' := [(0, .ref h), (1, .int p1), (2, .int p2), (4, .int v4_5)])
          exact m_36 _ _ _ _ (by rw [if_pos q_13, if_neg q_28]) hO hl
  have l_5 : ∀ (n : Nat) (v3_5 : Int32) (v4_5 : Int32) (H : Heap) (locs : List Loc) (ls : Array Slot), okW D A s.heap H locs (wM cI cZ cJ h ad k_thrown k_s k_image k_hasImage k_steps k_read k_spot k_isWrong k_open k_act k_letBy k_letStamp k_stamp k_fallen k_held k_stands k_falling k_away k_round k_rests k_may k_next k_could k_couldNight k_night k_seats) → lv_has ls 5 [(0, .ref h), (1, .int p1), (2, .int p2), (3, .int v3_5), (4, .int v4_5)] → wl_X12_finds__5 p1 p2 k_may k_could Q n v3_5 v4_5 → W p l e R s m args below meth c H locs 0 0 QQ (F0 m 5 ls []) := by
    intro n
    induction n with
    | zero => intro v3_5 v4_5 H locs ls hO hl hw; exact False.elim hw
    | succ n ih => exact b_5 _ ih
  exact l_5 n_5 (nI 0) (nI 0) _ _ _ hO (lv_sub hl [2, 3, 4, 1, 0] rfl) hw
