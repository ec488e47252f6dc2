def wp_X12_leave (p1 : Int32) (p2 : Int32) (k_s : Nat → Int32) (Q : Int32 → (Nat → Int32) → Prop) : Prop := ((((f_X12_isShip k_s p1) = 0 ∨ (f_X12_in p2 (nI 0) (nI 2)) = 0) → (Q (-1) k_s)) ∧ (¬ (((f_X12_isShip k_s p1) = 0 ∨ (f_X12_in p2 (nI 0) (nI 2)) = 0)) → (vp_in ((nI 114) + p1) 6700 ∧ (∀ x_27 : Int32, x_27 = (k_s (((nI 114) + p1)).toNatClampNeg) → ((x_27 < (-2) → (Q (-3) k_s)) ∧ (¬ x_27 < (-2) → (((x_27 = (-2) ∧ p2 = 0) → (Q (-3) k_s)) ∧ (¬ ((x_27 = (-2) ∧ p2 = 0)) → (vp_in ((nI 114) + p1) 6700 ∧ (vp_in ((nI 102) + p1) 6700 ∧ (Q ((upd k_s ((((nI 114) + p1)).toNatClampNeg) ((-2) - p2)) (((nI 102) + p1)).toNatClampNeg) (upd k_s ((((nI 114) + p1)).toNatClampNeg) ((-2) - p2)))))))))))))
set_option maxHeartbeats 4000000 in
set_option maxRecDepth 100000 in
theorem c_X12_leave {l : Launch} {D : va_G} {cI cZ cJ : ClassId} {h : Nat} {ad : Nat → Nat} {sz : Nat} {k_thrown : Int32} {k_s : Nat → Int32} {k_image : Nat → Int32} {k_hasImage : Int32} {k_steps : Nat → Int32} {k_read : Int32} {k_spot : Int32} {k_isWrong : Int32} {k_open : Int32} {k_act : Int32} {k_letBy : Nat → Int32} {k_letStamp : Nat → Int32} {k_stamp : Int32} {k_fallen : Nat → Int32} {k_held : Nat → Int32} {k_stands : Nat → Int32} {k_falling : Nat → Int32} {k_away : Nat → Int32} {k_round : Nat → Int32} {k_rests : Nat → Int64} {k_may : Nat → Int32} {k_next : Nat → Int32} {k_could : Nat → Int32} {k_couldNight : Nat → Int32} {k_night : Int32} {k_seats : Nat → Int32} {p1 : Int32} {p2 : Int32} {Q : Int32 → (Nat → Int32) → Prop} (hw : wp_X12_leave p1 p2 k_s Q) : Met l yX12_leave (Cond.code yX12_leave cX12_leave 4 (some .int) :: wsG) ({ frames := 2, cells := 0, slots := 0, locals := 43 } : Room) (preW D (tyM cI cZ cJ) (wM cI cZ cJ h ad k_thrown k_s k_image k_hasImage k_steps k_read k_spot k_isWrong k_open k_act k_letBy k_letStamp k_stamp k_fallen k_held k_stands k_falling k_away k_round k_rests k_may k_next k_could k_couldNight k_night k_seats) sz [.ref h, .int p1, .int p2]) (qi1 D (tyM cI cZ cJ) (va_A (wM cI cZ cJ h ad k_thrown k_s k_image k_hasImage k_steps k_read k_spot k_isWrong k_open k_act k_letBy k_letStamp k_stamp k_fallen k_held k_stands k_falling k_away k_round k_rests k_may k_next k_could k_couldNight k_night k_seats) sz) Q (fun k_s' => (wM cI cZ cJ h ad k_thrown k_s' k_image k_hasImage k_steps k_read k_spot k_isWrong k_open k_act k_letBy k_letStamp k_stamp k_fallen k_held k_stands k_falling k_away k_round k_rests k_may k_next k_could k_couldNight k_night k_seats))) 0 0 (va_A (wM cI cZ cJ h ad k_thrown k_s k_image k_hasImage k_steps k_read k_spot k_isWrong k_open k_act k_letBy k_letStamp k_stamp k_fallen k_held k_stands k_falling k_away k_round k_rests k_may k_next k_could k_couldNight k_night k_seats) sz) := by
  refine st_met (cc := cX12_leave) (maxL := 4) (ret := (some .int)) (lv := [(0, .ref h), (1, .int p1), (2, .int p2)]) (Qc := fun A => qi1 D (tyM cI cZ cJ) A Q (fun k_s' => (wM cI cZ cJ h ad k_thrown k_s' k_image k_hasImage k_steps k_read k_spot k_isWrong k_open k_act k_letBy k_letStamp k_stamp k_fallen k_held k_stands k_falling k_away k_round k_rests k_may k_next k_could k_couldNight k_night k_seats))) (by decide) rfl (Nat.le_of_ble_eq_true rfl) rfl ?_
  intro p e s m below meth c ls A R args QQ H locs C hr hlk hnm hK hX hsz hl hO hR hQQ
  have hx := C.1
  have hb := C.2.1
  have hown := C.2.2.2.1
  have hts := C.2.2.2.2
  have hin : ∀ w ∈ u_ws RX12 TX12 26, w ∈ (Cond.code yX12_leave cX12_leave 4 (some .int) :: wsG) := fun w h9 => List.mem_cons_of_mem _ (inG12 w h9)
  have lk_s := hts (Cond.fieldLink RX12 7 "FreeCityModel" "s" "[I") (List.mem_cons_of_mem _ qw5_207)
  unfold wp_X12_leave at hw
  refine lv_aload_n hx hb dX12_leave_0 rfl (lv_at hl 0 rfl) ?_
  refine lv_iload_n hx hb dX12_leave_1 rfl (lv_at hl 1 rfl) ?_
  refine cVi0 (As := [.int p1]) (rest := []) C hK hX hO (c_X12_isShip (l := l)) (cwV 1 hts gd_X12_215 rfl rfl rfl hd_X12_isShip (rok hR (Nat.le_of_ble_eq_true rfl) (Nat.le_of_ble_eq_true rfl))) (ci := 12) (q0 := 0) rfl rfl rfl rfl hl.1 rfl (Nat.le_of_ble_eq_true rfl) dX12_leave_2 ⟨Nat.zero_le _, Nat.zero_le _⟩ (fun r_2 H locs e_2 hO => ?_)
  subst e_2
  have a_17 : ((f_X12_isShip k_s p1) = 0 ∨ (f_X12_in p2 (nI 0) (nI 2)) = 0) → ∀ (H : Heap) (locs : List Loc) (ls : Array Slot), okW D A s.heap H locs (wM cI cZ cJ h ad k_thrown k_s k_image k_hasImage k_steps k_read k_spot k_isWrong k_open k_act k_letBy k_letStamp k_stamp k_fallen k_held k_stands k_falling k_away k_round k_rests k_may k_next k_could k_couldNight k_night k_seats) → lv_has ls 4 [] → W p l e R s m args below meth c H locs 0 0 QQ (F0 m 17 ls []) := by
    intro cf H locs ls hO hl
    have hw := hw.1 cf
    refine lv_iconst (v := (-1)) hx hb dX12_leave_17 (by decide) ?_
    exact ri1 hQQ hx hb hr hlk hK hO hw dX12_leave_18
  have a_19 : ¬ (((f_X12_isShip k_s p1) = 0 ∨ (f_X12_in p2 (nI 0) (nI 2)) = 0)) → ∀ (H : Heap) (locs : List Loc) (ls : Array Slot), okW D A s.heap H locs (wM cI cZ cJ h ad k_thrown k_s k_image k_hasImage k_steps k_read k_spot k_isWrong k_open k_act k_letBy k_letStamp k_stamp k_fallen k_held k_stands k_falling k_away k_round k_rests k_may k_next k_could k_couldNight k_night k_seats) → lv_has ls 4 [(0, .ref h), (1, .int p1), (2, .int p2)] → W p l e R s m args below meth c H locs 0 0 QQ (F0 m 19 ls []) := by
    intro cf H locs ls hO hl
    have hw := hw.2 cf
    refine lv_aload_n hx hb dX12_leave_19 rfl (lv_at hl 0 rfl) ?_
    refine gM_s C hin hK lk_s hO dX12_leave_20 ?_
    refine lv_bipush (v := (nI 114)) hx hb dX12_leave_23 (by decide) ?_
    refine lv_iload_n hx hb dX12_leave_25 rfl (lv_at hl 1 rfl) ?_
    refine lv_iadd hx hb dX12_leave_26 ?_
    obtain ⟨o_27, hw⟩ := hw
    refine ldM_s C hK hO o_27 rfl dX12_leave_27 ?_
    refine lv_topi (fun x_27 ex_27 => ?_)
    have hw := hw x_27 ex_27
    refine lv_istore_n (lv' := [(3, .int x_27), (0, .ref h), (1, .int p1), (2, .int p2)]) hx hb dX12_leave_28 rfl hl (by decide) rfl (fun ls hl => ?_)
    refine lv_iload_n hx hb dX12_leave_29 rfl (lv_at hl 0 rfl) ?_
    refine lv_bipush (v := (-2)) hx hb dX12_leave_30 (by decide) ?_
    refine lv_icmp_lt (tgt := 45) hx hb dX12_leave_32 (by decide) (fun q_32 => ?_) (fun q_32 => ?_)
    · have hw := hw.1 q_32
      refine lv_bipush (v := (-3)) hx hb dX12_leave_45 (by decide) ?_
      exact ri1 hQQ hx hb hr hlk hK hO hw dX12_leave_47
    · have hw := hw.2 q_32
      refine lv_iload_n hx hb dX12_leave_35 rfl (lv_at hl 0 rfl) ?_
      refine lv_bipush (v := (-2)) hx hb dX12_leave_36 (by decide) ?_
      have a_45 : (x_27 = (-2) ∧ p2 = 0) → ∀ (H : Heap) (locs : List Loc) (ls : Array Slot), okW D A s.heap H locs (wM cI cZ cJ h ad k_thrown k_s k_image k_hasImage k_steps k_read k_spot k_isWrong k_open k_act k_letBy k_letStamp k_stamp k_fallen k_held k_stands k_falling k_away k_round k_rests k_may k_next k_could k_couldNight k_night k_seats) → lv_has ls 4 [] → W p l e R s m args below meth c H locs 0 0 QQ (F0 m 45 ls []) := by
        intro cf H locs ls hO hl
        have hw := hw.1 cf
        refine lv_bipush (v := (-3)) hx hb dX12_leave_45 (by decide) ?_
        exact ri1 hQQ hx hb hr hlk hK hO hw dX12_leave_47
      have a_48 : ¬ ((x_27 = (-2) ∧ p2 = 0)) → ∀ (H : Heap) (locs : List Loc) (ls : Array Slot), okW D A s.heap H locs (wM cI cZ cJ h ad k_thrown k_s k_image k_hasImage k_steps k_read k_spot k_isWrong k_open k_act k_letBy k_letStamp k_stamp k_fallen k_held k_stands k_falling k_away k_round k_rests k_may k_next k_could k_couldNight k_night k_seats) → lv_has ls 4 [(0, .ref h), (1, .int p1), (2, .int p2)] → W p l e R s m args below meth c H locs 0 0 QQ (F0 m 48 ls []) := by
        intro cf H locs ls hO hl
        have hw := hw.2 cf
        refine lv_aload_n hx hb dX12_leave_48 rfl (lv_at hl 0 rfl) ?_
        refine gM_s C hin hK lk_s hO dX12_leave_49 ?_
        refine lv_bipush (v := (nI 114)) hx hb dX12_leave_52 (by decide) ?_
        refine lv_iload_n hx hb dX12_leave_54 rfl (lv_at hl 1 rfl) ?_
        refine lv_iadd hx hb dX12_leave_55 ?_
        refine lv_bipush (v := (-2)) hx hb dX12_leave_56 (by decide) ?_
        refine lv_iload_n hx hb dX12_leave_58 rfl (lv_at hl 2 rfl) ?_
        refine lv_isub hx hb dX12_leave_59 ?_
        obtain ⟨o_60, hw⟩ := hw
        refine stM_s C hK hO o_60 rfl dX12_leave_60 (fun H locs hO => ?_)
        refine lv_aload_n hx hb dX12_leave_61 rfl (lv_at hl 0 rfl) ?_
        refine gM_s C hin hK lk_s hO dX12_leave_62 ?_
        refine lv_bipush (v := (nI 102)) hx hb dX12_leave_65 (by decide) ?_
        refine lv_iload_n hx hb dX12_leave_67 rfl (lv_at hl 1 rfl) ?_
        refine lv_iadd hx hb dX12_leave_68 ?_
        obtain ⟨o_69, hw⟩ := hw
        refine ldM_s C hK hO o_69 rfl dX12_leave_69 ?_
        exact ri1 hQQ hx hb hr hlk hK hO hw dX12_leave_70
      refine lv_icmp_ne (tgt := 48) hx hb dX12_leave_38 (by decide) (fun q_38 => ?_) (fun q_38 => ?_)
      · have hl := lv_sub hl [1, 2, 3] rfl (l' := [(0, .ref h), (1, .int p1), (2, .int p2)])
        exact a_48 (fun h => q_38 h.1) _ _ _ hO hl
      · refine lv_iload_n hx hb dX12_leave_41 rfl (lv_at hl 3 rfl) ?_
        refine lv_if_ne (tgt := 48) hx hb dX12_leave_42 (by decide) (fun q_42 => ?_) (fun q_42 => ?_)
        · have hl := lv_sub hl [1, 2, 3] rfl (l' := [(0, .ref h), (1, .int p1), (2, .int p2)])
          exact a_48 (fun h => (q_42) h.2) _ _ _ hO hl
        · have hl := lv_sub hl [] rfl (l' := [])
          exact a_45 ⟨q_38, q_42⟩ _ _ _ hO hl
  refine lv_if_eq (tgt := 17) hx hb dX12_leave_5 (by decide) (fun q_5 => ?_) (fun q_5 => ?_)
  · have hl := lv_sub hl [] rfl (l' := [])
    exact a_17 (Or.inl q_5) _ _ _ hO hl
  · refine lv_iload_n hx hb dX12_leave_8 rfl (lv_at hl 2 rfl) ?_
    refine lv_iconst (v := (nI 0)) hx hb dX12_leave_9 (by decide) ?_
    refine lv_iconst (v := (nI 2)) hx hb dX12_leave_10 (by decide) ?_
    refine cSi0 (As := [.int p2, .int (nI 0), .int (nI 2)]) (rest := []) C hK hX hO (c_X12_in (l := l)) (va_cwS 3 hts gd_X12_74 rfl rfl rfl hd_X12_in (rok hR (Nat.le_of_ble_eq_true rfl) (Nat.le_of_ble_eq_true rfl))) rfl hl.1 rfl (Nat.le_of_ble_eq_true rfl) dX12_leave_11 ⟨Nat.zero_le _, Nat.zero_le _⟩ (fun r_11 H locs e_11 hO => ?_)
    subst e_11
    refine lv_if_ne (tgt := 19) hx hb dX12_leave_14 (by decide) (fun q_14 => ?_) (fun q_14 => ?_)
    · have hl := lv_sub hl [0, 1, 2] rfl (l' := [(0, .ref h), (1, .int p1), (2, .int p2)])
      exact a_19 (fun h => h.elim q_5 q_14) _ _ _ hO hl
    · have hl := lv_sub hl [] rfl (l' := [])
      exact a_17 (Or.inr q_14) _ _ _ hO hl
def wp_X12_goods (p1 : Int32) (p2 : Int32) (k_s : Nat → Int32) (Q : Int32 → (Nat → Int32) → Prop) : Prop := ((¬ (f_X12_isShip k_s p1) = 0 → ((¬ (f_X12_in p2 (nI 1) (nI 999)) = 0 → (vp_in ((nI 114) + p1) 6700 ∧ (((¬ (k_s (((nI 114) + p1)).toNatClampNeg) < 0 → (vp_in ((nI 102) + p1) 6700))) ∧ ((((k_s (((nI 114) + p1)).toNatClampNeg) < 0 ∨ ¬ p2 ≤ (k_s (((nI 102) + p1)).toNatClampNeg)) → (Q (-3) k_s)) ∧ (¬ (((k_s (((nI 114) + p1)).toNatClampNeg) < 0 ∨ ¬ p2 ≤ (k_s (((nI 102) + p1)).toNatClampNeg))) → (vp_in ((nI 102) + p1) 6700 ∧ (vp_in ((nI 102) + p1) 6700 ∧ (vp_in ((nI 90) + p1) 6700 ∧ (vp_in ((nI 50) + ((upd k_s ((((nI 102) + p1)).toNatClampNeg) ((k_s (((nI 102) + p1)).toNatClampNeg) - p2)) (((nI 90) + p1)).toNatClampNeg)) 6700 ∧ (vp_in ((nI 50) + ((upd k_s ((((nI 102) + p1)).toNatClampNeg) ((k_s (((nI 102) + p1)).toNatClampNeg) - p2)) (((nI 90) + p1)).toNatClampNeg)) 6700 ∧ (vp_in ((nI 90) + p1) 6700 ∧ (vp_in ((nI 50) + ((upd (upd k_s ((((nI 102) + p1)).toNatClampNeg) ((k_s (((nI 102) + p1)).toNatClampNeg) - p2)) ((((nI 50) + ((upd k_s ((((nI 102) + p1)).toNatClampNeg) ((k_s (((nI 102) + p1)).toNatClampNeg) - p2)) (((nI 90) + p1)).toNatClampNeg))).toNatClampNeg) (((upd k_s ((((nI 102) + p1)).toNatClampNeg) ((k_s (((nI 102) + p1)).toNatClampNeg) - p2)) (((nI 50) + ((upd k_s ((((nI 102) + p1)).toNatClampNeg) ((k_s (((nI 102) + p1)).toNatClampNeg) - p2)) (((nI 90) + p1)).toNatClampNeg))).toNatClampNeg) + p2)) (((nI 90) + p1)).toNatClampNeg)) 6700 ∧ (Q ((upd (upd k_s ((((nI 102) + p1)).toNatClampNeg) ((k_s (((nI 102) + p1)).toNatClampNeg) - p2)) ((((nI 50) + ((upd k_s ((((nI 102) + p1)).toNatClampNeg) ((k_s (((nI 102) + p1)).toNatClampNeg) - p2)) (((nI 90) + p1)).toNatClampNeg))).toNatClampNeg) (((upd k_s ((((nI 102) + p1)).toNatClampNeg) ((k_s (((nI 102) + p1)).toNatClampNeg) - p2)) (((nI 50) + ((upd k_s ((((nI 102) + p1)).toNatClampNeg) ((k_s (((nI 102) + p1)).toNatClampNeg) - p2)) (((nI 90) + p1)).toNatClampNeg))).toNatClampNeg) + p2)) (((nI 50) + ((upd (upd k_s ((((nI 102) + p1)).toNatClampNeg) ((k_s (((nI 102) + p1)).toNatClampNeg) - p2)) ((((nI 50) + ((upd k_s ((((nI 102) + p1)).toNatClampNeg) ((k_s (((nI 102) + p1)).toNatClampNeg) - p2)) (((nI 90) + p1)).toNatClampNeg))).toNatClampNeg) (((upd k_s ((((nI 102) + p1)).toNatClampNeg) ((k_s (((nI 102) + p1)).toNatClampNeg) - p2)) (((nI 50) + ((upd k_s ((((nI 102) + p1)).toNatClampNeg) ((k_s (((nI 102) + p1)).toNatClampNeg) - p2)) (((nI 90) + p1)).toNatClampNeg))).toNatClampNeg) + p2)) (((nI 90) + p1)).toNatClampNeg))).toNatClampNeg) (upd (upd k_s ((((nI 102) + p1)).toNatClampNeg) ((k_s (((nI 102) + p1)).toNatClampNeg) - p2)) ((((nI 50) + ((upd k_s ((((nI 102) + p1)).toNatClampNeg) ((k_s (((nI 102) + p1)).toNatClampNeg) - p2)) (((nI 90) + p1)).toNatClampNeg))).toNatClampNeg) (((upd k_s ((((nI 102) + p1)).toNatClampNeg) ((k_s (((nI 102) + p1)).toNatClampNeg) - p2)) (((nI 50) + ((upd k_s ((((nI 102) + p1)).toNatClampNeg) ((k_s (((nI 102) + p1)).toNatClampNeg) - p2)) (((nI 90) + p1)).toNatClampNeg))).toNatClampNeg) + p2))))))))))))))) ∧ ((f_X12_in p2 (nI 1) (nI 999)) = 0 → (Q (-2) k_s)))) ∧ ((f_X12_isShip k_s p1) = 0 → (Q (-1) k_s)))
set_option maxHeartbeats 4000000 in
set_option maxRecDepth 100000 in
theorem c_X12_goods {l : Launch} {D : va_G} {cI cZ cJ : ClassId} {h : Nat} {ad : Nat → Nat} {sz : Nat} {k_thrown : Int32} {k_s : Nat → Int32} {k_image : Nat → Int32} {k_hasImage : Int32} {k_steps : Nat → Int32} {k_read : Int32} {k_spot : Int32} {k_isWrong : Int32} {k_open : Int32} {k_act : Int32} {k_letBy : Nat → Int32} {k_letStamp : Nat → Int32} {k_stamp : Int32} {k_fallen : Nat → Int32} {k_held : Nat → Int32} {k_stands : Nat → Int32} {k_falling : Nat → Int32} {k_away : Nat → Int32} {k_round : Nat → Int32} {k_rests : Nat → Int64} {k_may : Nat → Int32} {k_next : Nat → Int32} {k_could : Nat → Int32} {k_couldNight : Nat → Int32} {k_night : Int32} {k_seats : Nat → Int32} {p1 : Int32} {p2 : Int32} {Q : Int32 → (Nat → Int32) → Prop} (hw : wp_X12_goods p1 p2 k_s Q) : Met l yX12_goods (Cond.code yX12_goods cX12_goods 3 (some .int) :: wsG) ({ frames := 2, cells := 0, slots := 0, locals := 43 } : Room) (preW D (tyM cI cZ cJ) (wM cI cZ cJ h ad k_thrown k_s k_image k_hasImage k_steps k_read k_spot k_isWrong k_open k_act k_letBy k_letStamp k_stamp k_fallen k_held k_stands k_falling k_away k_round k_rests k_may k_next k_could k_couldNight k_night k_seats) sz [.ref h, .int p1, .int p2]) (qi1 D (tyM cI cZ cJ) (va_A (wM cI cZ cJ h ad k_thrown k_s k_image k_hasImage k_steps k_read k_spot k_isWrong k_open k_act k_letBy k_letStamp k_stamp k_fallen k_held k_stands k_falling k_away k_round k_rests k_may k_next k_could k_couldNight k_night k_seats) sz) Q (fun k_s' => (wM cI cZ cJ h ad k_thrown k_s' k_image k_hasImage k_steps k_read k_spot k_isWrong k_open k_act k_letBy k_letStamp k_stamp k_fallen k_held k_stands k_falling k_away k_round k_rests k_may k_next k_could k_couldNight k_night k_seats))) 0 0 (va_A (wM cI cZ cJ h ad k_thrown k_s k_image k_hasImage k_steps k_read k_spot k_isWrong k_open k_act k_letBy k_letStamp k_stamp k_fallen k_held k_stands k_falling k_away k_round k_rests k_may k_next k_could k_couldNight k_night k_seats) sz) := by
  refine st_met (cc := cX12_goods) (maxL := 3) (ret := (some .int)) (lv := [(0, .ref h), (1, .int p1), (2, .int p2)]) (Qc := fun A => qi1 D (tyM cI cZ cJ) A Q (fun k_s' => (wM cI cZ cJ h ad k_thrown k_s' k_image k_hasImage k_steps k_read k_spot k_isWrong k_open k_act k_letBy k_letStamp k_stamp k_fallen k_held k_stands k_falling k_away k_round k_rests k_may k_next k_could k_couldNight k_night k_seats))) (by decide) rfl (Nat.le_of_ble_eq_true rfl) rfl ?_
  intro p e s m below meth c ls A R args QQ H locs C hr hlk hnm hK hX hsz hl hO hR hQQ
  have hx := C.1
  have hb := C.2.1
  have hown := C.2.2.2.1
  have hts := C.2.2.2.2
  have hin : ∀ w ∈ u_ws RX12 TX12 26, w ∈ (Cond.code yX12_goods cX12_goods 3 (some .int) :: wsG) := fun w h9 => List.mem_cons_of_mem _ (inG12 w h9)
  have lk_s := hts (Cond.fieldLink RX12 7 "FreeCityModel" "s" "[I") (List.mem_cons_of_mem _ qw5_207)
  unfold wp_X12_goods at hw
  refine lv_aload_n hx hb dX12_goods_0 rfl (lv_at hl 0 rfl) ?_
  refine lv_iload_n hx hb dX12_goods_1 rfl (lv_at hl 1 rfl) ?_
  refine cVi0 (As := [.int p1]) (rest := []) C hK hX hO (c_X12_isShip (l := l)) (cwV 1 hts gd_X12_215 rfl rfl rfl hd_X12_isShip (rok hR (Nat.le_of_ble_eq_true rfl) (Nat.le_of_ble_eq_true rfl))) (ci := 12) (q0 := 0) rfl rfl rfl rfl hl.1 rfl (Nat.le_of_ble_eq_true rfl) dX12_goods_2 ⟨Nat.zero_le _, Nat.zero_le _⟩ (fun r_2 H locs e_2 hO => ?_)
  subst e_2
  refine lv_if_ne (tgt := 10) hx hb dX12_goods_5 (by decide) (fun q_5 => ?_) (fun q_5 => ?_)
  · have hw := hw.1 q_5
    refine lv_iload_n hx hb dX12_goods_10 rfl (lv_at hl 2 rfl) ?_
    refine lv_iconst (v := (nI 1)) hx hb dX12_goods_11 (by decide) ?_
    refine lv_sipush (v := (nI 999)) hx hb dX12_goods_12 (by decide) ?_
    refine cSi0 (As := [.int p2, .int (nI 1), .int (nI 999)]) (rest := []) C hK hX hO (c_X12_in (l := l)) (va_cwS 3 hts gd_X12_74 rfl rfl rfl hd_X12_in (rok hR (Nat.le_of_ble_eq_true rfl) (Nat.le_of_ble_eq_true rfl))) rfl hl.1 rfl (Nat.le_of_ble_eq_true rfl) dX12_goods_15 ⟨Nat.zero_le _, Nat.zero_le _⟩ (fun r_15 H locs e_15 hO => ?_)
    subst e_15
    refine lv_if_ne (tgt := 24) hx hb dX12_goods_18 (by decide) (fun q_18 => ?_) (fun q_18 => ?_)
    · have hw := hw.1 q_18
      refine lv_aload_n hx hb dX12_goods_24 rfl (lv_at hl 0 rfl) ?_
      refine gM_s C hin hK lk_s hO dX12_goods_25 ?_
      refine lv_bipush (v := (nI 114)) hx hb dX12_goods_28 (by decide) ?_
      refine lv_iload_n hx hb dX12_goods_30 rfl (lv_at hl 1 rfl) ?_
      refine lv_iadd hx hb dX12_goods_31 ?_
      obtain ⟨o_32, hw⟩ := hw
      refine ldM_s C hK hO o_32 rfl dX12_goods_32 ?_
      obtain ⟨hs, hw⟩ := hw
      have a_49 : ((k_s (((nI 114) + p1)).toNatClampNeg) < 0 ∨ ¬ p2 ≤ (k_s (((nI 102) + p1)).toNatClampNeg)) → ∀ (H : Heap) (locs : List Loc) (ls : Array Slot), okW D A s.heap H locs (wM cI cZ cJ h ad k_thrown k_s k_image k_hasImage k_steps k_read k_spot k_isWrong k_open k_act k_letBy k_letStamp k_stamp k_fallen k_held k_stands k_falling k_away k_round k_rests k_may k_next k_could k_couldNight k_night k_seats) → lv_has ls 3 [] → W p l e R s m args below meth c H locs 0 0 QQ (F0 m 49 ls []) := by
        intro cf H locs ls hO hl
        have hw := hw.1 cf
        refine lv_bipush (v := (-3)) hx hb dX12_goods_49 (by decide) ?_
        exact ri1 hQQ hx hb hr hlk hK hO hw dX12_goods_51
      have a_52 : ¬ (((k_s (((nI 114) + p1)).toNatClampNeg) < 0 ∨ ¬ p2 ≤ (k_s (((nI 102) + p1)).toNatClampNeg))) → ∀ (H : Heap) (locs : List Loc) (ls : Array Slot), okW D A s.heap H locs (wM cI cZ cJ h ad k_thrown k_s k_image k_hasImage k_steps k_read k_spot k_isWrong k_open k_act k_letBy k_letStamp k_stamp k_fallen k_held k_stands k_falling k_away k_round k_rests k_may k_next k_could k_couldNight k_night k_seats) → lv_has ls 3 [(0, .ref h), (1, .int p1), (2, .int p2)] → W p l e R s m args below meth c H locs 0 0 QQ (F0 m 52 ls []) := by
        intro cf H locs ls hO hl
        have hw := hw.2 cf
        refine lv_aload_n hx hb dX12_goods_52 rfl (lv_at hl 0 rfl) ?_
        refine gM_s C hin hK lk_s hO dX12_goods_53 ?_
        refine lv_bipush (v := (nI 102)) hx hb dX12_goods_56 (by decide) ?_
        refine lv_iload_n hx hb dX12_goods_58 rfl (lv_at hl 1 rfl) ?_
        refine lv_iadd hx hb dX12_goods_59 ?_
        refine lv_dup2_11 hx hb dX12_goods_60 rfl rfl ?_
        obtain ⟨o_61, hw⟩ := hw
        refine ldM_s C hK hO o_61 rfl dX12_goods_61 ?_
        refine lv_iload_n hx hb dX12_goods_62 rfl (lv_at hl 2 rfl) ?_
        refine lv_isub hx hb dX12_goods_63 ?_
        obtain ⟨o_64, hw⟩ := hw
        refine stM_s C hK hO o_64 rfl dX12_goods_64 (fun H locs hO => ?_)
        refine lv_aload_n hx hb dX12_goods_65 rfl (lv_at hl 0 rfl) ?_
        refine gM_s C hin hK lk_s hO dX12_goods_66 ?_
        refine lv_bipush (v := (nI 50)) hx hb dX12_goods_69 (by decide) ?_
        refine lv_aload_n hx hb dX12_goods_71 rfl (lv_at hl 0 rfl) ?_
        refine gM_s C hin hK lk_s hO dX12_goods_72 ?_
        refine lv_bipush (v := (nI 90)) hx hb dX12_goods_75 (by decide) ?_
        refine lv_iload_n hx hb dX12_goods_77 rfl (lv_at hl 1 rfl) ?_
        refine lv_iadd hx hb dX12_goods_78 ?_
        obtain ⟨o_79, hw⟩ := hw
        refine ldM_s C hK hO o_79 rfl dX12_goods_79 ?_
        refine lv_iadd hx hb dX12_goods_80 ?_
        refine lv_dup2_11 hx hb dX12_goods_81 rfl rfl ?_
        obtain ⟨o_82, hw⟩ := hw
        refine ldM_s C hK hO o_82 rfl dX12_goods_82 ?_
        refine lv_iload_n hx hb dX12_goods_83 rfl (lv_at hl 2 rfl) ?_
        refine lv_iadd hx hb dX12_goods_84 ?_
        obtain ⟨o_85, hw⟩ := hw
        refine stM_s C hK hO o_85 rfl dX12_goods_85 (fun H locs hO => ?_)
        refine lv_aload_n hx hb dX12_goods_86 rfl (lv_at hl 0 rfl) ?_
        refine gM_s C hin hK lk_s hO dX12_goods_87 ?_
        refine lv_bipush (v := (nI 50)) hx hb dX12_goods_90 (by decide) ?_
        refine lv_aload_n hx hb dX12_goods_92 rfl (lv_at hl 0 rfl) ?_
        refine gM_s C hin hK lk_s hO dX12_goods_93 ?_
        refine lv_bipush (v := (nI 90)) hx hb dX12_goods_96 (by decide) ?_
        refine lv_iload_n hx hb dX12_goods_98 rfl (lv_at hl 1 rfl) ?_
        refine lv_iadd hx hb dX12_goods_99 ?_
        obtain ⟨o_100, hw⟩ := hw
        refine ldM_s C hK hO o_100 rfl dX12_goods_100 ?_
        refine lv_iadd hx hb dX12_goods_101 ?_
        obtain ⟨o_102, hw⟩ := hw
        refine ldM_s C hK hO o_102 rfl dX12_goods_102 ?_
        exact ri1 hQQ hx hb hr hlk hK hO hw dX12_goods_103
      refine lv_if_lt (tgt := 49) hx hb dX12_goods_33 (by decide) (fun q_33 => ?_) (fun q_33 => ?_)
      · have hl := lv_sub hl [] rfl (l' := [])
        exact a_49 (Or.inl q_33) _ _ _ hO hl
      · have hs := hs q_33
        have o_44 := hs
        refine lv_aload_n hx hb dX12_goods_36 rfl (lv_at hl 0 rfl) ?_
        refine gM_s C hin hK lk_s hO dX12_goods_37 ?_
        refine lv_bipush (v := (nI 102)) hx hb dX12_goods_40 (by decide) ?_
        refine lv_iload_n hx hb dX12_goods_42 rfl (lv_at hl 1 rfl) ?_
        refine lv_iadd hx hb dX12_goods_43 ?_
        refine ldM_s C hK hO o_44 rfl dX12_goods_44 ?_
        refine lv_iload_n hx hb dX12_goods_45 rfl (lv_at hl 2 rfl) ?_
        refine lv_icmp_ge (tgt := 52) hx hb dX12_goods_46 (by decide) (fun q_46 => ?_) (fun q_46 => ?_)
        · have hl := lv_sub hl [0, 1, 2] rfl (l' := [(0, .ref h), (1, .int p1), (2, .int p2)])
          exact a_52 (fun h => h.elim q_33 (fun h => h q_46)) _ _ _ hO hl
        · have hl := lv_sub hl [] rfl (l' := [])
          exact a_49 (Or.inr q_46) _ _ _ hO hl
    · have hw := hw.2 q_18
      refine lv_bipush (v := (-2)) hx hb dX12_goods_21 (by decide) ?_
      exact ri1 hQQ hx hb hr hlk hK hO hw dX12_goods_23
  · have hw := hw.2 q_5
    refine lv_iconst (v := (-1)) hx hb dX12_goods_8 (by decide) ?_
    exact ri1 hQQ hx hb hr hlk hK hO hw dX12_goods_9
def wp_X12_coin (p1 : Int32) (p2 : Int32) (p3 : Int32) (k_s : Nat → Int32) (Q : Int32 → (Nat → Int32) → Prop) : Prop := ((¬ (f_X12_isGood p1) = 0 → ((¬ (f_X12_in p2 (nI 1) (nI 999)) = 0 → (vp_in ((nI 50) + p1) 6700 ∧ ((p2 ≤ (k_s (((nI 50) + p1)).toNatClampNeg) → (vp_in ((nI 50) + p1) 6700 ∧ (vp_in ((nI 50) + p1) 6700 ∧ (∀ y1_67 : Int32, y1_67 = (if p3 = 0 then (nI 54) else (nI 58)) → (vp_in (y1_67 + p1) 6700 ∧ (vp_in (y1_67 + p1) 6700 ∧ (((p3 = 0 → (vp_in ((nI 62) + p1) 6700))) ∧ (∀ y3_100 : Int32, y3_100 = (if p3 = 0 then (p2 * ((upd (upd k_s ((((nI 50) + p1)).toNatClampNeg) ((k_s (((nI 50) + p1)).toNatClampNeg) - p2)) (((y1_67 + p1)).toNatClampNeg) (((upd k_s ((((nI 50) + p1)).toNatClampNeg) ((k_s (((nI 50) + p1)).toNatClampNeg) - p2)) ((y1_67 + p1)).toNatClampNeg) + p2)) (((nI 62) + p1)).toNatClampNeg)) else (nI 0)) → (Q ((upd (upd (upd k_s ((((nI 50) + p1)).toNatClampNeg) ((k_s (((nI 50) + p1)).toNatClampNeg) - p2)) (((y1_67 + p1)).toNatClampNeg) (((upd k_s ((((nI 50) + p1)).toNatClampNeg) ((k_s (((nI 50) + p1)).toNatClampNeg) - p2)) ((y1_67 + p1)).toNatClampNeg) + p2)) 4 (((upd (upd k_s ((((nI 50) + p1)).toNatClampNeg) ((k_s (((nI 50) + p1)).toNatClampNeg) - p2)) (((y1_67 + p1)).toNatClampNeg) (((upd k_s ((((nI 50) + p1)).toNatClampNeg) ((k_s (((nI 50) + p1)).toNatClampNeg) - p2)) ((y1_67 + p1)).toNatClampNeg) + p2)) 4) + y3_100)) 4) (upd (upd (upd k_s ((((nI 50) + p1)).toNatClampNeg) ((k_s (((nI 50) + p1)).toNatClampNeg) - p2)) (((y1_67 + p1)).toNatClampNeg) (((upd k_s ((((nI 50) + p1)).toNatClampNeg) ((k_s (((nI 50) + p1)).toNatClampNeg) - p2)) ((y1_67 + p1)).toNatClampNeg) + p2)) 4 (((upd (upd k_s ((((nI 50) + p1)).toNatClampNeg) ((k_s (((nI 50) + p1)).toNatClampNeg) - p2)) (((y1_67 + p1)).toNatClampNeg) (((upd k_s ((((nI 50) + p1)).toNatClampNeg) ((k_s (((nI 50) + p1)).toNatClampNeg) - p2)) ((y1_67 + p1)).toNatClampNeg) + p2)) 4) + y3_100))))))))))) ∧ (¬ p2 ≤ (k_s (((nI 50) + p1)).toNatClampNeg) → (Q (-3) k_s))))) ∧ ((f_X12_in p2 (nI 1) (nI 999)) = 0 → (Q (-2) k_s)))) ∧ ((f_X12_isGood p1) = 0 → (Q (-1) k_s)))
set_option maxHeartbeats 4000000 in
set_option maxRecDepth 100000 in
theorem c_X12_coin {l : Launch} {D : va_G} {cI cZ cJ : ClassId} {h : Nat} {ad : Nat → Nat} {sz : Nat} {k_thrown : Int32} {k_s : Nat → Int32} {k_image : Nat → Int32} {k_hasImage : Int32} {k_steps : Nat → Int32} {k_read : Int32} {k_spot : Int32} {k_isWrong : Int32} {k_open : Int32} {k_act : Int32} {k_letBy : Nat → Int32} {k_letStamp : Nat → Int32} {k_stamp : Int32} {k_fallen : Nat → Int32} {k_held : Nat → Int32} {k_stands : Nat → Int32} {k_falling : Nat → Int32} {k_away : Nat → Int32} {k_round : Nat → Int32} {k_rests : Nat → Int64} {k_may : Nat → Int32} {k_next : Nat → Int32} {k_could : Nat → Int32} {k_couldNight : Nat → Int32} {k_night : Int32} {k_seats : Nat → Int32} {p1 : Int32} {p2 : Int32} {p3 : Int32} {Q : Int32 → (Nat → Int32) → Prop} (hw : wp_X12_coin p1 p2 p3 k_s Q) : Met l yX12_coin (Cond.code yX12_coin cX12_coin 4 (some .int) :: wsG) ({ frames := 2, cells := 0, slots := 0, locals := 42 } : Room) (preW D (tyM cI cZ cJ) (wM cI cZ cJ h ad k_thrown k_s k_image k_hasImage k_steps k_read k_spot k_isWrong k_open k_act k_letBy k_letStamp k_stamp k_fallen k_held k_stands k_falling k_away k_round k_rests k_may k_next k_could k_couldNight k_night k_seats) sz [.ref h, .int p1, .int p2, .int p3]) (qi1 D (tyM cI cZ cJ) (va_A (wM cI cZ cJ h ad k_thrown k_s k_image k_hasImage k_steps k_read k_spot k_isWrong k_open k_act k_letBy k_letStamp k_stamp k_fallen k_held k_stands k_falling k_away k_round k_rests k_may k_next k_could k_couldNight k_night k_seats) sz) Q (fun k_s' => (wM cI cZ cJ h ad k_thrown k_s' k_image k_hasImage k_steps k_read k_spot k_isWrong k_open k_act k_letBy k_letStamp k_stamp k_fallen k_held k_stands k_falling k_away k_round k_rests k_may k_next k_could k_couldNight k_night k_seats))) 0 0 (va_A (wM cI cZ cJ h ad k_thrown k_s k_image k_hasImage k_steps k_read k_spot k_isWrong k_open k_act k_letBy k_letStamp k_stamp k_fallen k_held k_stands k_falling k_away k_round k_rests k_may k_next k_could k_couldNight k_night k_seats) sz) := by
  refine st_met (cc := cX12_coin) (maxL := 4) (ret := (some .int)) (lv := [(0, .ref h), (1, .int p1), (2, .int p2), (3, .int p3)]) (Qc := fun A => qi1 D (tyM cI cZ cJ) A Q (fun k_s' => (wM cI cZ cJ h ad k_thrown k_s' k_image k_hasImage k_steps k_read k_spot k_isWrong k_open k_act k_letBy k_letStamp k_stamp k_fallen k_held k_stands k_falling k_away k_round k_rests k_may k_next k_could k_couldNight k_night k_seats))) (by decide) rfl (Nat.le_of_ble_eq_true rfl) rfl ?_
  intro p e s m below meth c ls A R args QQ H locs C hr hlk hnm hK hX hsz hl hO hR hQQ
  have hx := C.1
  have hb := C.2.1
  have hown := C.2.2.2.1
  have hts := C.2.2.2.2
  have hin : ∀ w ∈ u_ws RX12 TX12 26, w ∈ (Cond.code yX12_coin cX12_coin 4 (some .int) :: wsG) := fun w h9 => List.mem_cons_of_mem _ (inG12 w h9)
  have lk_s := hts (Cond.fieldLink RX12 7 "FreeCityModel" "s" "[I") (List.mem_cons_of_mem _ qw5_207)
  unfold wp_X12_coin at hw
  refine lv_iload_n hx hb dX12_coin_0 rfl (lv_at hl 1 rfl) ?_
  refine cSi0 (As := [.int p1]) (rest := []) C hK hX hO (c_X12_isGood (l := l)) (va_cwS 1 hts gd_X12_212 rfl rfl rfl hd_X12_isGood (rok hR (Nat.le_of_ble_eq_true rfl) (Nat.le_of_ble_eq_true rfl))) rfl hl.1 rfl (Nat.le_of_ble_eq_true rfl) dX12_coin_1 ⟨Nat.zero_le _, Nat.zero_le _⟩ (fun r_1 H locs e_1 hO => ?_)
  subst e_1
  refine lv_if_ne (tgt := 9) hx hb dX12_coin_4 (by decide) (fun q_4 => ?_) (fun q_4 => ?_)
  · have hw := hw.1 q_4
    refine lv_iload_n hx hb dX12_coin_9 rfl (lv_at hl 2 rfl) ?_
    refine lv_iconst (v := (nI 1)) hx hb dX12_coin_10 (by decide) ?_
    refine lv_sipush (v := (nI 999)) hx hb dX12_coin_11 (by decide) ?_
    refine cSi0 (As := [.int p2, .int (nI 1), .int (nI 999)]) (rest := []) C hK hX hO (c_X12_in (l := l)) (va_cwS 3 hts gd_X12_74 rfl rfl rfl hd_X12_in (rok hR (Nat.le_of_ble_eq_true rfl) (Nat.le_of_ble_eq_true rfl))) rfl hl.1 rfl (Nat.le_of_ble_eq_true rfl) dX12_coin_14 ⟨Nat.zero_le _, Nat.zero_le _⟩ (fun r_14 H locs e_14 hO => ?_)
    subst e_14
    refine lv_if_ne (tgt := 23) hx hb dX12_coin_17 (by decide) (fun q_17 => ?_) (fun q_17 => ?_)
    · have hw := hw.1 q_17
      refine lv_aload_n hx hb dX12_coin_23 rfl (lv_at hl 0 rfl) ?_
      refine gM_s C hin hK lk_s hO dX12_coin_24 ?_
      refine lv_bipush (v := (nI 50)) hx hb dX12_coin_27 (by decide) ?_
      refine lv_iload_n hx hb dX12_coin_29 rfl (lv_at hl 1 rfl) ?_
      refine lv_iadd hx hb dX12_coin_30 ?_
      obtain ⟨o_31, hw⟩ := hw
      refine ldM_s C hK hO o_31 rfl dX12_coin_31 ?_
      refine lv_iload_n hx hb dX12_coin_32 rfl (lv_at hl 2 rfl) ?_
      refine lv_icmp_ge (tgt := 39) hx hb dX12_coin_33 (by decide) (fun q_33 => ?_) (fun q_33 => ?_)
      · have hw := hw.1 q_33
        refine lv_aload_n hx hb dX12_coin_39 rfl (lv_at hl 0 rfl) ?_
        refine gM_s C hin hK lk_s hO dX12_coin_40 ?_
        refine lv_bipush (v := (nI 50)) hx hb dX12_coin_43 (by decide) ?_
        refine lv_iload_n hx hb dX12_coin_45 rfl (lv_at hl 1 rfl) ?_
        refine lv_iadd hx hb dX12_coin_46 ?_
        refine lv_dup2_11 hx hb dX12_coin_47 rfl rfl ?_
        obtain ⟨o_48, hw⟩ := hw
        refine ldM_s C hK hO o_48 rfl dX12_coin_48 ?_
        refine lv_iload_n hx hb dX12_coin_49 rfl (lv_at hl 2 rfl) ?_
        refine lv_isub hx hb dX12_coin_50 ?_
        obtain ⟨o_51, hw⟩ := hw
        refine stM_s C hK hO o_51 rfl dX12_coin_51 (fun H locs hO => ?_)
        refine lv_aload_n hx hb dX12_coin_52 rfl (lv_at hl 0 rfl) ?_
        refine gM_s C hin hK lk_s hO dX12_coin_53 ?_
        refine lv_iload_n hx hb dX12_coin_56 rfl (lv_at hl 3 rfl) ?_
        have m_67 : ∀ (y1_67 : Int32) (H : Heap) (locs : List Loc) (ls : Array Slot), y1_67 = (if p3 = 0 then (nI 54) else (nI 58)) → okW D A s.heap H locs (wM cI cZ cJ h ad k_thrown (upd k_s ((((nI 50) + p1)).toNatClampNeg) ((k_s (((nI 50) + p1)).toNatClampNeg) - p2)) k_image k_hasImage k_steps k_read k_spot k_isWrong k_open k_act k_letBy k_letStamp k_stamp k_fallen k_held k_stands k_falling k_away k_round k_rests k_may k_next k_could k_couldNight k_night k_seats) → lv_has ls 4 [(0, .ref h), (1, .int p1), (2, .int p2), (3, .int p3)] → W p l e R s m args below meth c H locs 0 0 QQ (F0 m 67 ls [.int y1_67, .ref (ad 1)]) := by
          intro y1_67 H locs ls ey1_67 hO hl
          have hw := hw y1_67 ey1_67
          refine lv_iload_n hx hb dX12_coin_67 rfl (lv_at hl 1 rfl) ?_
          refine lv_iadd hx hb dX12_coin_68 ?_
          refine lv_dup2_11 hx hb dX12_coin_69 rfl rfl ?_
          obtain ⟨o_70, hw⟩ := hw
          refine ldM_s C hK hO o_70 rfl dX12_coin_70 ?_
          refine lv_iload_n hx hb dX12_coin_71 rfl (lv_at hl 2 rfl) ?_
          refine lv_iadd hx hb dX12_coin_72 ?_
          obtain ⟨o_73, hw⟩ := hw
          refine stM_s C hK hO o_73 rfl dX12_coin_73 (fun H locs hO => ?_)
          refine lv_aload_n hx hb dX12_coin_74 rfl (lv_at hl 0 rfl) ?_
          refine gM_s C hin hK lk_s hO dX12_coin_75 ?_
          refine lv_iconst (v := (nI 4)) hx hb dX12_coin_78 (by decide) ?_
          refine lv_dup2_11 hx hb dX12_coin_79 rfl rfl ?_
          refine ldM_s C hK hO (inK 4 6700 (by decide) (by decide)) (clK 4 (by decide)) dX12_coin_80 ?_
          refine lv_iload_n hx hb dX12_coin_81 rfl (lv_at hl 3 rfl) ?_
          obtain ⟨hs, hw⟩ := hw
          have m_100 : ∀ (y3_100 : Int32) (H : Heap) (locs : List Loc) (ls : Array Slot), y3_100 = (if p3 = 0 then (p2 * ((upd (upd k_s ((((nI 50) + p1)).toNatClampNeg) ((k_s (((nI 50) + p1)).toNatClampNeg) - p2)) (((y1_67 + p1)).toNatClampNeg) (((upd k_s ((((nI 50) + p1)).toNatClampNeg) ((k_s (((nI 50) + p1)).toNatClampNeg) - p2)) ((y1_67 + p1)).toNatClampNeg) + p2)) (((nI 62) + p1)).toNatClampNeg)) else (nI 0)) → okW D A s.heap H locs (wM cI cZ cJ h ad k_thrown (upd (upd k_s ((((nI 50) + p1)).toNatClampNeg) ((k_s (((nI 50) + p1)).toNatClampNeg) - p2)) (((y1_67 + p1)).toNatClampNeg) (((upd k_s ((((nI 50) + p1)).toNatClampNeg) ((k_s (((nI 50) + p1)).toNatClampNeg) - p2)) ((y1_67 + p1)).toNatClampNeg) + p2)) k_image k_hasImage k_steps k_read k_spot k_isWrong k_open k_act k_letBy k_letStamp k_stamp k_fallen k_held k_stands k_falling k_away k_round k_rests k_may k_next k_could k_couldNight k_night k_seats) → lv_has ls 4 [(0, .ref h)] → W p l e R s m args below meth c H locs 0 0 QQ (F0 m 100 ls [.int y3_100, .int ((upd (upd k_s ((((nI 50) + p1)).toNatClampNeg) ((k_s (((nI 50) + p1)).toNatClampNeg) - p2)) (((y1_67 + p1)).toNatClampNeg) (((upd k_s ((((nI 50) + p1)).toNatClampNeg) ((k_s (((nI 50) + p1)).toNatClampNeg) - p2)) ((y1_67 + p1)).toNatClampNeg) + p2)) 4), .int (nI 4), .ref (ad 1)]) := by
            intro y3_100 H locs ls ey3_100 hO hl
            have hw := hw y3_100 ey3_100
            refine lv_iadd hx hb dX12_coin_100 ?_
            refine stM_s C hK hO (inK 4 6700 (by decide) (by decide)) (clK 4 (by decide)) dX12_coin_101 (fun H locs hO => ?_)
            refine lv_aload_n hx hb dX12_coin_102 rfl (lv_at hl 0 rfl) ?_
            refine gM_s C hin hK lk_s hO dX12_coin_103 ?_
            refine lv_iconst (v := (nI 4)) hx hb dX12_coin_106 (by decide) ?_
            refine ldM_s C hK hO (inK 4 6700 (by decide) (by decide)) (clK 4 (by decide)) dX12_coin_107 ?_
            exact ri1 hQQ hx hb hr hlk hK hO hw dX12_coin_108
          refine lv_if_eq (tgt := 89) hx hb dX12_coin_82 (by decide) (fun q_82 => ?_) (fun q_82 => ?_)
          · have hs := hs q_82
            have o_98 := hs
            refine lv_iload_n hx hb dX12_coin_89 rfl (lv_at hl 2 rfl) ?_
            refine lv_aload_n hx hb dX12_coin_90 rfl (lv_at hl 0 rfl) ?_
            refine gM_s C hin hK lk_s hO dX12_coin_91 ?_
            refine lv_bipush (v := (nI 62)) hx hb dX12_coin_94 (by decide) ?_
            refine lv_iload_n hx hb dX12_coin_96 rfl (lv_at hl 1 rfl) ?_
            refine lv_iadd hx hb dX12_coin_97 ?_
            refine ldM_s C hK hO o_98 rfl dX12_coin_98 ?_
            refine lv_imul hx hb dX12_coin_99 ?_
            have hl := lv_sub hl [0] rfl (l' := [(0, .ref h)])
            exact m_100 _ _ _ _ (by rw [if_pos q_82]) hO hl
          · refine lv_iconst (v := (nI 0)) hx hb dX12_coin_85 (by decide) ?_
            refine lv_goto (tgt := 100) hx hb dX12_coin_86 (by decide) ?_
            have hl := lv_sub hl [0] rfl (l' := [(0, .ref h)])
            exact m_100 _ _ _ _ (by rw [if_neg q_82]) hO hl
        refine lv_if_eq (tgt := 65) hx hb dX12_coin_57 (by decide) (fun q_57 => ?_) (fun q_57 => ?_)
        · refine lv_bipush (v := (nI 54)) hx hb dX12_coin_65 (by decide) ?_
          have hl := lv_sub hl [0, 1, 2, 3] rfl (l' := [(0, .ref h), (1, .int p1), (2, .int p2), (3, .int p3)])
          exact m_67 _ _ _ _ (by rw [if_pos q_57]) hO hl
        · refine lv_bipush (v := (nI 58)) hx hb dX12_coin_60 (by decide) ?_
          refine lv_goto (tgt := 67) hx hb dX12_coin_62 (by decide) ?_
          have hl := lv_sub hl [0, 1, 2, 3] rfl (l' := [(0, .ref h), (1, .int p1), (2, .int p2), (3, .int p3)])
          exact m_67 _ _ _ _ (by rw [if_neg q_57]) hO hl
      · have hw := hw.2 q_33
        refine lv_bipush (v := (-3)) hx hb dX12_coin_36 (by decide) ?_
        exact ri1 hQQ hx hb hr hlk hK hO hw dX12_coin_38
    · have hw := hw.2 q_17
      refine lv_bipush (v := (-2)) hx hb dX12_coin_20 (by decide) ?_
      exact ri1 hQQ hx hb hr hlk hK hO hw dX12_coin_22
  · have hw := hw.2 q_4
    refine lv_iconst (v := (-1)) hx hb dX12_coin_7 (by decide) ?_
    exact ri1 hQQ hx hb hr hlk hK hO hw dX12_coin_8
def wp_X12_tariff (p1 : Int32) (p2 : Int32) (p3 : Int32) (k_s : Nat → Int32) (Q : Int32 → (Nat → Int32) → Prop) : Prop := (((f_X12_in p1 (nI 0) (nI 1)) = 0 → (Q (-1) k_s)) ∧ (¬ (f_X12_in p1 (nI 0) (nI 1)) = 0 → (∀ y2_20 : Int32, y2_20 = (if p1 = 0 then (nI 3) else (nI 2)) → ((¬ (f_X12_in p2 (nI 0) y2_20) = 0 → ((¬ (f_X12_in p3 (nI 0) (nI 99)) = 0 → (∀ y0_56 : Int32, y0_56 = (if p1 = 0 then ((nI 62) + p2) else ((nI 66) + p2)) → (vp_in y0_56 6700 ∧ (vp_in y0_56 6700 ∧ (Q (k_s (y0_56).toNatClampNeg) (upd k_s ((y0_56).toNatClampNeg) p3)))))) ∧ ((f_X12_in p3 (nI 0) (nI 99)) = 0 → (Q (-2) k_s)))) ∧ ((f_X12_in p2 (nI 0) y2_20) = 0 → (Q (-1) k_s))))))
set_option maxHeartbeats 4000000 in
set_option maxRecDepth 100000 in
theorem c_X12_tariff {l : Launch} {D : va_G} {cI cZ cJ : ClassId} {h : Nat} {ad : Nat → Nat} {sz : Nat} {k_thrown : Int32} {k_s : Nat → Int32} {k_image : Nat → Int32} {k_hasImage : Int32} {k_steps : Nat → Int32} {k_read : Int32} {k_spot : Int32} {k_isWrong : Int32} {k_open : Int32} {k_act : Int32} {k_letBy : Nat → Int32} {k_letStamp : Nat → Int32} {k_stamp : Int32} {k_fallen : Nat → Int32} {k_held : Nat → Int32} {k_stands : Nat → Int32} {k_falling : Nat → Int32} {k_away : Nat → Int32} {k_round : Nat → Int32} {k_rests : Nat → Int64} {k_may : Nat → Int32} {k_next : Nat → Int32} {k_could : Nat → Int32} {k_couldNight : Nat → Int32} {k_night : Int32} {k_seats : Nat → Int32} {p1 : Int32} {p2 : Int32} {p3 : Int32} {Q : Int32 → (Nat → Int32) → Prop} (hw : wp_X12_tariff p1 p2 p3 k_s Q) : Met l yX12_tariff (Cond.code yX12_tariff cX12_tariff 6 (some .int) :: wsG) ({ frames := 1, cells := 0, slots := 0, locals := 22 } : Room) (preW D (tyM cI cZ cJ) (wM cI cZ cJ h ad k_thrown k_s k_image k_hasImage k_steps k_read k_spot k_isWrong k_open k_act k_letBy k_letStamp k_stamp k_fallen k_held k_stands k_falling k_away k_round k_rests k_may k_next k_could k_couldNight k_night k_seats) sz [.ref h, .int p1, .int p2, .int p3]) (qi1 D (tyM cI cZ cJ) (va_A (wM cI cZ cJ h ad k_thrown k_s k_image k_hasImage k_steps k_read k_spot k_isWrong k_open k_act k_letBy k_letStamp k_stamp k_fallen k_held k_stands k_falling k_away k_round k_rests k_may k_next k_could k_couldNight k_night k_seats) sz) Q (fun k_s' => (wM cI cZ cJ h ad k_thrown k_s' k_image k_hasImage k_steps k_read k_spot k_isWrong k_open k_act k_letBy k_letStamp k_stamp k_fallen k_held k_stands k_falling k_away k_round k_rests k_may k_next k_could k_couldNight k_night k_seats))) 0 0 (va_A (wM cI cZ cJ h ad k_thrown k_s k_image k_hasImage k_steps k_read k_spot k_isWrong k_open k_act k_letBy k_letStamp k_stamp k_fallen k_held k_stands k_falling k_away k_round k_rests k_may k_next k_could k_couldNight k_night k_seats) sz) := by
  refine st_met (cc := cX12_tariff) (maxL := 6) (ret := (some .int)) (lv := [(0, .ref h), (1, .int p1), (2, .int p2), (3, .int p3)]) (Qc := fun A => qi1 D (tyM cI cZ cJ) A Q (fun k_s' => (wM cI cZ cJ h ad k_thrown k_s' k_image k_hasImage k_steps k_read k_spot k_isWrong k_open k_act k_letBy k_letStamp k_stamp k_fallen k_held k_stands k_falling k_away k_round k_rests k_may k_next k_could k_couldNight k_night k_seats))) (by decide) rfl (Nat.le_of_ble_eq_true rfl) rfl ?_
  intro p e s m below meth c ls A R args QQ H locs C hr hlk hnm hK hX hsz hl hO hR hQQ
  have hx := C.1
  have hb := C.2.1
  have hown := C.2.2.2.1
  have hts := C.2.2.2.2
  have hin : ∀ w ∈ u_ws RX12 TX12 26, w ∈ (Cond.code yX12_tariff cX12_tariff 6 (some .int) :: wsG) := fun w h9 => List.mem_cons_of_mem _ (inG12 w h9)
  have lk_s := hts (Cond.fieldLink RX12 7 "FreeCityModel" "s" "[I") (List.mem_cons_of_mem _ qw5_207)
  unfold wp_X12_tariff at hw
  refine lv_iload_n hx hb dX12_tariff_0 rfl (lv_at hl 1 rfl) ?_
  refine lv_iconst (v := (nI 0)) hx hb dX12_tariff_1 (by decide) ?_
  refine lv_iconst (v := (nI 1)) hx hb dX12_tariff_2 (by decide) ?_
  refine cSi0 (As := [.int p1, .int (nI 0), .int (nI 1)]) (rest := []) C hK hX hO (c_X12_in (l := l)) (va_cwS 3 hts gd_X12_74 rfl rfl rfl hd_X12_in (rok hR (Nat.le_of_ble_eq_true rfl) (Nat.le_of_ble_eq_true rfl))) rfl hl.1 rfl (Nat.le_of_ble_eq_true rfl) dX12_tariff_3 ⟨Nat.zero_le _, Nat.zero_le _⟩ (fun r_3 H locs e_3 hO => ?_)
  subst e_3
  refine lv_if_eq (tgt := 26) hx hb dX12_tariff_6 (by decide) (fun q_6 => ?_) (fun q_6 => ?_)
  · have hw := hw.1 q_6
    refine lv_iconst (v := (-1)) hx hb dX12_tariff_26 (by decide) ?_
    exact ri1 hQQ hx hb hr hlk hK hO hw dX12_tariff_27
  · have hw := hw.2 q_6
    refine lv_iload_n hx hb dX12_tariff_9 rfl (lv_at hl 2 rfl) ?_
    refine lv_iconst (v := (nI 0)) hx hb dX12_tariff_10 (by decide) ?_
    refine lv_iload_n hx hb dX12_tariff_11 rfl (lv_at hl 1 rfl) ?_
    have m_20 : ∀ (y2_20 : Int32) (H : Heap) (locs : List Loc) (ls : Array Slot), y2_20 = (if p1 = 0 then (nI 3) else (nI 2)) → okW D A s.heap H locs (wM cI cZ cJ h ad k_thrown k_s k_image k_hasImage k_steps k_read k_spot k_isWrong k_open k_act k_letBy k_letStamp k_stamp k_fallen k_held k_stands k_falling k_away k_round k_rests k_may k_next k_could k_couldNight k_night k_seats) → lv_has ls 6 [(0, .ref h), (1, .int p1), (2, .int p2), (3, .int p3)] → W p l e R s m args below meth c H locs 0 0 QQ (F0 m 20 ls [.int y2_20, .int (nI 0), .int p2]) := by
      intro y2_20 H locs ls ey2_20 hO hl
      have hw := hw y2_20 ey2_20
      refine cSi0 (As := [.int p2, .int (nI 0), .int y2_20]) (rest := []) C hK hX hO (c_X12_in (l := l)) (va_cwS 3 hts gd_X12_74 rfl rfl rfl hd_X12_in (rok hR (Nat.le_of_ble_eq_true rfl) (Nat.le_of_ble_eq_true rfl))) rfl hl.1 rfl (Nat.le_of_ble_eq_true rfl) dX12_tariff_20 ⟨Nat.zero_le _, Nat.zero_le _⟩ (fun r_20 H locs e_20 hO => ?_)
      subst e_20
      refine lv_if_ne (tgt := 28) hx hb dX12_tariff_23 (by decide) (fun q_23 => ?_) (fun q_23 => ?_)
      · have hw := hw.1 q_23
        refine lv_iload_n hx hb dX12_tariff_28 rfl (lv_at hl 3 rfl) ?_
        refine lv_iconst (v := (nI 0)) hx hb dX12_tariff_29 (by decide) ?_
        refine lv_bipush (v := (nI 99)) hx hb dX12_tariff_30 (by decide) ?_
        refine cSi0 (As := [.int p3, .int (nI 0), .int (nI 99)]) (rest := []) C hK hX hO (c_X12_in (l := l)) (va_cwS 3 hts gd_X12_74 rfl rfl rfl hd_X12_in (rok hR (Nat.le_of_ble_eq_true rfl) (Nat.le_of_ble_eq_true rfl))) rfl hl.1 rfl (Nat.le_of_ble_eq_true rfl) dX12_tariff_32 ⟨Nat.zero_le _, Nat.zero_le _⟩ (fun r_32 H locs e_32 hO => ?_)
        subst e_32
        refine lv_if_ne (tgt := 41) hx hb dX12_tariff_35 (by decide) (fun q_35 => ?_) (fun q_35 => ?_)
        · have hw := hw.1 q_35
          refine lv_iload_n hx hb dX12_tariff_41 rfl (lv_at hl 1 rfl) ?_
          have m_56 : ∀ (y0_56 : Int32) (H : Heap) (locs : List Loc) (ls : Array Slot), y0_56 = (if p1 = 0 then ((nI 62) + p2) else ((nI 66) + p2)) → okW D A s.heap H locs (wM cI cZ cJ h ad k_thrown k_s k_image k_hasImage k_steps k_read k_spot k_isWrong k_open k_act k_letBy k_letStamp k_stamp k_fallen k_held k_stands k_falling k_away k_round k_rests k_may k_next k_could k_couldNight k_night k_seats) → lv_has ls 6 [(0, .ref h), (3, .int p3)] → W p l e R s m args below meth c H locs 0 0 QQ (F0 m 56 ls [.int y0_56]) := by
            intro y0_56 H locs ls ey0_56 hO hl
            have hw := hw y0_56 ey0_56
            refine lv_istore (lv' := [(4, .int y0_56), (0, .ref h), (3, .int p3)]) hx hb dX12_tariff_56 hl (by decide) rfl (fun ls hl => ?_)
            refine lv_aload_n hx hb dX12_tariff_58 rfl (lv_at hl 1 rfl) ?_
            refine gM_s C hin hK lk_s hO dX12_tariff_59 ?_
            refine lv_iload hx hb dX12_tariff_62 (lv_at hl 0 rfl) ?_
            obtain ⟨o_64, hw⟩ := hw
            refine ldM_s C hK hO o_64 rfl dX12_tariff_64 ?_
            refine lv_istore (lv' := [(5, .int (k_s (y0_56).toNatClampNeg)), (4, .int y0_56), (0, .ref h), (3, .int p3)]) hx hb dX12_tariff_65 hl (by decide) rfl (fun ls hl => ?_)
            refine lv_aload_n hx hb dX12_tariff_67 rfl (lv_at hl 2 rfl) ?_
            refine gM_s C hin hK lk_s hO dX12_tariff_68 ?_
            refine lv_iload hx hb dX12_tariff_71 (lv_at hl 1 rfl) ?_
            refine lv_iload_n hx hb dX12_tariff_73 rfl (lv_at hl 3 rfl) ?_
            obtain ⟨o_74, hw⟩ := hw
            refine stM_s C hK hO o_74 rfl dX12_tariff_74 (fun H locs hO => ?_)
            refine lv_iload hx hb dX12_tariff_75 (lv_at hl 0 rfl) ?_
            exact ri1 hQQ hx hb hr hlk hK hO hw dX12_tariff_77
          refine lv_if_ne (tgt := 52) hx hb dX12_tariff_42 (by decide) (fun q_42 => ?_) (fun q_42 => ?_)
          · refine lv_bipush (v := (nI 66)) hx hb dX12_tariff_52 (by decide) ?_
            refine lv_iload_n hx hb dX12_tariff_54 rfl (lv_at hl 2 rfl) ?_
            refine lv_iadd hx hb dX12_tariff_55 ?_
            have hl := lv_sub hl [0, 3] rfl (l' := [(0, .ref h), (3, .int p3)])
            exact m_56 _ _ _ _ (by rw [if_neg q_42]) hO hl
          · refine lv_bipush (v := (nI 62)) hx hb dX12_tariff_45 (by decide) ?_
            refine lv_iload_n hx hb dX12_tariff_47 rfl (lv_at hl 2 rfl) ?_
            refine lv_iadd hx hb dX12_tariff_48 ?_
            refine lv_goto (tgt := 56) hx hb dX12_tariff_49 (by decide) ?_
            have hl := lv_sub hl [0, 3] rfl (l' := [(0, .ref h), (3, .int p3)])
            exact m_56 _ _ _ _ (by rw [if_pos q_42]) hO hl
        · have hw := hw.2 q_35
          refine lv_bipush (v := (-2)) hx hb dX12_tariff_38 (by decide) ?_
          exact ri1 hQQ hx hb hr hlk hK hO hw dX12_tariff_40
      · have hw := hw.2 q_23
        refine lv_iconst (v := (-1)) hx hb dX12_tariff_26 (by decide) ?_
        exact ri1 hQQ hx hb hr hlk hK hO hw dX12_tariff_27
    refine lv_if_ne (tgt := 19) hx hb dX12_tariff_12 (by decide) (fun q_12 => ?_) (fun q_12 => ?_)
    · refine lv_iconst (v := (nI 2)) hx hb dX12_tariff_19 (by decide) ?_
      have hl := lv_sub hl [0, 1, 2, 3] rfl (l' := [(0, .ref h), (1, .int p1), (2, .int p2), (3, .int p3)])
      exact m_20 _ _ _ _ (by rw [if_neg q_12]) hO hl
    · refine lv_iconst (v := (nI 3)) hx hb dX12_tariff_15 (by decide) ?_
      refine lv_goto (tgt := 20) hx hb dX12_tariff_16 (by decide) ?_
      have hl := lv_sub hl [0, 1, 2, 3] rfl (l' := [(0, .ref h), (1, .int p1), (2, .int p2), (3, .int p3)])
      exact m_20 _ _ _ _ (by rw [if_pos q_12]) hO hl
def wb_X12_share_129 (k_s : Nat → Int32) (Q : Int32 → (Nat → Int32) → (Nat → Int64) → Prop) (L_129 : Int32 → (Nat → Int32) → (Nat → Int64) → Prop) (v3_129 : Int32) (s_129 : Nat → Int32) (rests_129 : Nat → Int64) : Prop := ((v3_129 ≤ 0 → (Q (k_s 4) (upd s_129 4 (nI 0)) rests_129)) ∧ (¬ v3_129 ≤ 0 → (∀ y0_154 : Int32, y0_154 = (if (lg_cmp (rests_129 1) (rests_129 0)) ≤ 0 then (nI 0) else (nI 1)) → (vp_in y0_154 3 ∧ (∀ y0_179 : Int32, y0_179 = (if (lg_cmp (rests_129 2) (rests_129 (y0_154).toNatClampNeg)) ≤ 0 then y0_154 else (nI 2)) → (vp_in ((nI 69) + y0_179) 6700 ∧ (vp_in ((nI 69) + y0_179) 6700 ∧ (vp_in y0_179 3 ∧ (L_129 (v3_129 + (-1)) (upd s_129 ((((nI 69) + y0_179)).toNatClampNeg) ((s_129 (((nI 69) + y0_179)).toNatClampNeg) + (nI 1))) (vp_updL rests_129 ((y0_179).toNatClampNeg) (-1)))))))))))
def wl_X12_share_129 (k_s : Nat → Int32) (Q : Int32 → (Nat → Int32) → (Nat → Int64) → Prop) : Nat → Int32 → (Nat → Int32) → (Nat → Int64) → Prop
  | 0, _, _, _ => False
  | n + 1, v3_129, s_129, rests_129 => wb_X12_share_129 k_s Q (wl_X12_share_129 k_s Q n) v3_129 s_129 rests_129
def wb_X12_share_36 (k_s : Nat → Int32) (Q : Int32 → (Nat → Int32) → (Nat → Int64) → Prop) (L_36 : Int32 → Int32 → (Nat → Int32) → (Nat → Int64) → Prop) (v3_36 : Int32) (v4_36 : Int32) (s_36 : Nat → Int32) (rests_36 : Nat → Int64) : Prop := (((nI 3) ≤ v4_36 → (∃ n, wl_X12_share_129 k_s Q n v3_36 s_36 rests_36)) ∧ (¬ (nI 3) ≤ v4_36 → (((¬ (((k_s 66) + (k_s 67)) + (k_s 68)) = 0 → (vp_in ((nI 66) + v4_36) 6700))) ∧ (∀ y0_61 : Int64, y0_61 = (if (((k_s 66) + (k_s 67)) + (k_s 68)) = 0 then (1) else (((s_36 (((nI 66) + v4_36)).toNatClampNeg)).toInt64)) → (∀ y0_75 : Int64, y0_75 = (if (((k_s 66) + (k_s 67)) + (k_s 68)) = 0 then (3) else (((((k_s 66) + (k_s 67)) + (k_s 68))).toInt64)) → (¬ y0_75 = 0 ∧ (∀ x_85 : Int32, x_85 = (((((((k_s 4)).toInt64) * y0_61) / y0_75)).toInt32) → (¬ y0_75 = 0 ∧ (vp_in v4_36 3 ∧ (vp_in ((nI 69) + v4_36) 6700 ∧ (vp_in ((nI 69) + v4_36) 6700 ∧ (L_36 (v3_36 - x_85) (v4_36 + (nI 1)) (upd s_36 ((((nI 69) + v4_36)).toNatClampNeg) ((s_36 (((nI 69) + v4_36)).toNatClampNeg) + x_85)) (vp_updL rests_36 ((v4_36).toNatClampNeg) (((((k_s 4)).toInt64) * y0_61) - ((((k_s 4)).toInt64) * y0_61) / y0_75 * y0_75))))))))))))))
def wl_X12_share_36 (k_s : Nat → Int32) (Q : Int32 → (Nat → Int32) → (Nat → Int64) → Prop) : Nat → Int32 → Int32 → (Nat → Int32) → (Nat → Int64) → Prop
  | 0, _, _, _, _ => False
  | n + 1, v3_36, v4_36, s_36, rests_36 => wb_X12_share_36 k_s Q (wl_X12_share_36 k_s Q n) v3_36 v4_36 s_36 rests_36
def wp_X12_share  (k_s : Nat → Int32) (k_rests : Nat → Int64) (Q : Int32 → (Nat → Int32) → (Nat → Int64) → Prop) : Prop := (∃ n, wl_X12_share_36 k_s Q n (k_s 4) (nI 0) k_s k_rests)
set_option maxHeartbeats 4000000 in
set_option maxRecDepth 100000 in
theorem c_X12_share {l : Launch} {D : va_G} {cI cZ cJ : ClassId} {h : Nat} {ad : Nat → Nat} {sz : Nat} {k_thrown : Int32} {k_s : Nat → Int32} {k_image : Nat → Int32} {k_hasImage : Int32} {k_steps : Nat → Int32} {k_read : Int32} {k_spot : Int32} {k_isWrong : Int32} {k_open : Int32} {k_act : Int32} {k_letBy : Nat → Int32} {k_letStamp : Nat → Int32} {k_stamp : Int32} {k_fallen : Nat → Int32} {k_held : Nat → Int32} {k_stands : Nat → Int32} {k_falling : Nat → Int32} {k_away : Nat → Int32} {k_round : Nat → Int32} {k_rests : Nat → Int64} {k_may : Nat → Int32} {k_next : Nat → Int32} {k_could : Nat → Int32} {k_couldNight : Nat → Int32} {k_night : Int32} {k_seats : Nat → Int32}  {Q : Int32 → (Nat → Int32) → (Nat → Int64) → Prop} (hw : wp_X12_share k_s k_rests Q) : Met l yX12_share (Cond.code yX12_share cX12_share 10 (some .int) :: wsG) ({ frames := 0, cells := 0, slots := 0, locals := 0 } : Room) (preW D (tyM cI cZ cJ) (wM cI cZ cJ h ad k_thrown k_s k_image k_hasImage k_steps k_read k_spot k_isWrong k_open k_act k_letBy k_letStamp k_stamp k_fallen k_held k_stands k_falling k_away k_round k_rests k_may k_next k_could k_couldNight k_night k_seats) sz [.ref h]) (qi2 D (tyM cI cZ cJ) (va_A (wM cI cZ cJ h ad k_thrown k_s k_image k_hasImage k_steps k_read k_spot k_isWrong k_open k_act k_letBy k_letStamp k_stamp k_fallen k_held k_stands k_falling k_away k_round k_rests k_may k_next k_could k_couldNight k_night k_seats) sz) Q (fun k_s' k_rests' => (wM cI cZ cJ h ad k_thrown k_s' k_image k_hasImage k_steps k_read k_spot k_isWrong k_open k_act k_letBy k_letStamp k_stamp k_fallen k_held k_stands k_falling k_away k_round k_rests' k_may k_next k_could k_couldNight k_night k_seats))) 0 0 (va_A (wM cI cZ cJ h ad k_thrown k_s k_image k_hasImage k_steps k_read k_spot k_isWrong k_open k_act k_letBy k_letStamp k_stamp k_fallen k_held k_stands k_falling k_away k_round k_rests k_may k_next k_could k_couldNight k_night k_seats) sz) := by
  refine st_met (cc := cX12_share) (maxL := 10) (ret := (some .int)) (lv := [(0, .ref h)]) (Qc := fun A => qi2 D (tyM cI cZ cJ) A Q (fun k_s' k_rests' => (wM cI cZ cJ h ad k_thrown k_s' k_image k_hasImage k_steps k_read k_spot k_isWrong k_open k_act k_letBy k_letStamp k_stamp k_fallen k_held k_stands k_falling k_away k_round k_rests' k_may k_next k_could k_couldNight k_night k_seats))) (by decide) rfl (Nat.le_of_ble_eq_true rfl) rfl ?_
  intro p e s m below meth c ls A R args QQ H locs C hr hlk hnm hK hX hsz hl hO hR hQQ
  have hx := C.1
  have hb := C.2.1
  have hown := C.2.2.2.1
  have hts := C.2.2.2.2
  have hin : ∀ w ∈ u_ws RX12 TX12 26, w ∈ (Cond.code yX12_share cX12_share 10 (some .int) :: wsG) := fun w h9 => List.mem_cons_of_mem _ (inG12 w h9)
  have lk_s := hts (Cond.fieldLink RX12 7 "FreeCityModel" "s" "[I") (List.mem_cons_of_mem _ qw5_207)
  have lk_rests := hts (Cond.fieldLink RX12 49 "FreeCityModel" "rests" "[J") (List.mem_cons_of_mem _ qw5_225)
  unfold wp_X12_share at hw
  refine lv_aload_n hx hb dX12_share_0 rfl (lv_at hl 0 rfl) ?_
  refine gM_s C hin hK lk_s hO dX12_share_1 ?_
  refine lv_iconst (v := (nI 4)) hx hb dX12_share_4 (by decide) ?_
  refine ldM_s C hK hO (inK 4 6700 (by decide) (by decide)) (clK 4 (by decide)) dX12_share_5 ?_
  refine lv_istore_n (lv' := [(1, .int (k_s 4)), (0, .ref h)]) hx hb dX12_share_6 rfl hl (by decide) rfl (fun ls hl => ?_)
  refine lv_aload_n hx hb dX12_share_7 rfl (lv_at hl 1 rfl) ?_
  refine gM_s C hin hK lk_s hO dX12_share_8 ?_
  refine lv_bipush (v := (nI 66)) hx hb dX12_share_11 (by decide) ?_
  refine ldM_s C hK hO (inK 66 6700 (by decide) (by decide)) (clK 66 (by decide)) dX12_share_13 ?_
  refine lv_aload_n hx hb dX12_share_14 rfl (lv_at hl 1 rfl) ?_
  refine gM_s C hin hK lk_s hO dX12_share_15 ?_
  refine lv_bipush (v := (nI 67)) hx hb dX12_share_18 (by decide) ?_
  refine ldM_s C hK hO (inK 67 6700 (by decide) (by decide)) (clK 67 (by decide)) dX12_share_20 ?_
  refine lv_iadd hx hb dX12_share_21 ?_
  refine lv_aload_n hx hb dX12_share_22 rfl (lv_at hl 1 rfl) ?_
  refine gM_s C hin hK lk_s hO dX12_share_23 ?_
  refine lv_bipush (v := (nI 68)) hx hb dX12_share_26 (by decide) ?_
  refine ldM_s C hK hO (inK 68 6700 (by decide) (by decide)) (clK 68 (by decide)) dX12_share_28 ?_
  refine lv_iadd hx hb dX12_share_29 ?_
  refine lv_istore_n (lv' := [(2, .int (((k_s 66) + (k_s 67)) + (k_s 68))), (1, .int (k_s 4)), (0, .ref h)]) hx hb dX12_share_30 rfl hl (by decide) rfl (fun ls hl => ?_)
  refine lv_iload_n hx hb dX12_share_31 rfl (lv_at hl 1 rfl) ?_
  refine lv_istore_n (lv' := [(3, .int (k_s 4)), (2, .int (((k_s 66) + (k_s 67)) + (k_s 68))), (1, .int (k_s 4)), (0, .ref h)]) hx hb dX12_share_32 rfl hl (by decide) rfl (fun ls hl => ?_)
  refine lv_iconst (v := (nI 0)) hx hb dX12_share_33 (by decide) ?_
  refine lv_istore (lv' := [(4, .int (nI 0)), (3, .int (k_s 4)), (2, .int (((k_s 66) + (k_s 67)) + (k_s 68))), (1, .int (k_s 4)), (0, .ref h)]) hx hb dX12_share_34 hl (by decide) rfl (fun ls hl => ?_)
  obtain ⟨n_36, hw⟩ := hw
  have b_36 : ∀ (L_36 : Int32 → Int32 → (Nat → Int32) → (Nat → Int64) → Prop) (ih_36 : ∀ (v3_36 : Int32) (v4_36 : Int32) (s_36 : Nat → Int32) (rests_36 : Nat → Int64) (H : Heap) (locs : List Loc) (ls : Array Slot), okW D A s.heap H locs (wM cI cZ cJ h ad k_thrown s_36 k_image k_hasImage k_steps k_read k_spot k_isWrong k_open k_act k_letBy k_letStamp k_stamp k_fallen k_held k_stands k_falling k_away k_round rests_36 k_may k_next k_could k_couldNight k_night k_seats) → lv_has ls 10 [(0, .ref h), (1, .int (k_s 4)), (2, .int (((k_s 66) + (k_s 67)) + (k_s 68))), (3, .int v3_36), (4, .int v4_36)] → L_36 v3_36 v4_36 s_36 rests_36 → W p l e R s m args below meth c H locs 0 0 QQ (F0 m 36 ls [])) (v3_36 : Int32) (v4_36 : Int32) (s_36 : Nat → Int32) (rests_36 : Nat → Int64) (H : Heap) (locs : List Loc) (ls : Array Slot), okW D A s.heap H locs (wM cI cZ cJ h ad k_thrown s_36 k_image k_hasImage k_steps k_read k_spot k_isWrong k_open k_act k_letBy k_letStamp k_stamp k_fallen k_held k_stands k_falling k_away k_round rests_36 k_may k_next k_could k_couldNight k_night k_seats) → lv_has ls 10 [(0, .ref h), (1, .int (k_s 4)), (2, .int (((k_s 66) + (k_s 67)) + (k_s 68))), (3, .int v3_36), (4, .int v4_36)] → wb_X12_share_36 k_s Q L_36 v3_36 v4_36 s_36 rests_36 → W p l e R s m args below meth c H locs 0 0 QQ (F0 m 36 ls []) := by
    intro L_36 ih_36 v3_36 v4_36 s_36 rests_36 H locs ls hO hl hw
    unfold wb_X12_share_36 at hw
    refine lv_iload hx hb dX12_share_36 (lv_at hl 4 rfl) ?_
    refine lv_iconst (v := (nI 3)) hx hb dX12_share_38 (by decide) ?_
    refine lv_icmp_ge (tgt := 129) hx hb dX12_share_39 (by decide) (fun q_39 => ?_) (fun q_39 => ?_)
    · have hw := hw.1 q_39
      obtain ⟨n_129, hw⟩ := hw
      have b_129 : ∀ (L_129 : Int32 → (Nat → Int32) → (Nat → Int64) → Prop) (ih_129 : ∀ (v3_129 : Int32) (s_129 : Nat → Int32) (rests_129 : Nat → Int64) (H : Heap) (locs : List Loc) (ls : Array Slot), okW D A s.heap H locs (wM cI cZ cJ h ad k_thrown s_129 k_image k_hasImage k_steps k_read k_spot k_isWrong k_open k_act k_letBy k_letStamp k_stamp k_fallen k_held k_stands k_falling k_away k_round rests_129 k_may k_next k_could k_couldNight k_night k_seats) → lv_has ls 10 [(0, .ref h), (1, .int (k_s 4)), (3, .int v3_129)] → L_129 v3_129 s_129 rests_129 → W p l e R s m args below meth c H locs 0 0 QQ (F0 m 129 ls [])) (v3_129 : Int32) (s_129 : Nat → Int32) (rests_129 : Nat → Int64) (H : Heap) (locs : List Loc) (ls : Array Slot), okW D A s.heap H locs (wM cI cZ cJ h ad k_thrown s_129 k_image k_hasImage k_steps k_read k_spot k_isWrong k_open k_act k_letBy k_letStamp k_stamp k_fallen k_held k_stands k_falling k_away k_round rests_129 k_may k_next k_could k_couldNight k_night k_seats) → lv_has ls 10 [(0, .ref h), (1, .int (k_s 4)), (3, .int v3_129)] → wb_X12_share_129 k_s Q L_129 v3_129 s_129 rests_129 → W p l e R s m args below meth c H locs 0 0 QQ (F0 m 129 ls []) := by
        intro L_129 ih_129 v3_129 s_129 rests_129 H locs ls hO hl hw
        unfold wb_X12_share_129 at hw
        refine lv_iload_n hx hb dX12_share_129 rfl (lv_at hl 2 rfl) ?_
        refine lv_if_le (tgt := 211) hx hb dX12_share_130 (by decide) (fun q_130 => ?_) (fun q_130 => ?_)
        · have hw := hw.1 q_130
          refine lv_aload_n hx hb dX12_share_211 rfl (lv_at hl 0 rfl) ?_
          refine gM_s C hin hK lk_s hO dX12_share_212 ?_
          refine lv_iconst (v := (nI 4)) hx hb dX12_share_215 (by decide) ?_
          refine lv_iconst (v := (nI 0)) hx hb dX12_share_216 (by decide) ?_
          refine stM_s C hK hO (inK 4 6700 (by decide) (by decide)) (clK 4 (by decide)) dX12_share_217 (fun H locs hO => ?_)
          refine lv_iload_n hx hb dX12_share_218 rfl (lv_at hl 1 rfl) ?_
          exact ri2 hQQ hx hb hr hlk hK hO hw dX12_share_219
        · have hw := hw.2 q_130
          refine lv_aload_n hx hb dX12_share_133 rfl (lv_at hl 0 rfl) ?_
          refine gM_rests C hin hK lk_rests hO dX12_share_134 ?_
          refine lv_iconst (v := (nI 1)) hx hb dX12_share_137 (by decide) ?_
          refine ldM_rests C hK hO (inK 1 3 (by decide) (by decide)) (clK 1 (by decide)) dX12_share_138 ?_
          refine lv_aload_n hx hb dX12_share_139 rfl (lv_at hl 0 rfl) ?_
          refine gM_rests C hin hK lk_rests hO dX12_share_140 ?_
          refine lv_iconst (v := (nI 0)) hx hb dX12_share_143 (by decide) ?_
          refine ldM_rests C hK hO (inK 0 3 (by decide) (by decide)) (clK 0 (by decide)) dX12_share_144 ?_
          refine W.lcmp hx hb dX12_share_145 ?_
          have m_154 : ∀ (y0_154 : Int32) (H : Heap) (locs : List Loc) (ls : Array Slot), y0_154 = (if (lg_cmp (rests_129 1) (rests_129 0)) ≤ 0 then (nI 0) else (nI 1)) → okW D A s.heap H locs (wM cI cZ cJ h ad k_thrown s_129 k_image k_hasImage k_steps k_read k_spot k_isWrong k_open k_act k_letBy k_letStamp k_stamp k_fallen k_held k_stands k_falling k_away k_round rests_129 k_may k_next k_could k_couldNight k_night k_seats) → lv_has ls 10 [(0, .ref h), (1, .int (k_s 4)), (3, .int v3_129)] → W p l e R s m args below meth c H locs 0 0 QQ (F0 m 154 ls [.int y0_154]) := by
            intro y0_154 H locs ls ey0_154 hO hl
            have hw := hw y0_154 ey0_154
            refine lv_istore (lv' := [(4, .int y0_154), (0, .ref h), (1, .int (k_s 4)), (3, .int v3_129)]) hx hb dX12_share_154 hl (by decide) rfl (fun ls hl => ?_)
            refine lv_aload_n hx hb dX12_share_156 rfl (lv_at hl 1 rfl) ?_
            refine gM_rests C hin hK lk_rests hO dX12_share_157 ?_
            refine lv_iconst (v := (nI 2)) hx hb dX12_share_160 (by decide) ?_
            refine ldM_rests C hK hO (inK 2 3 (by decide) (by decide)) (clK 2 (by decide)) dX12_share_161 ?_
            refine lv_aload_n hx hb dX12_share_162 rfl (lv_at hl 1 rfl) ?_
            refine gM_rests C hin hK lk_rests hO dX12_share_163 ?_
            refine lv_iload hx hb dX12_share_166 (lv_at hl 0 rfl) ?_
            obtain ⟨o_168, hw⟩ := hw
            refine ldM_rests C hK hO o_168 rfl dX12_share_168 ?_
            refine W.lcmp hx hb dX12_share_169 ?_
            have m_179 : ∀ (y0_179 : Int32) (H : Heap) (locs : List Loc) (ls : Array Slot), y0_179 = (if (lg_cmp (rests_129 2) (rests_129 (y0_154).toNatClampNeg)) ≤ 0 then y0_154 else (nI 2)) → okW D A s.heap H locs (wM cI cZ cJ h ad k_thrown s_129 k_image k_hasImage k_steps k_read k_spot k_isWrong k_open k_act k_letBy k_letStamp k_stamp k_fallen k_held k_stands k_falling k_away k_round rests_129 k_may k_next k_could k_couldNight k_night k_seats) → lv_has ls 10 [(0, .ref h), (1, .int (k_s 4)), (3, .int v3_129)] → W p l e R s m args below meth c H locs 0 0 QQ (F0 m 179 ls [.int y0_179]) := by
              intro y0_179 H locs ls ey0_179 hO hl
              have hw := hw y0_179 ey0_179
              refine lv_istore (lv' := [(4, .int y0_179), (0, .ref h), (1, .int (k_s 4)), (3, .int v3_129)]) hx hb dX12_share_179 hl (by decide) rfl (fun ls hl => ?_)
              refine lv_aload_n hx hb dX12_share_181 rfl (lv_at hl 1 rfl) ?_
              refine gM_s C hin hK lk_s hO dX12_share_182 ?_
              refine lv_bipush (v := (nI 69)) hx hb dX12_share_185 (by decide) ?_
              refine lv_iload hx hb dX12_share_187 (lv_at hl 0 rfl) ?_
              refine lv_iadd hx hb dX12_share_189 ?_
              refine lv_dup2_11 hx hb dX12_share_190 rfl rfl ?_
              obtain ⟨o_191, hw⟩ := hw
              refine ldM_s C hK hO o_191 rfl dX12_share_191 ?_
              refine lv_iconst (v := (nI 1)) hx hb dX12_share_192 (by decide) ?_
              refine lv_iadd hx hb dX12_share_193 ?_
              obtain ⟨o_194, hw⟩ := hw
              refine stM_s C hK hO o_194 rfl dX12_share_194 (fun H locs hO => ?_)
              refine lv_aload_n hx hb dX12_share_195 rfl (lv_at hl 1 rfl) ?_
              refine gM_rests C hin hK lk_rests hO dX12_share_196 ?_
              refine lv_iload hx hb dX12_share_199 (lv_at hl 0 rfl) ?_
              refine lv_ldc2 (v := (-1)) hx hb hown (hts (Cond.constantLong RX12 220 (-1)) (List.mem_cons_of_mem _ qw7_54)) dX12_share_201 ?_
              obtain ⟨o_204, hw⟩ := hw
              refine stM_rests C hK hO o_204 rfl dX12_share_204 (fun H locs hO => ?_)
              refine lv_iinc (v := (v3_129 + (-1))) (lv' := [(3, .int (v3_129 + (-1))), (4, .int y0_179), (0, .ref h), (1, .int (k_s 4))]) hx hb dX12_share_205 hl (k := 3) rfl (iinc_m1 _) (by decide) rfl (fun ls hl => ?_)
              refine lv_goto (tgt := 129) hx hb dX12_share_208 (by decide) ?_
              exact ih_129 (v3_129 + (-1)) (upd s_129 ((((nI 69) + y0_179)).toNatClampNeg) ((s_129 (((nI 69) + y0_179)).toNatClampNeg) + (nI 1))) (vp_updL rests_129 ((y0_179).toNatClampNeg) (-1)) _ _ _ hO (lv_sub hl [2, 3, 0] rfl) hw
            refine lv_if_le (tgt := 177) hx hb dX12_share_170 (by decide) (fun q_170 => ?_) (fun q_170 => ?_)
            · refine lv_iload hx hb dX12_share_177 (lv_at hl 0 rfl) ?_
              have hl := lv_sub hl [1, 2, 3] rfl (l' := [(0, .ref h), (1, .int (k_s 4)), (3, .int v3_129)])
              exact m_179 _ _ _ _ (by rw [if_pos q_170]) hO hl
            · refine lv_iconst (v := (nI 2)) hx hb dX12_share_173 (by decide) ?_
              refine lv_goto (tgt := 179) hx hb dX12_share_174 (by decide) ?_
              have hl := lv_sub hl [1, 2, 3] rfl (l' := [(0, .ref h), (1, .int (k_s 4)), (3, .int v3_129)])
              exact m_179 _ _ _ _ (by rw [if_neg q_170]) hO hl
          refine lv_if_le (tgt := 153) hx hb dX12_share_146 (by decide) (fun q_146 => ?_) (fun q_146 => ?_)
          · refine lv_iconst (v := (nI 0)) hx hb dX12_share_153 (by decide) ?_
            have hl := lv_sub hl [0, 1, 2] rfl (l' := [(0, .ref h), (1, .int (k_s 4)), (3, .int v3_129)])
            exact m_154 _ _ _ _ (by rw [if_pos q_146]) hO hl
          · refine lv_iconst (v := (nI 1)) hx hb dX12_share_149 (by decide) ?_
            refine lv_goto (tgt := 154) hx hb dX12_share_150 (by decide) ?_
            have hl := lv_sub hl [0, 1, 2] rfl (l' := [(0, .ref h), (1, .int (k_s 4)), (3, .int v3_129)])
            exact m_154 _ _ _ _ (by rw [if_neg q_146]) hO hl
      have l_129 : ∀ (n : Nat) (v3_129 : Int32) (s_129 : Nat → Int32) (rests_129 : Nat → Int64) (H : Heap) (locs : List Loc) (ls : Array Slot), okW D A s.heap H locs (wM cI cZ cJ h ad k_thrown s_129 k_image k_hasImage k_steps k_read k_spot k_isWrong k_open k_act k_letBy k_letStamp k_stamp k_fallen k_held k_stands k_falling k_away k_round rests_129 k_may k_next k_could k_couldNight k_night k_seats) → lv_has ls 10 [(0, .ref h), (1, .int (k_s 4)), (3, .int v3_129)] → wl_X12_share_129 k_s Q n v3_129 s_129 rests_129 → W p l e R s m args below meth c H locs 0 0 QQ (F0 m 129 ls []) := by
        intro n
        induction n with
        | zero => intro v3_129 s_129 rests_129 H locs ls hO hl hw; exact False.elim hw
        | succ n ih => exact b_129 _ ih
      exact l_129 n_129 v3_36 s_36 rests_36 _ _ _ hO (lv_sub hl [0, 1, 3] rfl) hw
    · have hw := hw.2 q_39
      refine lv_iload_n hx hb dX12_share_42 rfl (lv_at hl 2 rfl) ?_
      obtain ⟨hs, hw⟩ := hw
      have m_61 : ∀ (y0_61 : Int64) (H : Heap) (locs : List Loc) (ls : Array Slot), y0_61 = (if (((k_s 66) + (k_s 67)) + (k_s 68)) = 0 then (1) else (((s_36 (((nI 66) + v4_36)).toNatClampNeg)).toInt64)) → okW D A s.heap H locs (wM cI cZ cJ h ad k_thrown s_36 k_image k_hasImage k_steps k_read k_spot k_isWrong k_open k_act k_letBy k_letStamp k_stamp k_fallen k_held k_stands k_falling k_away k_round rests_36 k_may k_next k_could k_couldNight k_night k_seats) → lv_has ls 10 [(0, .ref h), (1, .int (k_s 4)), (2, .int (((k_s 66) + (k_s 67)) + (k_s 68))), (3, .int v3_36), (4, .int v4_36)] → W p l e R s m args below meth c H locs 0 0 QQ (F0 m 61 ls [.long y0_61]) := by
        intro y0_61 H locs ls ey0_61 hO hl
        have hw := hw y0_61 ey0_61
        refine lv_lstore (lv' := [(5, .long y0_61), (0, .ref h), (1, .int (k_s 4)), (2, .int (((k_s 66) + (k_s 67)) + (k_s 68))), (3, .int v3_36), (4, .int v4_36)]) hx hb dX12_share_61 hl (by decide) rfl (fun ls hl => ?_)
        refine lv_iload_n hx hb dX12_share_63 rfl (lv_at hl 3 rfl) ?_
        have m_75 : ∀ (y0_75 : Int64) (H : Heap) (locs : List Loc) (ls : Array Slot), y0_75 = (if (((k_s 66) + (k_s 67)) + (k_s 68)) = 0 then (3) else (((((k_s 66) + (k_s 67)) + (k_s 68))).toInt64)) → okW D A s.heap H locs (wM cI cZ cJ h ad k_thrown s_36 k_image k_hasImage k_steps k_read k_spot k_isWrong k_open k_act k_letBy k_letStamp k_stamp k_fallen k_held k_stands k_falling k_away k_round rests_36 k_may k_next k_could k_couldNight k_night k_seats) → lv_has ls 10 [(0, .ref h), (1, .int (k_s 4)), (2, .int (((k_s 66) + (k_s 67)) + (k_s 68))), (3, .int v3_36), (4, .int v4_36), (5, .long y0_61)] → W p l e R s m args below meth c H locs 0 0 QQ (F0 m 75 ls [.long y0_75]) := by
          intro y0_75 H locs ls ey0_75 hO hl
          have hw := hw y0_75 ey0_75
          refine lv_lstore (lv' := [(7, .long y0_75), (0, .ref h), (1, .int (k_s 4)), (2, .int (((k_s 66) + (k_s 67)) + (k_s 68))), (3, .int v3_36), (4, .int v4_36), (5, .long y0_61)]) hx hb dX12_share_75 hl (by decide) rfl (fun ls hl => ?_)
          refine lv_iload_n hx hb dX12_share_77 rfl (lv_at hl 2 rfl) ?_
          refine lv_i2l hx hb dX12_share_78 rfl ?_
          refine lv_lload hx hb dX12_share_79 (lv_at hl 6 rfl) ?_
          refine lv_lmul hx hb dX12_share_81 ?_
          refine lv_lload hx hb dX12_share_82 (lv_at hl 0 rfl) ?_
          obtain ⟨o_84, hw⟩ := hw
          refine lv_ldiv hx hb dX12_share_84 o_84 ?_
          refine lv_l2i hx hb dX12_share_85 rfl ?_
          refine lv_topi (fun x_85 ex_85 => ?_)
          have hw := hw x_85 ex_85
          refine lv_istore (lv' := [(9, .int x_85), (7, .long y0_75), (0, .ref h), (1, .int (k_s 4)), (2, .int (((k_s 66) + (k_s 67)) + (k_s 68))), (3, .int v3_36), (4, .int v4_36), (5, .long y0_61)]) hx hb dX12_share_86 hl (by decide) rfl (fun ls hl => ?_)
          refine lv_aload_n hx hb dX12_share_88 rfl (lv_at hl 2 rfl) ?_
          refine gM_rests C hin hK lk_rests hO dX12_share_89 ?_
          refine lv_iload hx hb dX12_share_92 (lv_at hl 6 rfl) ?_
          refine lv_iload_n hx hb dX12_share_94 rfl (lv_at hl 3 rfl) ?_
          refine lv_i2l hx hb dX12_share_95 rfl ?_
          refine lv_lload hx hb dX12_share_96 (lv_at hl 7 rfl) ?_
          refine lv_lmul hx hb dX12_share_98 ?_
          refine lv_lload hx hb dX12_share_99 (lv_at hl 1 rfl) ?_
          obtain ⟨o_101, hw⟩ := hw
          refine lv_lrem hx hb dX12_share_101 o_101 ?_
          obtain ⟨o_102, hw⟩ := hw
          refine stM_rests C hK hO o_102 rfl dX12_share_102 (fun H locs hO => ?_)
          refine lv_aload_n hx hb dX12_share_103 rfl (lv_at hl 2 rfl) ?_
          refine gM_s C hin hK lk_s hO dX12_share_104 ?_
          refine lv_bipush (v := (nI 69)) hx hb dX12_share_107 (by decide) ?_
          refine lv_iload hx hb dX12_share_109 (lv_at hl 6 rfl) ?_
          refine lv_iadd hx hb dX12_share_111 ?_
          refine lv_dup2_11 hx hb dX12_share_112 rfl rfl ?_
          obtain ⟨o_113, hw⟩ := hw
          refine ldM_s C hK hO o_113 rfl dX12_share_113 ?_
          refine lv_iload hx hb dX12_share_114 (lv_at hl 0 rfl) ?_
          refine lv_iadd hx hb dX12_share_116 ?_
          obtain ⟨o_117, hw⟩ := hw
          refine stM_s C hK hO o_117 rfl dX12_share_117 (fun H locs hO => ?_)
          refine lv_iload_n hx hb dX12_share_118 rfl (lv_at hl 5 rfl) ?_
          refine lv_iload hx hb dX12_share_119 (lv_at hl 0 rfl) ?_
          refine lv_isub hx hb dX12_share_121 ?_
          refine lv_istore_n (lv' := [(3, .int (v3_36 - x_85)), (9, .int x_85), (7, .long y0_75), (0, .ref h), (1, .int (k_s 4)), (2, .int (((k_s 66) + (k_s 67)) + (k_s 68))), (4, .int v4_36), (5, .long y0_61)]) hx hb dX12_share_122 rfl hl (by decide) rfl (fun ls hl => ?_)
          refine lv_iinc (v := (v4_36 + (nI 1))) (lv' := [(4, .int (v4_36 + (nI 1))), (3, .int (v3_36 - x_85)), (9, .int x_85), (7, .long y0_75), (0, .ref h), (1, .int (k_s 4)), (2, .int (((k_s 66) + (k_s 67)) + (k_s 68))), (5, .long y0_61)]) hx hb dX12_share_123 hl (k := 6) rfl (iinc_1 _) (by decide) rfl (fun ls hl => ?_)
          refine lv_goto (tgt := 36) hx hb dX12_share_126 (by decide) ?_
          exact ih_36 (v3_36 - x_85) (v4_36 + (nI 1)) (upd s_36 ((((nI 69) + v4_36)).toNatClampNeg) ((s_36 (((nI 69) + v4_36)).toNatClampNeg) + x_85)) (vp_updL rests_36 ((v4_36).toNatClampNeg) (((((k_s 4)).toInt64) * y0_61) - ((((k_s 4)).toInt64) * y0_61) / y0_75 * y0_75)) _ _ _ hO (lv_sub hl [4, 5, 6, 1, 0] rfl) hw
        refine lv_if_ne (tgt := 73) hx hb dX12_share_64 (by decide) (fun q_64 => ?_) (fun q_64 => ?_)
        · refine lv_iload_n hx hb dX12_share_73 rfl (lv_at hl 3 rfl) ?_
          refine lv_i2l hx hb dX12_share_74 rfl ?_
          have hl := lv_sub hl [1, 2, 3, 4, 5, 0] rfl (l' := [(0, .ref h), (1, .int (k_s 4)), (2, .int (((k_s 66) + (k_s 67)) + (k_s 68))), (3, .int v3_36), (4, .int v4_36), (5, .long y0_61)])
          exact m_75 _ _ _ _ (by rw [if_neg q_64]) hO hl
        · refine lv_ldc2 (v := (3)) hx hb hown (hts (Cond.constantLong RX12 218 (3)) (List.mem_cons_of_mem _ qw7_53)) dX12_share_67 ?_
          refine lv_goto (tgt := 75) hx hb dX12_share_70 (by decide) ?_
          have hl := lv_sub hl [1, 2, 3, 4, 5, 0] rfl (l' := [(0, .ref h), (1, .int (k_s 4)), (2, .int (((k_s 66) + (k_s 67)) + (k_s 68))), (3, .int v3_36), (4, .int v4_36), (5, .long y0_61)])
          exact m_75 _ _ _ _ (by rw [if_pos q_64]) hO hl
      refine lv_if_ne (tgt := 50) hx hb dX12_share_43 (by decide) (fun q_43 => ?_) (fun q_43 => ?_)
      · have hs := hs q_43
        have o_59 := hs
        refine lv_aload_n hx hb dX12_share_50 rfl (lv_at hl 0 rfl) ?_
        refine gM_s C hin hK lk_s hO dX12_share_51 ?_
        refine lv_bipush (v := (nI 66)) hx hb dX12_share_54 (by decide) ?_
        refine lv_iload hx hb dX12_share_56 (lv_at hl 4 rfl) ?_
        refine lv_iadd hx hb dX12_share_58 ?_
        refine ldM_s C hK hO o_59 rfl dX12_share_59 ?_
        refine lv_i2l hx hb dX12_share_60 rfl ?_
        have hl := lv_sub hl [0, 1, 2, 3, 4] rfl (l' := [(0, .ref h), (1, .int (k_s 4)), (2, .int (((k_s 66) + (k_s 67)) + (k_s 68))), (3, .int v3_36), (4, .int v4_36)])
        exact m_61 _ _ _ _ (by rw [if_neg q_43]) hO hl
      · refine lv_lconst (v := (1)) hx hb dX12_share_46 (by decide) ?_
        refine lv_goto (tgt := 61) hx hb dX12_share_47 (by decide) ?_
        have hl := lv_sub hl [0, 1, 2, 3, 4] rfl (l' := [(0, .ref h), (1, .int (k_s 4)), (2, .int (((k_s 66) + (k_s 67)) + (k_s 68))), (3, .int v3_36), (4, .int v4_36)])
        exact m_61 _ _ _ _ (by rw [if_pos q_43]) hO hl
  have l_36 : ∀ (n : Nat) (v3_36 : Int32) (v4_36 : Int32) (s_36 : Nat → Int32) (rests_36 : Nat → Int64) (H : Heap) (locs : List Loc) (ls : Array Slot), okW D A s.heap H locs (wM cI cZ cJ h ad k_thrown s_36 k_image k_hasImage k_steps k_read k_spot k_isWrong k_open k_act k_letBy k_letStamp k_stamp k_fallen k_held k_stands k_falling k_away k_round rests_36 k_may k_next k_could k_couldNight k_night k_seats) → lv_has ls 10 [(0, .ref h), (1, .int (k_s 4)), (2, .int (((k_s 66) + (k_s 67)) + (k_s 68))), (3, .int v3_36), (4, .int v4_36)] → wl_X12_share_36 k_s Q n v3_36 v4_36 s_36 rests_36 → W p l e R s m args below meth c H locs 0 0 QQ (F0 m 36 ls []) := by
    intro n
    induction n with
    | zero => intro v3_36 v4_36 s_36 rests_36 H locs ls hO hl hw; exact False.elim hw
    | succ n ih => exact b_36 _ ih
  exact l_36 n_36 (k_s 4) (nI 0) k_s k_rests _ _ _ hO (lv_sub hl [4, 3, 2, 1, 0] rfl) hw
def wp_X12_whole (p1 : Int32) (p2 : Int32) (k_s : Nat → Int32) (Q : Int32 → Prop) : Prop := ((p1 = (nI 0) → (((¬ (f_X12_in p2 (nI 0) (nI 2)) = 0 → (vp_in ((nI 69) + p2) 6700))) ∧ (∀ y0_63 : Int32, y0_63 = (if (f_X12_in p2 (nI 0) (nI 2)) = 0 then (-5) else (k_s (((nI 69) + p2)).toNatClampNeg)) → (Q y0_63)))) ∧ (p1 = (nI 1) → (((¬ (f_X12_isGood p2) = 0 → (vp_in ((nI 50) + p2) 6700))) ∧ (∀ y0_85 : Int32, y0_85 = (if (f_X12_isGood p2) = 0 then (-5) else (k_s (((nI 50) + p2)).toNatClampNeg)) → (Q y0_85)))) ∧ (p1 = (nI 2) → (((¬ (f_X12_isGood p2) = 0 → (vp_in ((nI 54) + p2) 6700))) ∧ (∀ y0_107 : Int32, y0_107 = (if (f_X12_isGood p2) = 0 then (-5) else (k_s (((nI 54) + p2)).toNatClampNeg)) → (Q y0_107)))) ∧ (p1 = (nI 3) → (((¬ (f_X12_isGood p2) = 0 → (vp_in ((nI 58) + p2) 6700))) ∧ (∀ y0_129 : Int32, y0_129 = (if (f_X12_isGood p2) = 0 then (-5) else (k_s (((nI 58) + p2)).toNatClampNeg)) → (Q y0_129)))) ∧ (p1 = (nI 4) → (((¬ (f_X12_isShip k_s p2) = 0 → (vp_in ((nI 102) + p2) 6700))) ∧ (∀ y0_152 : Int32, y0_152 = (if (f_X12_isShip k_s p2) = 0 then (-5) else (k_s (((nI 102) + p2)).toNatClampNeg)) → (Q y0_152)))) ∧ (p1 = (nI 5) → (((¬ (f_X12_isShip k_s p2) = 0 → (vp_in ((nI 114) + p2) 6700))) ∧ (∀ y0_175 : Int32, y0_175 = (if (f_X12_isShip k_s p2) = 0 then (-5) else (k_s (((nI 114) + p2)).toNatClampNeg)) → (Q y0_175)))) ∧ (¬ p1 = (nI 0) → ¬ p1 = (nI 1) → ¬ p1 = (nI 2) → ¬ p1 = (nI 3) → ¬ p1 = (nI 4) → ¬ p1 = (nI 5) → (Q (-5))))
set_option maxHeartbeats 4000000 in
set_option maxRecDepth 100000 in
theorem c_X12_whole {l : Launch} {D : va_G} {cI cZ cJ : ClassId} {h : Nat} {ad : Nat → Nat} {sz : Nat} {k_thrown : Int32} {k_s : Nat → Int32} {k_image : Nat → Int32} {k_hasImage : Int32} {k_steps : Nat → Int32} {k_read : Int32} {k_spot : Int32} {k_isWrong : Int32} {k_open : Int32} {k_act : Int32} {k_letBy : Nat → Int32} {k_letStamp : Nat → Int32} {k_stamp : Int32} {k_fallen : Nat → Int32} {k_held : Nat → Int32} {k_stands : Nat → Int32} {k_falling : Nat → Int32} {k_away : Nat → Int32} {k_round : Nat → Int32} {k_rests : Nat → Int64} {k_may : Nat → Int32} {k_next : Nat → Int32} {k_could : Nat → Int32} {k_couldNight : Nat → Int32} {k_night : Int32} {k_seats : Nat → Int32} {p1 : Int32} {p2 : Int32} {Q : Int32 → Prop} (hw : wp_X12_whole p1 p2 k_s Q) : Met l yX12_whole (Cond.code yX12_whole cX12_whole 3 (some .int) :: wsG) ({ frames := 2, cells := 0, slots := 0, locals := 43 } : Room) (preW D (tyM cI cZ cJ) (wM cI cZ cJ h ad k_thrown k_s k_image k_hasImage k_steps k_read k_spot k_isWrong k_open k_act k_letBy k_letStamp k_stamp k_fallen k_held k_stands k_falling k_away k_round k_rests k_may k_next k_could k_couldNight k_night k_seats) sz [.ref h, .int p1, .int p2]) (qi0 D (tyM cI cZ cJ) (va_A (wM cI cZ cJ h ad k_thrown k_s k_image k_hasImage k_steps k_read k_spot k_isWrong k_open k_act k_letBy k_letStamp k_stamp k_fallen k_held k_stands k_falling k_away k_round k_rests k_may k_next k_could k_couldNight k_night k_seats) sz) Q (wM cI cZ cJ h ad k_thrown k_s k_image k_hasImage k_steps k_read k_spot k_isWrong k_open k_act k_letBy k_letStamp k_stamp k_fallen k_held k_stands k_falling k_away k_round k_rests k_may k_next k_could k_couldNight k_night k_seats)) 0 0 (va_A (wM cI cZ cJ h ad k_thrown k_s k_image k_hasImage k_steps k_read k_spot k_isWrong k_open k_act k_letBy k_letStamp k_stamp k_fallen k_held k_stands k_falling k_away k_round k_rests k_may k_next k_could k_couldNight k_night k_seats) sz) := by
  refine st_met (cc := cX12_whole) (maxL := 3) (ret := (some .int)) (lv := [(0, .ref h), (1, .int p1), (2, .int p2)]) (Qc := fun A => qi0 D (tyM cI cZ cJ) A Q (wM cI cZ cJ h ad k_thrown k_s k_image k_hasImage k_steps k_read k_spot k_isWrong k_open k_act k_letBy k_letStamp k_stamp k_fallen k_held k_stands k_falling k_away k_round k_rests k_may k_next k_could k_couldNight k_night k_seats)) (by decide) rfl (Nat.le_of_ble_eq_true rfl) rfl ?_
  intro p e s m below meth c ls A R args QQ H locs C hr hlk hnm hK hX hsz hl hO hR hQQ
  have hx := C.1
  have hb := C.2.1
  have hown := C.2.2.2.1
  have hts := C.2.2.2.2
  have hin : ∀ w ∈ u_ws RX12 TX12 26, w ∈ (Cond.code yX12_whole cX12_whole 3 (some .int) :: wsG) := fun w h9 => List.mem_cons_of_mem _ (inG12 w h9)
  have lk_s := hts (Cond.fieldLink RX12 7 "FreeCityModel" "s" "[I") (List.mem_cons_of_mem _ qw5_207)
  unfold wp_X12_whole at hw
  refine lv_iload_n hx hb dX12_whole_0 rfl (lv_at hl 1 rfl) ?_
  by_cases s_1_0 : p1 = (nI 0)
  · have hw := hw.1 s_1_0
    refine lv_tableIn (off := 39) (tgt := 40) hx hb dX12_whole_1 (by rw [s_1_0]; decide) (by rw [s_1_0]; decide) (by rw [s_1_0]; decide) (by decide) ?_
    refine lv_iload_n hx hb dX12_whole_40 rfl (lv_at hl 2 rfl) ?_
    refine lv_iconst (v := (nI 0)) hx hb dX12_whole_41 (by decide) ?_
    refine lv_iconst (v := (nI 2)) hx hb dX12_whole_42 (by decide) ?_
    refine cSi0 (As := [.int p2, .int (nI 0), .int (nI 2)]) (rest := []) C hK hX hO (c_X12_in (l := l)) (va_cwS 3 hts gd_X12_74 rfl rfl rfl hd_X12_in (rok hR (Nat.le_of_ble_eq_true rfl) (Nat.le_of_ble_eq_true rfl))) rfl hl.1 rfl (Nat.le_of_ble_eq_true rfl) dX12_whole_43 ⟨Nat.zero_le _, Nat.zero_le _⟩ (fun r_43 H locs e_43 hO => ?_)
    subst e_43
    obtain ⟨hs, hw⟩ := hw
    have m_63 : ∀ (y0_63 : Int32) (H : Heap) (locs : List Loc) (ls : Array Slot), y0_63 = (if (f_X12_in p2 (nI 0) (nI 2)) = 0 then (-5) else (k_s (((nI 69) + p2)).toNatClampNeg)) → okW D A s.heap H locs (wM cI cZ cJ h ad k_thrown k_s k_image k_hasImage k_steps k_read k_spot k_isWrong k_open k_act k_letBy k_letStamp k_stamp k_fallen k_held k_stands k_falling k_away k_round k_rests k_may k_next k_could k_couldNight k_night k_seats) → lv_has ls 3 [] → W p l e R s m args below meth c H locs 0 0 QQ (F0 m 63 ls [.int y0_63]) := by
      intro y0_63 H locs ls ey0_63 hO hl
      have hw := hw y0_63 ey0_63
      exact ri0 hQQ hx hb hr hlk hK hO hw dX12_whole_63
    refine lv_if_eq (tgt := 61) hx hb dX12_whole_46 (by decide) (fun q_46 => ?_) (fun q_46 => ?_)
    · refine lv_bipush (v := (-5)) hx hb dX12_whole_61 (by decide) ?_
      have hl := lv_sub hl [] rfl (l' := [])
      exact m_63 _ _ _ _ (by rw [if_pos q_46]) hO hl
    · have hs := hs q_46
      have o_57 := hs
      refine lv_aload_n hx hb dX12_whole_49 rfl (lv_at hl 0 rfl) ?_
      refine gM_s C hin hK lk_s hO dX12_whole_50 ?_
      refine lv_bipush (v := (nI 69)) hx hb dX12_whole_53 (by decide) ?_
      refine lv_iload_n hx hb dX12_whole_55 rfl (lv_at hl 2 rfl) ?_
      refine lv_iadd hx hb dX12_whole_56 ?_
      refine ldM_s C hK hO o_57 rfl dX12_whole_57 ?_
      refine lv_goto (tgt := 63) hx hb dX12_whole_58 (by decide) ?_
      have hl := lv_sub hl [] rfl (l' := [])
      exact m_63 _ _ _ _ (by rw [if_neg q_46]) hO hl
  by_cases s_1_1 : p1 = (nI 1)
  · have hw := hw.2.1 s_1_1
    refine lv_tableIn (off := 63) (tgt := 64) hx hb dX12_whole_1 (by rw [s_1_1]; decide) (by rw [s_1_1]; decide) (by rw [s_1_1]; decide) (by decide) ?_
    refine lv_iload_n hx hb dX12_whole_64 rfl (lv_at hl 2 rfl) ?_
    refine cSi0 (As := [.int p2]) (rest := []) C hK hX hO (c_X12_isGood (l := l)) (va_cwS 1 hts gd_X12_212 rfl rfl rfl hd_X12_isGood (rok hR (Nat.le_of_ble_eq_true rfl) (Nat.le_of_ble_eq_true rfl))) rfl hl.1 rfl (Nat.le_of_ble_eq_true rfl) dX12_whole_65 ⟨Nat.zero_le _, Nat.zero_le _⟩ (fun r_65 H locs e_65 hO => ?_)
    subst e_65
    obtain ⟨hs, hw⟩ := hw
    have m_85 : ∀ (y0_85 : Int32) (H : Heap) (locs : List Loc) (ls : Array Slot), y0_85 = (if (f_X12_isGood p2) = 0 then (-5) else (k_s (((nI 50) + p2)).toNatClampNeg)) → okW D A s.heap H locs (wM cI cZ cJ h ad k_thrown k_s k_image k_hasImage k_steps k_read k_spot k_isWrong k_open k_act k_letBy k_letStamp k_stamp k_fallen k_held k_stands k_falling k_away k_round k_rests k_may k_next k_could k_couldNight k_night k_seats) → lv_has ls 3 [] → W p l e R s m args below meth c H locs 0 0 QQ (F0 m 85 ls [.int y0_85]) := by
      intro y0_85 H locs ls ey0_85 hO hl
      have hw := hw y0_85 ey0_85
      exact ri0 hQQ hx hb hr hlk hK hO hw dX12_whole_85
    refine lv_if_eq (tgt := 83) hx hb dX12_whole_68 (by decide) (fun q_68 => ?_) (fun q_68 => ?_)
    · refine lv_bipush (v := (-5)) hx hb dX12_whole_83 (by decide) ?_
      have hl := lv_sub hl [] rfl (l' := [])
      exact m_85 _ _ _ _ (by rw [if_pos q_68]) hO hl
    · have hs := hs q_68
      have o_79 := hs
      refine lv_aload_n hx hb dX12_whole_71 rfl (lv_at hl 0 rfl) ?_
      refine gM_s C hin hK lk_s hO dX12_whole_72 ?_
      refine lv_bipush (v := (nI 50)) hx hb dX12_whole_75 (by decide) ?_
      refine lv_iload_n hx hb dX12_whole_77 rfl (lv_at hl 2 rfl) ?_
      refine lv_iadd hx hb dX12_whole_78 ?_
      refine ldM_s C hK hO o_79 rfl dX12_whole_79 ?_
      refine lv_goto (tgt := 85) hx hb dX12_whole_80 (by decide) ?_
      have hl := lv_sub hl [] rfl (l' := [])
      exact m_85 _ _ _ _ (by rw [if_neg q_68]) hO hl
  by_cases s_1_2 : p1 = (nI 2)
  · have hw := hw.2.2.1 s_1_2
    refine lv_tableIn (off := 85) (tgt := 86) hx hb dX12_whole_1 (by rw [s_1_2]; decide) (by rw [s_1_2]; decide) (by rw [s_1_2]; decide) (by decide) ?_
    refine lv_iload_n hx hb dX12_whole_86 rfl (lv_at hl 2 rfl) ?_
    refine cSi0 (As := [.int p2]) (rest := []) C hK hX hO (c_X12_isGood (l := l)) (va_cwS 1 hts gd_X12_212 rfl rfl rfl hd_X12_isGood (rok hR (Nat.le_of_ble_eq_true rfl) (Nat.le_of_ble_eq_true rfl))) rfl hl.1 rfl (Nat.le_of_ble_eq_true rfl) dX12_whole_87 ⟨Nat.zero_le _, Nat.zero_le _⟩ (fun r_87 H locs e_87 hO => ?_)
    subst e_87
    obtain ⟨hs, hw⟩ := hw
    have m_107 : ∀ (y0_107 : Int32) (H : Heap) (locs : List Loc) (ls : Array Slot), y0_107 = (if (f_X12_isGood p2) = 0 then (-5) else (k_s (((nI 54) + p2)).toNatClampNeg)) → okW D A s.heap H locs (wM cI cZ cJ h ad k_thrown k_s k_image k_hasImage k_steps k_read k_spot k_isWrong k_open k_act k_letBy k_letStamp k_stamp k_fallen k_held k_stands k_falling k_away k_round k_rests k_may k_next k_could k_couldNight k_night k_seats) → lv_has ls 3 [] → W p l e R s m args below meth c H locs 0 0 QQ (F0 m 107 ls [.int y0_107]) := by
      intro y0_107 H locs ls ey0_107 hO hl
      have hw := hw y0_107 ey0_107
      exact ri0 hQQ hx hb hr hlk hK hO hw dX12_whole_107
    refine lv_if_eq (tgt := 105) hx hb dX12_whole_90 (by decide) (fun q_90 => ?_) (fun q_90 => ?_)
    · refine lv_bipush (v := (-5)) hx hb dX12_whole_105 (by decide) ?_
      have hl := lv_sub hl [] rfl (l' := [])
      exact m_107 _ _ _ _ (by rw [if_pos q_90]) hO hl
    · have hs := hs q_90
      have o_101 := hs
      refine lv_aload_n hx hb dX12_whole_93 rfl (lv_at hl 0 rfl) ?_
      refine gM_s C hin hK lk_s hO dX12_whole_94 ?_
      refine lv_bipush (v := (nI 54)) hx hb dX12_whole_97 (by decide) ?_
      refine lv_iload_n hx hb dX12_whole_99 rfl (lv_at hl 2 rfl) ?_
      refine lv_iadd hx hb dX12_whole_100 ?_
      refine ldM_s C hK hO o_101 rfl dX12_whole_101 ?_
      refine lv_goto (tgt := 107) hx hb dX12_whole_102 (by decide) ?_
      have hl := lv_sub hl [] rfl (l' := [])
      exact m_107 _ _ _ _ (by rw [if_neg q_90]) hO hl
  by_cases s_1_3 : p1 = (nI 3)
  · have hw := hw.2.2.2.1 s_1_3
    refine lv_tableIn (off := 107) (tgt := 108) hx hb dX12_whole_1 (by rw [s_1_3]; decide) (by rw [s_1_3]; decide) (by rw [s_1_3]; decide) (by decide) ?_
    refine lv_iload_n hx hb dX12_whole_108 rfl (lv_at hl 2 rfl) ?_
    refine cSi0 (As := [.int p2]) (rest := []) C hK hX hO (c_X12_isGood (l := l)) (va_cwS 1 hts gd_X12_212 rfl rfl rfl hd_X12_isGood (rok hR (Nat.le_of_ble_eq_true rfl) (Nat.le_of_ble_eq_true rfl))) rfl hl.1 rfl (Nat.le_of_ble_eq_true rfl) dX12_whole_109 ⟨Nat.zero_le _, Nat.zero_le _⟩ (fun r_109 H locs e_109 hO => ?_)
    subst e_109
    obtain ⟨hs, hw⟩ := hw
    have m_129 : ∀ (y0_129 : Int32) (H : Heap) (locs : List Loc) (ls : Array Slot), y0_129 = (if (f_X12_isGood p2) = 0 then (-5) else (k_s (((nI 58) + p2)).toNatClampNeg)) → okW D A s.heap H locs (wM cI cZ cJ h ad k_thrown k_s k_image k_hasImage k_steps k_read k_spot k_isWrong k_open k_act k_letBy k_letStamp k_stamp k_fallen k_held k_stands k_falling k_away k_round k_rests k_may k_next k_could k_couldNight k_night k_seats) → lv_has ls 3 [] → W p l e R s m args below meth c H locs 0 0 QQ (F0 m 129 ls [.int y0_129]) := by
      intro y0_129 H locs ls ey0_129 hO hl
      have hw := hw y0_129 ey0_129
      exact ri0 hQQ hx hb hr hlk hK hO hw dX12_whole_129
    refine lv_if_eq (tgt := 127) hx hb dX12_whole_112 (by decide) (fun q_112 => ?_) (fun q_112 => ?_)
    · refine lv_bipush (v := (-5)) hx hb dX12_whole_127 (by decide) ?_
      have hl := lv_sub hl [] rfl (l' := [])
      exact m_129 _ _ _ _ (by rw [if_pos q_112]) hO hl
    · have hs := hs q_112
      have o_123 := hs
      refine lv_aload_n hx hb dX12_whole_115 rfl (lv_at hl 0 rfl) ?_
      refine gM_s C hin hK lk_s hO dX12_whole_116 ?_
      refine lv_bipush (v := (nI 58)) hx hb dX12_whole_119 (by decide) ?_
      refine lv_iload_n hx hb dX12_whole_121 rfl (lv_at hl 2 rfl) ?_
      refine lv_iadd hx hb dX12_whole_122 ?_
      refine ldM_s C hK hO o_123 rfl dX12_whole_123 ?_
      refine lv_goto (tgt := 129) hx hb dX12_whole_124 (by decide) ?_
      have hl := lv_sub hl [] rfl (l' := [])
      exact m_129 _ _ _ _ (by rw [if_neg q_112]) hO hl
  by_cases s_1_4 : p1 = (nI 4)
  · have hw := hw.2.2.2.2.1 s_1_4
    refine lv_tableIn (off := 129) (tgt := 130) hx hb dX12_whole_1 (by rw [s_1_4]; decide) (by rw [s_1_4]; decide) (by rw [s_1_4]; decide) (by decide) ?_
    refine lv_aload_n hx hb dX12_whole_130 rfl (lv_at hl 0 rfl) ?_
    refine lv_iload_n hx hb dX12_whole_131 rfl (lv_at hl 2 rfl) ?_
    refine cVi0 (As := [.int p2]) (rest := []) C hK hX hO (c_X12_isShip (l := l)) (cwV 1 hts gd_X12_215 rfl rfl rfl hd_X12_isShip (rok hR (Nat.le_of_ble_eq_true rfl) (Nat.le_of_ble_eq_true rfl))) (ci := 12) (q0 := 0) rfl rfl rfl rfl hl.1 rfl (Nat.le_of_ble_eq_true rfl) dX12_whole_132 ⟨Nat.zero_le _, Nat.zero_le _⟩ (fun r_132 H locs e_132 hO => ?_)
    subst e_132
    obtain ⟨hs, hw⟩ := hw
    have m_152 : ∀ (y0_152 : Int32) (H : Heap) (locs : List Loc) (ls : Array Slot), y0_152 = (if (f_X12_isShip k_s p2) = 0 then (-5) else (k_s (((nI 102) + p2)).toNatClampNeg)) → okW D A s.heap H locs (wM cI cZ cJ h ad k_thrown k_s k_image k_hasImage k_steps k_read k_spot k_isWrong k_open k_act k_letBy k_letStamp k_stamp k_fallen k_held k_stands k_falling k_away k_round k_rests k_may k_next k_could k_couldNight k_night k_seats) → lv_has ls 3 [] → W p l e R s m args below meth c H locs 0 0 QQ (F0 m 152 ls [.int y0_152]) := by
      intro y0_152 H locs ls ey0_152 hO hl
      have hw := hw y0_152 ey0_152
      exact ri0 hQQ hx hb hr hlk hK hO hw dX12_whole_152
    refine lv_if_eq (tgt := 150) hx hb dX12_whole_135 (by decide) (fun q_135 => ?_) (fun q_135 => ?_)
    · refine lv_bipush (v := (-5)) hx hb dX12_whole_150 (by decide) ?_
      have hl := lv_sub hl [] rfl (l' := [])
      exact m_152 _ _ _ _ (by rw [if_pos q_135]) hO hl
    · have hs := hs q_135
      have o_146 := hs
      refine lv_aload_n hx hb dX12_whole_138 rfl (lv_at hl 0 rfl) ?_
      refine gM_s C hin hK lk_s hO dX12_whole_139 ?_
      refine lv_bipush (v := (nI 102)) hx hb dX12_whole_142 (by decide) ?_
      refine lv_iload_n hx hb dX12_whole_144 rfl (lv_at hl 2 rfl) ?_
      refine lv_iadd hx hb dX12_whole_145 ?_
      refine ldM_s C hK hO o_146 rfl dX12_whole_146 ?_
      refine lv_goto (tgt := 152) hx hb dX12_whole_147 (by decide) ?_
      have hl := lv_sub hl [] rfl (l' := [])
      exact m_152 _ _ _ _ (by rw [if_neg q_135]) hO hl
  by_cases s_1_5 : p1 = (nI 5)
  · have hw := hw.2.2.2.2.2.1 s_1_5
    refine lv_tableIn (off := 152) (tgt := 153) hx hb dX12_whole_1 (by rw [s_1_5]; decide) (by rw [s_1_5]; decide) (by rw [s_1_5]; decide) (by decide) ?_
    refine lv_aload_n hx hb dX12_whole_153 rfl (lv_at hl 0 rfl) ?_
    refine lv_iload_n hx hb dX12_whole_154 rfl (lv_at hl 2 rfl) ?_
    refine cVi0 (As := [.int p2]) (rest := []) C hK hX hO (c_X12_isShip (l := l)) (cwV 1 hts gd_X12_215 rfl rfl rfl hd_X12_isShip (rok hR (Nat.le_of_ble_eq_true rfl) (Nat.le_of_ble_eq_true rfl))) (ci := 12) (q0 := 0) rfl rfl rfl rfl hl.1 rfl (Nat.le_of_ble_eq_true rfl) dX12_whole_155 ⟨Nat.zero_le _, Nat.zero_le _⟩ (fun r_155 H locs e_155 hO => ?_)
    subst e_155
    obtain ⟨hs, hw⟩ := hw
    have m_175 : ∀ (y0_175 : Int32) (H : Heap) (locs : List Loc) (ls : Array Slot), y0_175 = (if (f_X12_isShip k_s p2) = 0 then (-5) else (k_s (((nI 114) + p2)).toNatClampNeg)) → okW D A s.heap H locs (wM cI cZ cJ h ad k_thrown k_s k_image k_hasImage k_steps k_read k_spot k_isWrong k_open k_act k_letBy k_letStamp k_stamp k_fallen k_held k_stands k_falling k_away k_round k_rests k_may k_next k_could k_couldNight k_night k_seats) → lv_has ls 3 [] → W p l e R s m args below meth c H locs 0 0 QQ (F0 m 175 ls [.int y0_175]) := by
      intro y0_175 H locs ls ey0_175 hO hl
      have hw := hw y0_175 ey0_175
      exact ri0 hQQ hx hb hr hlk hK hO hw dX12_whole_175
    refine lv_if_eq (tgt := 173) hx hb dX12_whole_158 (by decide) (fun q_158 => ?_) (fun q_158 => ?_)
    · refine lv_bipush (v := (-5)) hx hb dX12_whole_173 (by decide) ?_
      have hl := lv_sub hl [] rfl (l' := [])
      exact m_175 _ _ _ _ (by rw [if_pos q_158]) hO hl
    · have hs := hs q_158
      have o_169 := hs
      refine lv_aload_n hx hb dX12_whole_161 rfl (lv_at hl 0 rfl) ?_
      refine gM_s C hin hK lk_s hO dX12_whole_162 ?_
      refine lv_bipush (v := (nI 114)) hx hb dX12_whole_165 (by decide) ?_
      refine lv_iload_n hx hb dX12_whole_167 rfl (lv_at hl 2 rfl) ?_
      refine lv_iadd hx hb dX12_whole_168 ?_
      refine ldM_s C hK hO o_169 rfl dX12_whole_169 ?_
      refine lv_goto (tgt := 175) hx hb dX12_whole_170 (by decide) ?_
      have hl := lv_sub hl [] rfl (l' := [])
      exact m_175 _ _ _ _ (by rw [if_neg q_158]) hO hl
  have hw := hw.2.2.2.2.2.2 s_1_0 s_1_1 s_1_2 s_1_3 s_1_4 s_1_5
  have hts9 : (p1).toInt < 0 ∨ 5 < (p1).toInt := by
    refine tsw 0 5 (fun k h1 h2 => ?_)
    have h3 : k = 0 ∨ k = 1 ∨ k = 2 ∨ k = 3 ∨ k = 4 ∨ k = 5 := by omega
    rcases h3 with rfl | rfl | rfl | rfl | rfl | rfl
    · exact s_1_0
    · exact s_1_1
    · exact s_1_2
    · exact s_1_3
    · exact s_1_4
    · exact s_1_5
  refine lv_tableOut (tgt := 176) hx hb dX12_whole_1 hts9 (by decide) ?_
  refine lv_bipush (v := (-5)) hx hb dX12_whole_176 (by decide) ?_
  exact ri0 hQQ hx hb hr hlk hK hO hw dX12_whole_178
def f_X12_isFirm (k_s : Nat → Int32) (p1 : Int32) : Int32 := (f_X12_in p1 (nI 0) ((k_s 5) - (nI 1)))
theorem z_X12_isFirm (k_s : Nat → Int32) (p1 : Int32) : zb (f_X12_isFirm k_s p1) := by
  unfold f_X12_isFirm
  exact (z_X12_in p1 (nI 0) ((k_s 5) - (nI 1)))
set_option maxHeartbeats 4000000 in
set_option maxRecDepth 100000 in
theorem c_X12_isFirm {l : Launch} {D : va_G} {cI cZ cJ : ClassId} {h : Nat} {ad : Nat → Nat} {sz : Nat} {k_thrown : Int32} {k_s : Nat → Int32} {k_image : Nat → Int32} {k_hasImage : Int32} {k_steps : Nat → Int32} {k_read : Int32} {k_spot : Int32} {k_isWrong : Int32} {k_open : Int32} {k_act : Int32} {k_letBy : Nat → Int32} {k_letStamp : Nat → Int32} {k_stamp : Int32} {k_fallen : Nat → Int32} {k_held : Nat → Int32} {k_stands : Nat → Int32} {k_falling : Nat → Int32} {k_away : Nat → Int32} {k_round : Nat → Int32} {k_rests : Nat → Int64} {k_may : Nat → Int32} {k_next : Nat → Int32} {k_could : Nat → Int32} {k_couldNight : Nat → Int32} {k_night : Int32} {k_seats : Nat → Int32} {p1 : Int32} : Met l yX12_isFirm (Cond.code yX12_isFirm cX12_isFirm 2 (some .boolean) :: wsG) ({ frames := 1, cells := 0, slots := 0, locals := 22 } : Room) (preW D (tyM cI cZ cJ) (wM cI cZ cJ h ad k_thrown k_s k_image k_hasImage k_steps k_read k_spot k_isWrong k_open k_act k_letBy k_letStamp k_stamp k_fallen k_held k_stands k_falling k_away k_round k_rests k_may k_next k_could k_couldNight k_night k_seats) sz [.ref h, .int p1]) (qi0 D (tyM cI cZ cJ) (va_A (wM cI cZ cJ h ad k_thrown k_s k_image k_hasImage k_steps k_read k_spot k_isWrong k_open k_act k_letBy k_letStamp k_stamp k_fallen k_held k_stands k_falling k_away k_round k_rests k_may k_next k_could k_couldNight k_night k_seats) sz) (fun r => r = f_X12_isFirm k_s p1) (wM cI cZ cJ h ad k_thrown k_s k_image k_hasImage k_steps k_read k_spot k_isWrong k_open k_act k_letBy k_letStamp k_stamp k_fallen k_held k_stands k_falling k_away k_round k_rests k_may k_next k_could k_couldNight k_night k_seats)) 0 0 (va_A (wM cI cZ cJ h ad k_thrown k_s k_image k_hasImage k_steps k_read k_spot k_isWrong k_open k_act k_letBy k_letStamp k_stamp k_fallen k_held k_stands k_falling k_away k_round k_rests k_may k_next k_could k_couldNight k_night k_seats) sz) := by
  refine st_met (cc := cX12_isFirm) (maxL := 2) (ret := (some .boolean)) (lv := [(0, .ref h), (1, .int p1)]) (Qc := fun A => qi0 D (tyM cI cZ cJ) A (fun r => r = f_X12_isFirm k_s p1) (wM cI cZ cJ h ad k_thrown k_s k_image k_hasImage k_steps k_read k_spot k_isWrong k_open k_act k_letBy k_letStamp k_stamp k_fallen k_held k_stands k_falling k_away k_round k_rests k_may k_next k_could k_couldNight k_night k_seats)) (by decide) rfl (Nat.le_of_ble_eq_true rfl) rfl ?_
  intro p e s m below meth c ls A R args QQ H locs C hr hlk hnm hK hX hsz hl hO hR hQQ
  have hx := C.1
  have hb := C.2.1
  have hown := C.2.2.2.1
  have hts := C.2.2.2.2
  have hin : ∀ w ∈ u_ws RX12 TX12 26, w ∈ (Cond.code yX12_isFirm cX12_isFirm 2 (some .boolean) :: wsG) := fun w h9 => List.mem_cons_of_mem _ (inG12 w h9)
  have lk_s := hts (Cond.fieldLink RX12 7 "FreeCityModel" "s" "[I") (List.mem_cons_of_mem _ qw5_207)
  refine lv_iload_n hx hb dX12_isFirm_0 rfl (lv_at hl 1 rfl) ?_
  refine lv_iconst (v := (nI 0)) hx hb dX12_isFirm_1 (by decide) ?_
  refine lv_aload_n hx hb dX12_isFirm_2 rfl (lv_at hl 0 rfl) ?_
  refine gM_s C hin hK lk_s hO dX12_isFirm_3 ?_
  refine lv_iconst (v := (nI 5)) hx hb dX12_isFirm_6 (by decide) ?_
  refine ldM_s C hK hO (inK 5 6700 (by decide) (by decide)) (clK 5 (by decide)) dX12_isFirm_7 ?_
  refine lv_iconst (v := (nI 1)) hx hb dX12_isFirm_8 (by decide) ?_
  refine lv_isub hx hb dX12_isFirm_9 ?_
  refine cSi0 (As := [.int p1, .int (nI 0), .int ((k_s 5) - (nI 1))]) (rest := []) C hK hX hO (c_X12_in (l := l)) (va_cwS 3 hts gd_X12_74 rfl rfl rfl hd_X12_in (rok hR (Nat.le_of_ble_eq_true rfl) (Nat.le_of_ble_eq_true rfl))) rfl hl.1 rfl (Nat.le_of_ble_eq_true rfl) dX12_isFirm_10 ⟨Nat.zero_le _, Nat.zero_le _⟩ (fun r_10 H locs e_10 hO => ?_)
  subst e_10
  exact rz0 hQQ hx hb hr hlk hK hO (z_X12_in p1 (nI 0) ((k_s 5) - (nI 1))) (by unfold f_X12_isFirm; rfl) dX12_isFirm_13
theorem gd_X12_222 {a : Cond} : GoodIn (a :: wsG) (wsV RX12 222 RX12 yX12_isFirm (Cond.code yX12_isFirm cX12_isFirm 2 (some .boolean) :: wsG)) := gdV qw7_63 qw7_65 qs_63 qw1_12 qw7_66
theorem hd_X12_isFirm : yX12_isFirm.cls = RX12 ∧ yX12_isFirm.cls ≠ "java/lang/invoke/MethodHandle" ∧ yX12_isFirm.cls ≠ "java/lang/invoke/VarHandle" ∧ (parseMethodDescriptor yX12_isFirm.desc).map (fun d => d.parameters.length) = some 1 := by decide +kernel
def wp_X12_firm (p1 : Int32) (p2 : Int32) (k_s : Nat → Int32) (Q : Int32 → (Nat → Int32) → Prop) : Prop := (((f_X12_in p1 (nI 0) (nI 2)) = 0 → (Q (-1) k_s)) ∧ (¬ (f_X12_in p1 (nI 0) (nI 2)) = 0 → (((¬ p2 = (-1) ∧ (f_X12_isFirm k_s p2) = 0) → (Q (-1) k_s)) ∧ (¬ ((¬ p2 = (-1) ∧ (f_X12_isFirm k_s p2) = 0)) → ((¬ (k_s 5) = (nI 10) → (vp_in ((nI 130) + (k_s 5)) 6700 ∧ (vp_in ((nI 140) + ((upd k_s ((((nI 130) + (k_s 5))).toNatClampNeg) p1) 5)) 6700 ∧ (Q (((upd (upd (upd k_s ((((nI 130) + (k_s 5))).toNatClampNeg) p1) ((((nI 140) + ((upd k_s ((((nI 130) + (k_s 5))).toNatClampNeg) p1) 5))).toNatClampNeg) p2) 5 (((upd (upd k_s ((((nI 130) + (k_s 5))).toNatClampNeg) p1) ((((nI 140) + ((upd k_s ((((nI 130) + (k_s 5))).toNatClampNeg) p1) 5))).toNatClampNeg) p2) 5) + (nI 1))) 5) - (nI 1)) (upd (upd (upd k_s ((((nI 130) + (k_s 5))).toNatClampNeg) p1) ((((nI 140) + ((upd k_s ((((nI 130) + (k_s 5))).toNatClampNeg) p1) 5))).toNatClampNeg) p2) 5 (((upd (upd k_s ((((nI 130) + (k_s 5))).toNatClampNeg) p1) ((((nI 140) + ((upd k_s ((((nI 130) + (k_s 5))).toNatClampNeg) p1) 5))).toNatClampNeg) p2) 5) + (nI 1))))))) ∧ ((k_s 5) = (nI 10) → (Q (-4) k_s)))))))
set_option maxHeartbeats 4000000 in
set_option maxRecDepth 100000 in
theorem c_X12_firm {l : Launch} {D : va_G} {cI cZ cJ : ClassId} {h : Nat} {ad : Nat → Nat} {sz : Nat} {k_thrown : Int32} {k_s : Nat → Int32} {k_image : Nat → Int32} {k_hasImage : Int32} {k_steps : Nat → Int32} {k_read : Int32} {k_spot : Int32} {k_isWrong : Int32} {k_open : Int32} {k_act : Int32} {k_letBy : Nat → Int32} {k_letStamp : Nat → Int32} {k_stamp : Int32} {k_fallen : Nat → Int32} {k_held : Nat → Int32} {k_stands : Nat → Int32} {k_falling : Nat → Int32} {k_away : Nat → Int32} {k_round : Nat → Int32} {k_rests : Nat → Int64} {k_may : Nat → Int32} {k_next : Nat → Int32} {k_could : Nat → Int32} {k_couldNight : Nat → Int32} {k_night : Int32} {k_seats : Nat → Int32} {p1 : Int32} {p2 : Int32} {Q : Int32 → (Nat → Int32) → Prop} (hw : wp_X12_firm p1 p2 k_s Q) : Met l yX12_firm (Cond.code yX12_firm cX12_firm 3 (some .int) :: wsG) ({ frames := 2, cells := 0, slots := 0, locals := 43 } : Room) (preW D (tyM cI cZ cJ) (wM cI cZ cJ h ad k_thrown k_s k_image k_hasImage k_steps k_read k_spot k_isWrong k_open k_act k_letBy k_letStamp k_stamp k_fallen k_held k_stands k_falling k_away k_round k_rests k_may k_next k_could k_couldNight k_night k_seats) sz [.ref h, .int p1, .int p2]) (qi1 D (tyM cI cZ cJ) (va_A (wM cI cZ cJ h ad k_thrown k_s k_image k_hasImage k_steps k_read k_spot k_isWrong k_open k_act k_letBy k_letStamp k_stamp k_fallen k_held k_stands k_falling k_away k_round k_rests k_may k_next k_could k_couldNight k_night k_seats) sz) Q (fun k_s' => (wM cI cZ cJ h ad k_thrown k_s' k_image k_hasImage k_steps k_read k_spot k_isWrong k_open k_act k_letBy k_letStamp k_stamp k_fallen k_held k_stands k_falling k_away k_round k_rests k_may k_next k_could k_couldNight k_night k_seats))) 0 0 (va_A (wM cI cZ cJ h ad k_thrown k_s k_image k_hasImage k_steps k_read k_spot k_isWrong k_open k_act k_letBy k_letStamp k_stamp k_fallen k_held k_stands k_falling k_away k_round k_rests k_may k_next k_could k_couldNight k_night k_seats) sz) := by
  refine st_met (cc := cX12_firm) (maxL := 3) (ret := (some .int)) (lv := [(0, .ref h), (1, .int p1), (2, .int p2)]) (Qc := fun A => qi1 D (tyM cI cZ cJ) A Q (fun k_s' => (wM cI cZ cJ h ad k_thrown k_s' k_image k_hasImage k_steps k_read k_spot k_isWrong k_open k_act k_letBy k_letStamp k_stamp k_fallen k_held k_stands k_falling k_away k_round k_rests k_may k_next k_could k_couldNight k_night k_seats))) (by decide) rfl (Nat.le_of_ble_eq_true rfl) rfl ?_
  intro p e s m below meth c ls A R args QQ H locs C hr hlk hnm hK hX hsz hl hO hR hQQ
  have hx := C.1
  have hb := C.2.1
  have hown := C.2.2.2.1
  have hts := C.2.2.2.2
  have hin : ∀ w ∈ u_ws RX12 TX12 26, w ∈ (Cond.code yX12_firm cX12_firm 3 (some .int) :: wsG) := fun w h9 => List.mem_cons_of_mem _ (inG12 w h9)
  have lk_s := hts (Cond.fieldLink RX12 7 "FreeCityModel" "s" "[I") (List.mem_cons_of_mem _ qw5_207)
  unfold wp_X12_firm at hw
  refine lv_iload_n hx hb dX12_firm_0 rfl (lv_at hl 1 rfl) ?_
  refine lv_iconst (v := (nI 0)) hx hb dX12_firm_1 (by decide) ?_
  refine lv_iconst (v := (nI 2)) hx hb dX12_firm_2 (by decide) ?_
  refine cSi0 (As := [.int p1, .int (nI 0), .int (nI 2)]) (rest := []) C hK hX hO (c_X12_in (l := l)) (va_cwS 3 hts gd_X12_74 rfl rfl rfl hd_X12_in (rok hR (Nat.le_of_ble_eq_true rfl) (Nat.le_of_ble_eq_true rfl))) rfl hl.1 rfl (Nat.le_of_ble_eq_true rfl) dX12_firm_3 ⟨Nat.zero_le _, Nat.zero_le _⟩ (fun r_3 H locs e_3 hO => ?_)
  subst e_3
  refine lv_if_eq (tgt := 22) hx hb dX12_firm_6 (by decide) (fun q_6 => ?_) (fun q_6 => ?_)
  · have hw := hw.1 q_6
    refine lv_iconst (v := (-1)) hx hb dX12_firm_22 (by decide) ?_
    exact ri1 hQQ hx hb hr hlk hK hO hw dX12_firm_23
  · have hw := hw.2 q_6
    refine lv_iload_n hx hb dX12_firm_9 rfl (lv_at hl 2 rfl) ?_
    refine lv_iconst (v := (-1)) hx hb dX12_firm_10 (by decide) ?_
    have a_22 : (¬ p2 = (-1) ∧ (f_X12_isFirm k_s p2) = 0) → ∀ (H : Heap) (locs : List Loc) (ls : Array Slot), okW D A s.heap H locs (wM cI cZ cJ h ad k_thrown k_s k_image k_hasImage k_steps k_read k_spot k_isWrong k_open k_act k_letBy k_letStamp k_stamp k_fallen k_held k_stands k_falling k_away k_round k_rests k_may k_next k_could k_couldNight k_night k_seats) → lv_has ls 3 [] → W p l e R s m args below meth c H locs 0 0 QQ (F0 m 22 ls []) := by
      intro cf H locs ls hO hl
      have hw := hw.1 cf
      refine lv_iconst (v := (-1)) hx hb dX12_firm_22 (by decide) ?_
      exact ri1 hQQ hx hb hr hlk hK hO hw dX12_firm_23
    have a_24 : ¬ ((¬ p2 = (-1) ∧ (f_X12_isFirm k_s p2) = 0)) → ∀ (H : Heap) (locs : List Loc) (ls : Array Slot), okW D A s.heap H locs (wM cI cZ cJ h ad k_thrown k_s k_image k_hasImage k_steps k_read k_spot k_isWrong k_open k_act k_letBy k_letStamp k_stamp k_fallen k_held k_stands k_falling k_away k_round k_rests k_may k_next k_could k_couldNight k_night k_seats) → lv_has ls 3 [(0, .ref h), (1, .int p1), (2, .int p2)] → W p l e R s m args below meth c H locs 0 0 QQ (F0 m 24 ls []) := by
      intro cf H locs ls hO hl
      have hw := hw.2 cf
      refine lv_aload_n hx hb dX12_firm_24 rfl (lv_at hl 0 rfl) ?_
      refine gM_s C hin hK lk_s hO dX12_firm_25 ?_
      refine lv_iconst (v := (nI 5)) hx hb dX12_firm_28 (by decide) ?_
      refine ldM_s C hK hO (inK 5 6700 (by decide) (by decide)) (clK 5 (by decide)) dX12_firm_29 ?_
      refine lv_bipush (v := (nI 10)) hx hb dX12_firm_30 (by decide) ?_
      refine lv_icmp_ne (tgt := 38) hx hb dX12_firm_32 (by decide) (fun q_32 => ?_) (fun q_32 => ?_)
      · have hw := hw.1 q_32
        refine lv_aload_n hx hb dX12_firm_38 rfl (lv_at hl 0 rfl) ?_
        refine gM_s C hin hK lk_s hO dX12_firm_39 ?_
        refine lv_sipush (v := (nI 130)) hx hb dX12_firm_42 (by decide) ?_
        refine lv_aload_n hx hb dX12_firm_45 rfl (lv_at hl 0 rfl) ?_
        refine gM_s C hin hK lk_s hO dX12_firm_46 ?_
        refine lv_iconst (v := (nI 5)) hx hb dX12_firm_49 (by decide) ?_
        refine ldM_s C hK hO (inK 5 6700 (by decide) (by decide)) (clK 5 (by decide)) dX12_firm_50 ?_
        refine lv_iadd hx hb dX12_firm_51 ?_
        refine lv_iload_n hx hb dX12_firm_52 rfl (lv_at hl 1 rfl) ?_
        obtain ⟨o_53, hw⟩ := hw
        refine stM_s C hK hO o_53 rfl dX12_firm_53 (fun H locs hO => ?_)
        refine lv_aload_n hx hb dX12_firm_54 rfl (lv_at hl 0 rfl) ?_
        refine gM_s C hin hK lk_s hO dX12_firm_55 ?_
        refine lv_sipush (v := (nI 140)) hx hb dX12_firm_58 (by decide) ?_
        refine lv_aload_n hx hb dX12_firm_61 rfl (lv_at hl 0 rfl) ?_
        refine gM_s C hin hK lk_s hO dX12_firm_62 ?_
        refine lv_iconst (v := (nI 5)) hx hb dX12_firm_65 (by decide) ?_
        refine ldM_s C hK hO (inK 5 6700 (by decide) (by decide)) (clK 5 (by decide)) dX12_firm_66 ?_
        refine lv_iadd hx hb dX12_firm_67 ?_
        refine lv_iload_n hx hb dX12_firm_68 rfl (lv_at hl 2 rfl) ?_
        obtain ⟨o_69, hw⟩ := hw
        refine stM_s C hK hO o_69 rfl dX12_firm_69 (fun H locs hO => ?_)
        refine lv_aload_n hx hb dX12_firm_70 rfl (lv_at hl 0 rfl) ?_
        refine gM_s C hin hK lk_s hO dX12_firm_71 ?_
        refine lv_iconst (v := (nI 5)) hx hb dX12_firm_74 (by decide) ?_
        refine lv_dup2_11 hx hb dX12_firm_75 rfl rfl ?_
        refine ldM_s C hK hO (inK 5 6700 (by decide) (by decide)) (clK 5 (by decide)) dX12_firm_76 ?_
        refine lv_iconst (v := (nI 1)) hx hb dX12_firm_77 (by decide) ?_
        refine lv_iadd hx hb dX12_firm_78 ?_
        refine stM_s C hK hO (inK 5 6700 (by decide) (by decide)) (clK 5 (by decide)) dX12_firm_79 (fun H locs hO => ?_)
        refine lv_aload_n hx hb dX12_firm_80 rfl (lv_at hl 0 rfl) ?_
        refine gM_s C hin hK lk_s hO dX12_firm_81 ?_
        refine lv_iconst (v := (nI 5)) hx hb dX12_firm_84 (by decide) ?_
        refine ldM_s C hK hO (inK 5 6700 (by decide) (by decide)) (clK 5 (by decide)) dX12_firm_85 ?_
        refine lv_iconst (v := (nI 1)) hx hb dX12_firm_86 (by decide) ?_
        refine lv_isub hx hb dX12_firm_87 ?_
        exact ri1 hQQ hx hb hr hlk hK hO hw dX12_firm_88
      · have hw := hw.2 q_32
        refine lv_bipush (v := (-4)) hx hb dX12_firm_35 (by decide) ?_
        exact ri1 hQQ hx hb hr hlk hK hO hw dX12_firm_37
    refine lv_icmp_eq (tgt := 24) hx hb dX12_firm_11 (by decide) (fun q_11 => ?_) (fun q_11 => ?_)
    · have hl := lv_sub hl [0, 1, 2] rfl (l' := [(0, .ref h), (1, .int p1), (2, .int p2)])
      exact a_24 (fun h => h.1 q_11) _ _ _ hO hl
    · refine lv_aload_n hx hb dX12_firm_14 rfl (lv_at hl 0 rfl) ?_
      refine lv_iload_n hx hb dX12_firm_15 rfl (lv_at hl 2 rfl) ?_
      refine cVi0 (As := [.int p2]) (rest := []) C hK hX hO (c_X12_isFirm (l := l)) (cwV 1 hts gd_X12_222 rfl rfl rfl hd_X12_isFirm (rok hR (Nat.le_of_ble_eq_true rfl) (Nat.le_of_ble_eq_true rfl))) (ci := 12) (q0 := 0) rfl rfl rfl rfl hl.1 rfl (Nat.le_of_ble_eq_true rfl) dX12_firm_16 ⟨Nat.zero_le _, Nat.zero_le _⟩ (fun r_16 H locs e_16 hO => ?_)
      subst e_16
      refine lv_if_ne (tgt := 24) hx hb dX12_firm_19 (by decide) (fun q_19 => ?_) (fun q_19 => ?_)
      · have hl := lv_sub hl [0, 1, 2] rfl (l' := [(0, .ref h), (1, .int p1), (2, .int p2)])
        exact a_24 (fun h => (q_19) h.2) _ _ _ hO hl
      · have hl := lv_sub hl [] rfl (l' := [])
        exact a_22 ⟨q_11, q_19⟩ _ _ _ hO hl
def wp_X12_used (p1 : Int32) (p2 : Int32) (k_s : Nat → Int32) (Q : Int32 → (Nat → Int32) → Prop) : Prop := ((¬ (f_X12_isFirm k_s p1) = 0 → ((¬ (f_X12_in p2 (nI 1) (nI 999)) = 0 → ((¬ (k_s 11) = (nI 40) → (vp_in ((nI 150) + (k_s 11)) 6700 ∧ (vp_in ((nI 190) + ((upd k_s ((((nI 150) + (k_s 11))).toNatClampNeg) p1) 11)) 6700 ∧ (Q ((upd (upd (upd k_s ((((nI 150) + (k_s 11))).toNatClampNeg) p1) ((((nI 190) + ((upd k_s ((((nI 150) + (k_s 11))).toNatClampNeg) p1) 11))).toNatClampNeg) p2) 11 (((upd (upd k_s ((((nI 150) + (k_s 11))).toNatClampNeg) p1) ((((nI 190) + ((upd k_s ((((nI 150) + (k_s 11))).toNatClampNeg) p1) 11))).toNatClampNeg) p2) 11) + (nI 1))) 11) (upd (upd (upd k_s ((((nI 150) + (k_s 11))).toNatClampNeg) p1) ((((nI 190) + ((upd k_s ((((nI 150) + (k_s 11))).toNatClampNeg) p1) 11))).toNatClampNeg) p2) 11 (((upd (upd k_s ((((nI 150) + (k_s 11))).toNatClampNeg) p1) ((((nI 190) + ((upd k_s ((((nI 150) + (k_s 11))).toNatClampNeg) p1) 11))).toNatClampNeg) p2) 11) + (nI 1))))))) ∧ ((k_s 11) = (nI 40) → (Q (-4) k_s)))) ∧ ((f_X12_in p2 (nI 1) (nI 999)) = 0 → (Q (-2) k_s)))) ∧ ((f_X12_isFirm k_s p1) = 0 → (Q (-1) k_s)))
set_option maxHeartbeats 4000000 in
set_option maxRecDepth 100000 in
theorem c_X12_used {l : Launch} {D : va_G} {cI cZ cJ : ClassId} {h : Nat} {ad : Nat → Nat} {sz : Nat} {k_thrown : Int32} {k_s : Nat → Int32} {k_image : Nat → Int32} {k_hasImage : Int32} {k_steps : Nat → Int32} {k_read : Int32} {k_spot : Int32} {k_isWrong : Int32} {k_open : Int32} {k_act : Int32} {k_letBy : Nat → Int32} {k_letStamp : Nat → Int32} {k_stamp : Int32} {k_fallen : Nat → Int32} {k_held : Nat → Int32} {k_stands : Nat → Int32} {k_falling : Nat → Int32} {k_away : Nat → Int32} {k_round : Nat → Int32} {k_rests : Nat → Int64} {k_may : Nat → Int32} {k_next : Nat → Int32} {k_could : Nat → Int32} {k_couldNight : Nat → Int32} {k_night : Int32} {k_seats : Nat → Int32} {p1 : Int32} {p2 : Int32} {Q : Int32 → (Nat → Int32) → Prop} (hw : wp_X12_used p1 p2 k_s Q) : Met l yX12_used (Cond.code yX12_used cX12_used 3 (some .int) :: wsG) ({ frames := 2, cells := 0, slots := 0, locals := 43 } : Room) (preW D (tyM cI cZ cJ) (wM cI cZ cJ h ad k_thrown k_s k_image k_hasImage k_steps k_read k_spot k_isWrong k_open k_act k_letBy k_letStamp k_stamp k_fallen k_held k_stands k_falling k_away k_round k_rests k_may k_next k_could k_couldNight k_night k_seats) sz [.ref h, .int p1, .int p2]) (qi1 D (tyM cI cZ cJ) (va_A (wM cI cZ cJ h ad k_thrown k_s k_image k_hasImage k_steps k_read k_spot k_isWrong k_open k_act k_letBy k_letStamp k_stamp k_fallen k_held k_stands k_falling k_away k_round k_rests k_may k_next k_could k_couldNight k_night k_seats) sz) Q (fun k_s' => (wM cI cZ cJ h ad k_thrown k_s' k_image k_hasImage k_steps k_read k_spot k_isWrong k_open k_act k_letBy k_letStamp k_stamp k_fallen k_held k_stands k_falling k_away k_round k_rests k_may k_next k_could k_couldNight k_night k_seats))) 0 0 (va_A (wM cI cZ cJ h ad k_thrown k_s k_image k_hasImage k_steps k_read k_spot k_isWrong k_open k_act k_letBy k_letStamp k_stamp k_fallen k_held k_stands k_falling k_away k_round k_rests k_may k_next k_could k_couldNight k_night k_seats) sz) := by
  refine st_met (cc := cX12_used) (maxL := 3) (ret := (some .int)) (lv := [(0, .ref h), (1, .int p1), (2, .int p2)]) (Qc := fun A => qi1 D (tyM cI cZ cJ) A Q (fun k_s' => (wM cI cZ cJ h ad k_thrown k_s' k_image k_hasImage k_steps k_read k_spot k_isWrong k_open k_act k_letBy k_letStamp k_stamp k_fallen k_held k_stands k_falling k_away k_round k_rests k_may k_next k_could k_couldNight k_night k_seats))) (by decide) rfl (Nat.le_of_ble_eq_true rfl) rfl ?_
  intro p e s m below meth c ls A R args QQ H locs C hr hlk hnm hK hX hsz hl hO hR hQQ
  have hx := C.1
  have hb := C.2.1
  have hown := C.2.2.2.1
  have hts := C.2.2.2.2
  have hin : ∀ w ∈ u_ws RX12 TX12 26, w ∈ (Cond.code yX12_used cX12_used 3 (some .int) :: wsG) := fun w h9 => List.mem_cons_of_mem _ (inG12 w h9)
  have lk_s := hts (Cond.fieldLink RX12 7 "FreeCityModel" "s" "[I") (List.mem_cons_of_mem _ qw5_207)
  unfold wp_X12_used at hw
  refine lv_aload_n hx hb dX12_used_0 rfl (lv_at hl 0 rfl) ?_
  refine lv_iload_n hx hb dX12_used_1 rfl (lv_at hl 1 rfl) ?_
  refine cVi0 (As := [.int p1]) (rest := []) C hK hX hO (c_X12_isFirm (l := l)) (cwV 1 hts gd_X12_222 rfl rfl rfl hd_X12_isFirm (rok hR (Nat.le_of_ble_eq_true rfl) (Nat.le_of_ble_eq_true rfl))) (ci := 12) (q0 := 0) rfl rfl rfl rfl hl.1 rfl (Nat.le_of_ble_eq_true rfl) dX12_used_2 ⟨Nat.zero_le _, Nat.zero_le _⟩ (fun r_2 H locs e_2 hO => ?_)
  subst e_2
  refine lv_if_ne (tgt := 10) hx hb dX12_used_5 (by decide) (fun q_5 => ?_) (fun q_5 => ?_)
  · have hw := hw.1 q_5
    refine lv_iload_n hx hb dX12_used_10 rfl (lv_at hl 2 rfl) ?_
    refine lv_iconst (v := (nI 1)) hx hb dX12_used_11 (by decide) ?_
    refine lv_sipush (v := (nI 999)) hx hb dX12_used_12 (by decide) ?_
    refine cSi0 (As := [.int p2, .int (nI 1), .int (nI 999)]) (rest := []) C hK hX hO (c_X12_in (l := l)) (va_cwS 3 hts gd_X12_74 rfl rfl rfl hd_X12_in (rok hR (Nat.le_of_ble_eq_true rfl) (Nat.le_of_ble_eq_true rfl))) rfl hl.1 rfl (Nat.le_of_ble_eq_true rfl) dX12_used_15 ⟨Nat.zero_le _, Nat.zero_le _⟩ (fun r_15 H locs e_15 hO => ?_)
    subst e_15
    refine lv_if_ne (tgt := 24) hx hb dX12_used_18 (by decide) (fun q_18 => ?_) (fun q_18 => ?_)
    · have hw := hw.1 q_18
      refine lv_aload_n hx hb dX12_used_24 rfl (lv_at hl 0 rfl) ?_
      refine gM_s C hin hK lk_s hO dX12_used_25 ?_
      refine lv_bipush (v := (nI 11)) hx hb dX12_used_28 (by decide) ?_
      refine ldM_s C hK hO (inK 11 6700 (by decide) (by decide)) (clK 11 (by decide)) dX12_used_30 ?_
      refine lv_bipush (v := (nI 40)) hx hb dX12_used_31 (by decide) ?_
      refine lv_icmp_ne (tgt := 39) hx hb dX12_used_33 (by decide) (fun q_33 => ?_) (fun q_33 => ?_)
      · have hw := hw.1 q_33
        refine lv_aload_n hx hb dX12_used_39 rfl (lv_at hl 0 rfl) ?_
        refine gM_s C hin hK lk_s hO dX12_used_40 ?_
        refine lv_sipush (v := (nI 150)) hx hb dX12_used_43 (by decide) ?_
        refine lv_aload_n hx hb dX12_used_46 rfl (lv_at hl 0 rfl) ?_
        refine gM_s C hin hK lk_s hO dX12_used_47 ?_
        refine lv_bipush (v := (nI 11)) hx hb dX12_used_50 (by decide) ?_
        refine ldM_s C hK hO (inK 11 6700 (by decide) (by decide)) (clK 11 (by decide)) dX12_used_52 ?_
        refine lv_iadd hx hb dX12_used_53 ?_
        refine lv_iload_n hx hb dX12_used_54 rfl (lv_at hl 1 rfl) ?_
        obtain ⟨o_55, hw⟩ := hw
        refine stM_s C hK hO o_55 rfl dX12_used_55 (fun H locs hO => ?_)
        refine lv_aload_n hx hb dX12_used_56 rfl (lv_at hl 0 rfl) ?_
        refine gM_s C hin hK lk_s hO dX12_used_57 ?_
        refine lv_sipush (v := (nI 190)) hx hb dX12_used_60 (by decide) ?_
        refine lv_aload_n hx hb dX12_used_63 rfl (lv_at hl 0 rfl) ?_
        refine gM_s C hin hK lk_s hO dX12_used_64 ?_
        refine lv_bipush (v := (nI 11)) hx hb dX12_used_67 (by decide) ?_
        refine ldM_s C hK hO (inK 11 6700 (by decide) (by decide)) (clK 11 (by decide)) dX12_used_69 ?_
        refine lv_iadd hx hb dX12_used_70 ?_
        refine lv_iload_n hx hb dX12_used_71 rfl (lv_at hl 2 rfl) ?_
        obtain ⟨o_72, hw⟩ := hw
        refine stM_s C hK hO o_72 rfl dX12_used_72 (fun H locs hO => ?_)
        refine lv_aload_n hx hb dX12_used_73 rfl (lv_at hl 0 rfl) ?_
        refine gM_s C hin hK lk_s hO dX12_used_74 ?_
        refine lv_bipush (v := (nI 11)) hx hb dX12_used_77 (by decide) ?_
        refine lv_dup2_11 hx hb dX12_used_79 rfl rfl ?_
        refine ldM_s C hK hO (inK 11 6700 (by decide) (by decide)) (clK 11 (by decide)) dX12_used_80 ?_
        refine lv_iconst (v := (nI 1)) hx hb dX12_used_81 (by decide) ?_
        refine lv_iadd hx hb dX12_used_82 ?_
        refine stM_s C hK hO (inK 11 6700 (by decide) (by decide)) (clK 11 (by decide)) dX12_used_83 (fun H locs hO => ?_)
        refine lv_aload_n hx hb dX12_used_84 rfl (lv_at hl 0 rfl) ?_
        refine gM_s C hin hK lk_s hO dX12_used_85 ?_
        refine lv_bipush (v := (nI 11)) hx hb dX12_used_88 (by decide) ?_
        refine ldM_s C hK hO (inK 11 6700 (by decide) (by decide)) (clK 11 (by decide)) dX12_used_90 ?_
        exact ri1 hQQ hx hb hr hlk hK hO hw dX12_used_91
      · have hw := hw.2 q_33
        refine lv_bipush (v := (-4)) hx hb dX12_used_36 (by decide) ?_
        exact ri1 hQQ hx hb hr hlk hK hO hw dX12_used_38
    · have hw := hw.2 q_18
      refine lv_bipush (v := (-2)) hx hb dX12_used_21 (by decide) ?_
      exact ri1 hQQ hx hb hr hlk hK hO hw dX12_used_23
  · have hw := hw.2 q_5
    refine lv_iconst (v := (-1)) hx hb dX12_used_8 (by decide) ?_
    exact ri1 hQQ hx hb hr hlk hK hO hw dX12_used_9
