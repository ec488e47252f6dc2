theorem gd_X12_169 {a : Cond} : GoodIn (a :: wsG) (wsV RX12 169 RX12 yX12_looks (Cond.code yX12_looks cX12_looks 2 none :: wsG)) := gdV qw6_134 qw6_136 qs_44 qw1_12 qw6_137
theorem hd_X12_looks : yX12_looks.cls = RX12 ∧ yX12_looks.cls ≠ "java/lang/invoke/MethodHandle" ∧ yX12_looks.cls ≠ "java/lang/invoke/VarHandle" ∧ (parseMethodDescriptor yX12_looks.desc).map (fun d => d.parameters.length) = some 0 := by decide +kernel
theorem gd_X12_172 {a : Cond} : GoodIn (a :: wsG) (wsV RX12 172 RX12 yX12_lets (Cond.code yX12_lets cX12_lets 6 (some .boolean) :: wsG)) := gdV qw6_146 qw6_148 qs_47 qw1_12 qw6_149
theorem hd_X12_lets : yX12_lets.cls = RX12 ∧ yX12_lets.cls ≠ "java/lang/invoke/MethodHandle" ∧ yX12_lets.cls ≠ "java/lang/invoke/VarHandle" ∧ (parseMethodDescriptor yX12_lets.desc).map (fun d => d.parameters.length) = some 2 := by decide +kernel
def wk_X12_force_63 (Q : Int32 → (Int32) → (Int32) → (Int32) → (Int32) → (Int32) → (Nat → Int32) → (Nat → Int32) → (Nat → Int32) → (Nat → Int32) → (Nat → Int32) → Prop) (fallen_33 : Nat → Int32) (held_33 : Nat → Int32) (stands_33 : Nat → Int32) (read_63 : Int32) (spot_63 : Int32) (isWrong_63 : Int32) (open_63 : Int32) (act_63 : Int32) (letBy_63 : Nat → Int32) (letStamp_63 : Nat → Int32) : Prop := (Q (nI 1) read_63 spot_63 isWrong_63 open_63 act_63 letBy_63 letStamp_63 fallen_33 held_33 stands_33)
def wp_X12_force (p1 : Int32) (p2 : Int32) (p3 : Int32) (k_s : Nat → Int32) (k_read : Int32) (k_spot : Int32) (k_isWrong : Int32) (k_open : Int32) (k_act : Int32) (k_letBy : Nat → Int32) (k_letStamp : Nat → Int32) (k_stamp : Int32) (k_fallen : Nat → Int32) (k_held : Nat → Int32) (k_stands : Nat → Int32) (Q : Int32 → (Int32) → (Int32) → (Int32) → (Int32) → (Int32) → (Nat → Int32) → (Nat → Int32) → (Nat → Int32) → (Nat → Int32) → (Nat → Int32) → Prop) : Prop := ((¬ (f_X12_in p1 (nI 0) (nI 3)) = 0 → ((((f_X12_in p2 (nI 0) (nI 10799)) = 0 ∨ (f_X12_isDay p3) = 0) → (Q (-2) k_read k_spot k_isWrong k_open k_act k_letBy k_letStamp k_fallen k_held k_stands)) ∧ (¬ (((f_X12_in p2 (nI 0) (nI 10799)) = 0 ∨ (f_X12_isDay p3) = 0)) → (wp_X12_looks k_s k_fallen k_held k_stands (fun (fallen_33 : Nat → Int32) (held_33 : Nat → Int32) (stands_33 : Nat → Int32) => ((¬ p1 = (nI 3) → (wp_X12_letsBy p1 p2 p3 k_s k_read k_spot k_isWrong k_open k_act k_letBy k_letStamp k_stamp (fun (r_57 : Int32) (read_57 : Int32) (spot_57 : Int32) (isWrong_57 : Int32) (open_57 : Int32) (act_57 : Int32) (letBy_57 : Nat → Int32) (letStamp_57 : Nat → Int32) => (∀ y0_68 : Int32, y0_68 = (if r_57 = 0 then (nI 0) else (nI 1)) → (Q y0_68 read_57 spot_57 isWrong_57 open_57 act_57 letBy_57 letStamp_57 fallen_33 held_33 stands_33))))) ∧ (p1 = (nI 3) → (wp_X12_lets p2 p3 k_s k_read k_spot k_isWrong k_open k_act k_letBy k_letStamp k_stamp stands_33 (fun (r_44 : Int32) (read_44 : Int32) (spot_44 : Int32) (isWrong_44 : Int32) (open_44 : Int32) (act_44 : Int32) (letBy_44 : Nat → Int32) (letStamp_44 : Nat → Int32) => (∀ y0_68 : Int32, y0_68 = (if r_44 = 0 then (nI 0) else (nI 1)) → (Q y0_68 read_44 spot_44 isWrong_44 open_44 act_44 letBy_44 letStamp_44 fallen_33 held_33 stands_33))))))))))) ∧ ((f_X12_in p1 (nI 0) (nI 3)) = 0 → (Q (-1) k_read k_spot k_isWrong k_open k_act k_letBy k_letStamp k_fallen k_held k_stands)))
set_option maxHeartbeats 4000000 in
set_option maxRecDepth 100000 in
theorem c_X12_force {l : Launch} {D : va_G} {cI cZ cJ : ClassId} {h : Nat} {ad : Nat → Nat} {sz : Nat} {k_thrown : Int32} {k_s : Nat → Int32} {k_image : Nat → Int32} {k_hasImage : Int32} {k_steps : Nat → Int32} {k_read : Int32} {k_spot : Int32} {k_isWrong : Int32} {k_open : Int32} {k_act : Int32} {k_letBy : Nat → Int32} {k_letStamp : Nat → Int32} {k_stamp : Int32} {k_fallen : Nat → Int32} {k_held : Nat → Int32} {k_stands : Nat → Int32} {k_falling : Nat → Int32} {k_away : Nat → Int32} {k_round : Nat → Int32} {k_rests : Nat → Int64} {k_may : Nat → Int32} {k_next : Nat → Int32} {k_could : Nat → Int32} {k_couldNight : Nat → Int32} {k_night : Int32} {k_seats : Nat → Int32} {p1 : Int32} {p2 : Int32} {p3 : Int32} {Q : Int32 → (Int32) → (Int32) → (Int32) → (Int32) → (Int32) → (Nat → Int32) → (Nat → Int32) → (Nat → Int32) → (Nat → Int32) → (Nat → Int32) → Prop} (hw : wp_X12_force p1 p2 p3 k_s k_read k_spot k_isWrong k_open k_act k_letBy k_letStamp k_stamp k_fallen k_held k_stands Q) : Met l yX12_force (Cond.code yX12_force cX12_force 4 (some .int) :: wsG) ({ frames := 35, cells := 0, slots := 0, locals := 799 } : Room) (preW D (tyM cI cZ cJ) (wM cI cZ cJ h ad k_thrown k_s k_image k_hasImage k_steps k_read k_spot k_isWrong k_open k_act k_letBy k_letStamp k_stamp k_fallen k_held k_stands k_falling k_away k_round k_rests k_may k_next k_could k_couldNight k_night k_seats) sz [.ref h, .int p1, .int p2, .int p3]) (qi10 D (tyM cI cZ cJ) (va_A (wM cI cZ cJ h ad k_thrown k_s k_image k_hasImage k_steps k_read k_spot k_isWrong k_open k_act k_letBy k_letStamp k_stamp k_fallen k_held k_stands k_falling k_away k_round k_rests k_may k_next k_could k_couldNight k_night k_seats) sz) Q (fun k_read' k_spot' k_isWrong' k_open' k_act' k_letBy' k_letStamp' k_fallen' k_held' k_stands' => (wM cI cZ cJ h ad k_thrown k_s k_image k_hasImage k_steps k_read' k_spot' k_isWrong' k_open' k_act' k_letBy' k_letStamp' k_stamp k_fallen' k_held' k_stands' k_falling k_away k_round k_rests k_may k_next k_could k_couldNight k_night k_seats))) 0 0 (va_A (wM cI cZ cJ h ad k_thrown k_s k_image k_hasImage k_steps k_read k_spot k_isWrong k_open k_act k_letBy k_letStamp k_stamp k_fallen k_held k_stands k_falling k_away k_round k_rests k_may k_next k_could k_couldNight k_night k_seats) sz) := by
  refine st_met (cc := cX12_force) (maxL := 4) (ret := (some .int)) (lv := [(0, .ref h), (1, .int p1), (2, .int p2), (3, .int p3)]) (Qc := fun A => qi10 D (tyM cI cZ cJ) A Q (fun k_read' k_spot' k_isWrong' k_open' k_act' k_letBy' k_letStamp' k_fallen' k_held' k_stands' => (wM cI cZ cJ h ad k_thrown k_s k_image k_hasImage k_steps k_read' k_spot' k_isWrong' k_open' k_act' k_letBy' k_letStamp' k_stamp k_fallen' k_held' k_stands' k_falling k_away k_round k_rests k_may k_next k_could k_couldNight k_night k_seats))) (by decide) rfl (Nat.le_of_ble_eq_true rfl) rfl ?_
  intro p e s m below meth c ls A R args QQ H locs C hr hlk hnm hK hX hsz hl hO hR hQQ
  have hx := C.1
  have hb := C.2.1
  have hown := C.2.2.2.1
  have hts := C.2.2.2.2
  have hin : ∀ w ∈ u_ws RX12 TX12 26, w ∈ (Cond.code yX12_force cX12_force 4 (some .int) :: wsG) := fun w h9 => List.mem_cons_of_mem _ (inG12 w h9)
  unfold wp_X12_force at hw
  refine lv_iload_n hx hb dX12_force_0 rfl (lv_at hl 1 rfl) ?_
  refine lv_iconst (v := (nI 0)) hx hb dX12_force_1 (by decide) ?_
  refine lv_iconst (v := (nI 3)) hx hb dX12_force_2 (by decide) ?_
  refine cSi0 (As := [.int p1, .int (nI 0), .int (nI 3)]) (rest := []) C hK hX hO (c_X12_in (l := l)) (va_cwS 3 hts gd_X12_74 rfl rfl rfl hd_X12_in (rok hR (Nat.le_of_ble_eq_true rfl) (Nat.le_of_ble_eq_true rfl))) rfl hl.1 rfl (Nat.le_of_ble_eq_true rfl) dX12_force_3 ⟨Nat.zero_le _, Nat.zero_le _⟩ (fun r_3 H locs e_3 hO => ?_)
  subst e_3
  refine lv_if_ne (tgt := 11) hx hb dX12_force_6 (by decide) (fun q_6 => ?_) (fun q_6 => ?_)
  · have hw := hw.1 q_6
    refine lv_iload_n hx hb dX12_force_11 rfl (lv_at hl 2 rfl) ?_
    refine lv_iconst (v := (nI 0)) hx hb dX12_force_12 (by decide) ?_
    refine lv_sipush (v := (nI 10799)) hx hb dX12_force_13 (by decide) ?_
    refine cSi0 (As := [.int p2, .int (nI 0), .int (nI 10799)]) (rest := []) C hK hX hO (c_X12_in (l := l)) (va_cwS 3 hts gd_X12_74 rfl rfl rfl hd_X12_in (rok hR (Nat.le_of_ble_eq_true rfl) (Nat.le_of_ble_eq_true rfl))) rfl hl.1 rfl (Nat.le_of_ble_eq_true rfl) dX12_force_16 ⟨Nat.zero_le _, Nat.zero_le _⟩ (fun r_16 H locs e_16 hO => ?_)
    subst e_16
    have a_29 : ((f_X12_in p2 (nI 0) (nI 10799)) = 0 ∨ (f_X12_isDay p3) = 0) → ∀ (H : Heap) (locs : List Loc) (ls : Array Slot), okW D A s.heap H locs (wM cI cZ cJ h ad k_thrown k_s k_image k_hasImage k_steps k_read k_spot k_isWrong k_open k_act k_letBy k_letStamp k_stamp k_fallen k_held k_stands k_falling k_away k_round k_rests k_may k_next k_could k_couldNight k_night k_seats) → lv_has ls 4 [] → W p l e R s m args below meth c H locs 0 0 QQ (F0 m 29 ls []) := by
      intro cf H locs ls hO hl
      have hw := hw.1 cf
      refine lv_bipush (v := (-2)) hx hb dX12_force_29 (by decide) ?_
      exact ri10 hQQ hx hb hr hlk hK hO hw dX12_force_31
    have a_32 : ¬ (((f_X12_in p2 (nI 0) (nI 10799)) = 0 ∨ (f_X12_isDay p3) = 0)) → ∀ (H : Heap) (locs : List Loc) (ls : Array Slot), okW D A s.heap H locs (wM cI cZ cJ h ad k_thrown k_s k_image k_hasImage k_steps k_read k_spot k_isWrong k_open k_act k_letBy k_letStamp k_stamp k_fallen k_held k_stands k_falling k_away k_round k_rests k_may k_next k_could k_couldNight k_night k_seats) → lv_has ls 4 [(0, .ref h), (1, .int p1), (2, .int p2), (3, .int p3)] → W p l e R s m args below meth c H locs 0 0 QQ (F0 m 32 ls []) := by
      intro cf H locs ls hO hl
      have hw := hw.2 cf
      refine lv_aload_n hx hb dX12_force_32 rfl (lv_at hl 0 rfl) ?_
      refine cVv3 (As := []) (rest := []) C hK hX hO (c_X12_looks (l := l) hw) (cwV 0 hts gd_X12_169 rfl rfl rfl hd_X12_looks (rok hR (Nat.le_of_ble_eq_true rfl) (Nat.le_of_ble_eq_true rfl))) (ci := 12) (q0 := 0) rfl rfl rfl rfl hl.1 rfl (Nat.le_of_ble_eq_true rfl) dX12_force_33 ⟨Nat.zero_le _, Nat.zero_le _⟩ (fun fallen_33 held_33 stands_33 H locs hw hO => ?_)
      refine lv_iload_n hx hb dX12_force_36 rfl (lv_at hl 1 rfl) ?_
      refine lv_iconst (v := (nI 3)) hx hb dX12_force_37 (by decide) ?_
      have j_63 : ∀ (read_63 : Int32) (spot_63 : Int32) (isWrong_63 : Int32) (open_63 : Int32) (act_63 : Int32) (letBy_63 : Nat → Int32) (letStamp_63 : Nat → Int32) (H : Heap) (locs : List Loc) (ls : Array Slot), okW D A s.heap H locs (wM cI cZ cJ h ad k_thrown k_s k_image k_hasImage k_steps read_63 spot_63 isWrong_63 open_63 act_63 letBy_63 letStamp_63 k_stamp fallen_33 held_33 stands_33 k_falling k_away k_round k_rests k_may k_next k_could k_couldNight k_night k_seats) → lv_has ls 4 [] → wk_X12_force_63 Q fallen_33 held_33 stands_33 read_63 spot_63 isWrong_63 open_63 act_63 letBy_63 letStamp_63 → W p l e R s m args below meth c H locs 0 0 QQ (F0 m 63 ls []) := by
        intro read_63 spot_63 isWrong_63 open_63 act_63 letBy_63 letStamp_63 H locs ls hO hl hw
        unfold wk_X12_force_63 at hw
        refine lv_iconst (v := (nI 1)) hx hb dX12_force_63 (by decide) ?_
        refine lv_goto (tgt := 68) hx hb dX12_force_64 (by decide) ?_
        exact ri10 hQQ hx hb hr hlk hK hO hw dX12_force_68
      refine lv_icmp_ne (tgt := 53) hx hb dX12_force_38 (by decide) (fun q_38 => ?_) (fun q_38 => ?_)
      · have hw := hw.1 q_38
        refine lv_aload_n hx hb dX12_force_53 rfl (lv_at hl 0 rfl) ?_
        refine lv_iload_n hx hb dX12_force_54 rfl (lv_at hl 1 rfl) ?_
        refine lv_iload_n hx hb dX12_force_55 rfl (lv_at hl 2 rfl) ?_
        refine lv_iload_n hx hb dX12_force_56 rfl (lv_at hl 3 rfl) ?_
        refine cVi7 (As := [.int p1, .int p2, .int p3]) (rest := []) C hK hX hO (c_X12_letsBy (l := l) hw) (cwV 3 hts gd_X12_166 rfl rfl rfl hd_X12_letsBy (rok hR (Nat.le_of_ble_eq_true rfl) (Nat.le_of_ble_eq_true rfl))) (ci := 12) (q0 := 0) rfl rfl rfl rfl hl.1 rfl (Nat.le_of_ble_eq_true rfl) dX12_force_57 ⟨Nat.zero_le _, Nat.zero_le _⟩ (fun r_57 read_57 spot_57 isWrong_57 open_57 act_57 letBy_57 letStamp_57 H locs hw hO => ?_)
        have m_68 : ∀ (y0_68 : Int32) (H : Heap) (locs : List Loc) (ls : Array Slot), y0_68 = (if r_57 = 0 then (nI 0) else (nI 1)) → okW D A s.heap H locs (wM cI cZ cJ h ad k_thrown k_s k_image k_hasImage k_steps read_57 spot_57 isWrong_57 open_57 act_57 letBy_57 letStamp_57 k_stamp fallen_33 held_33 stands_33 k_falling k_away k_round k_rests k_may k_next k_could k_couldNight k_night k_seats) → lv_has ls 4 [] → W p l e R s m args below meth c H locs 0 0 QQ (F0 m 68 ls [.int y0_68]) := by
          intro y0_68 H locs ls ey0_68 hO hl
          have hw := hw y0_68 ey0_68
          exact ri10 hQQ hx hb hr hlk hK hO hw dX12_force_68
        refine lv_if_eq (tgt := 67) hx hb dX12_force_60 (by decide) (fun q_60 => ?_) (fun q_60 => ?_)
        · refine lv_iconst (v := (nI 0)) hx hb dX12_force_67 (by decide) ?_
          have hl := lv_sub hl [] rfl (l' := [])
          exact m_68 _ _ _ _ (by rw [if_pos q_60]) hO hl
        · refine lv_iconst (v := (nI 1)) hx hb dX12_force_63 (by decide) ?_
          refine lv_goto (tgt := 68) hx hb dX12_force_64 (by decide) ?_
          have hl := lv_sub hl [] rfl (l' := [])
          exact m_68 _ _ _ _ (by rw [if_neg q_60]) hO hl
      · have hw := hw.2 q_38
        refine lv_aload_n hx hb dX12_force_41 rfl (lv_at hl 0 rfl) ?_
        refine lv_iload_n hx hb dX12_force_42 rfl (lv_at hl 2 rfl) ?_
        refine lv_iload_n hx hb dX12_force_43 rfl (lv_at hl 3 rfl) ?_
        refine cVi7 (As := [.int p2, .int p3]) (rest := []) C hK hX hO (c_X12_lets (l := l) hw) (cwV 2 hts gd_X12_172 rfl rfl rfl hd_X12_lets (rok hR (Nat.le_of_ble_eq_true rfl) (Nat.le_of_ble_eq_true rfl))) (ci := 12) (q0 := 0) rfl rfl rfl rfl hl.1 rfl (Nat.le_of_ble_eq_true rfl) dX12_force_44 ⟨Nat.zero_le _, Nat.zero_le _⟩ (fun r_44 read_44 spot_44 isWrong_44 open_44 act_44 letBy_44 letStamp_44 H locs hw hO => ?_)
        have m_68 : ∀ (y0_68 : Int32) (H : Heap) (locs : List Loc) (ls : Array Slot), y0_68 = (if r_44 = 0 then (nI 0) else (nI 1)) → okW D A s.heap H locs (wM cI cZ cJ h ad k_thrown k_s k_image k_hasImage k_steps read_44 spot_44 isWrong_44 open_44 act_44 letBy_44 letStamp_44 k_stamp fallen_33 held_33 stands_33 k_falling k_away k_round k_rests k_may k_next k_could k_couldNight k_night k_seats) → lv_has ls 4 [] → W p l e R s m args below meth c H locs 0 0 QQ (F0 m 68 ls [.int y0_68]) := by
          intro y0_68 H locs ls ey0_68 hO hl
          have hw := hw y0_68 ey0_68
          exact ri10 hQQ hx hb hr hlk hK hO hw dX12_force_68
        refine lv_if_eq (tgt := 67) hx hb dX12_force_47 (by decide) (fun q_47 => ?_) (fun q_47 => ?_)
        · refine lv_iconst (v := (nI 0)) hx hb dX12_force_67 (by decide) ?_
          have hl := lv_sub hl [] rfl (l' := [])
          exact m_68 _ _ _ _ (by rw [if_pos q_47]) hO hl
        · refine lv_goto (tgt := 63) hx hb dX12_force_50 (by decide) ?_
          refine lv_iconst (v := (nI 1)) hx hb dX12_force_63 (by decide) ?_
          refine lv_goto (tgt := 68) hx hb dX12_force_64 (by decide) ?_
          have hl := lv_sub hl [] rfl (l' := [])
          exact m_68 _ _ _ _ (by rw [if_neg q_47]) hO hl
    refine lv_if_eq (tgt := 29) hx hb dX12_force_19 (by decide) (fun q_19 => ?_) (fun q_19 => ?_)
    · have hl := lv_sub hl [] rfl (l' := [])
      exact a_29 (Or.inl q_19) _ _ _ hO hl
    · refine lv_iload_n hx hb dX12_force_22 rfl (lv_at hl 3 rfl) ?_
      refine cSi0 (As := [.int p3]) (rest := []) C hK hX hO (c_X12_isDay (l := l)) (va_cwS 1 hts gd_X12_148 rfl rfl rfl hd_X12_isDay (rok hR (Nat.le_of_ble_eq_true rfl) (Nat.le_of_ble_eq_true rfl))) rfl hl.1 rfl (Nat.le_of_ble_eq_true rfl) dX12_force_23 ⟨Nat.zero_le _, Nat.zero_le _⟩ (fun r_23 H locs e_23 hO => ?_)
      subst e_23
      refine lv_if_ne (tgt := 32) hx hb dX12_force_26 (by decide) (fun q_26 => ?_) (fun q_26 => ?_)
      · have hl := lv_sub hl [0, 1, 2, 3] rfl (l' := [(0, .ref h), (1, .int p1), (2, .int p2), (3, .int p3)])
        exact a_32 (fun h => h.elim q_19 q_26) _ _ _ hO hl
      · have hl := lv_sub hl [] rfl (l' := [])
        exact a_29 (Or.inr q_26) _ _ _ hO hl
  · have hw := hw.2 q_6
    refine lv_iconst (v := (-1)) hx hb dX12_force_9 (by decide) ?_
    exact ri10 hQQ hx hb hr hlk hK hO hw dX12_force_10
theorem gd_X12_175 {a : Cond} : GoodIn (a :: wsG) (wsV RX12 175 RX12 yX12_clauseOf (Cond.code yX12_clauseOf cX12_clauseOf 5 (some .int) :: wsG)) := gdV qw6_174 qw6_176 qs_53 qw1_12 qw6_177
theorem hd_X12_clauseOf : yX12_clauseOf.cls = RX12 ∧ yX12_clauseOf.cls ≠ "java/lang/invoke/MethodHandle" ∧ yX12_clauseOf.cls ≠ "java/lang/invoke/VarHandle" ∧ (parseMethodDescriptor yX12_clauseOf.desc).map (fun d => d.parameters.length) = some 3 := by decide +kernel
def wp_X12_why (p1 : Int32) (p2 : Int32) (p3 : Int32) (k_s : Nat → Int32) (k_read : Int32) (k_spot : Int32) (k_isWrong : Int32) (k_open : Int32) (k_act : Int32) (k_fallen : Nat → Int32) (k_held : Nat → Int32) (k_stands : Nat → Int32) (Q : Int32 → (Int32) → (Int32) → (Int32) → (Int32) → (Int32) → (Nat → Int32) → (Nat → Int32) → (Nat → Int32) → Prop) : Prop := ((¬ (f_X12_in p1 (nI 0) (nI 3)) = 0 → ((((f_X12_in p2 (nI 0) (nI 10799)) = 0 ∨ (f_X12_isDay p3) = 0) → (Q (-2) k_read k_spot k_isWrong k_open k_act k_fallen k_held k_stands)) ∧ (¬ (((f_X12_in p2 (nI 0) (nI 10799)) = 0 ∨ (f_X12_isDay p3) = 0)) → (wp_X12_looks k_s k_fallen k_held k_stands (fun (fallen_33 : Nat → Int32) (held_33 : Nat → Int32) (stands_33 : Nat → Int32) => ((¬ p1 = (nI 3) → (wp_X12_clauseOf p1 p2 p3 k_s k_read k_spot k_isWrong k_open k_act (fun (r_70 : Int32) (read_70 : Int32) (spot_70 : Int32) (isWrong_70 : Int32) (open_70 : Int32) (act_70 : Int32) => (∀ y0_100 : Int32, y0_100 = (if r_70 = (-1) then (-5) else (((nI 100) * (r_70 / (nI 8))) + (r_70 - r_70 / (nI 8) * (nI 8)))) → (Q y0_100 read_70 spot_70 isWrong_70 open_70 act_70 fallen_33 held_33 stands_33))))) ∧ (p1 = (nI 3) → (wp_X12_rulingOf p2 k_s stands_33 (fun (r_43 : Int32) => (∀ y0_65 : Int32, y0_65 = (if r_43 = (-1) then (-5) else ((nI 10000) + r_43)) → (Q y0_65 k_read k_spot k_isWrong k_open k_act fallen_33 held_33 stands_33))))))))))) ∧ ((f_X12_in p1 (nI 0) (nI 3)) = 0 → (Q (-1) k_read k_spot k_isWrong k_open k_act k_fallen k_held k_stands)))
set_option maxHeartbeats 4000000 in
set_option maxRecDepth 100000 in
theorem c_X12_why {l : Launch} {D : va_G} {cI cZ cJ : ClassId} {h : Nat} {ad : Nat → Nat} {sz : Nat} {k_thrown : Int32} {k_s : Nat → Int32} {k_image : Nat → Int32} {k_hasImage : Int32} {k_steps : Nat → Int32} {k_read : Int32} {k_spot : Int32} {k_isWrong : Int32} {k_open : Int32} {k_act : Int32} {k_letBy : Nat → Int32} {k_letStamp : Nat → Int32} {k_stamp : Int32} {k_fallen : Nat → Int32} {k_held : Nat → Int32} {k_stands : Nat → Int32} {k_falling : Nat → Int32} {k_away : Nat → Int32} {k_round : Nat → Int32} {k_rests : Nat → Int64} {k_may : Nat → Int32} {k_next : Nat → Int32} {k_could : Nat → Int32} {k_couldNight : Nat → Int32} {k_night : Int32} {k_seats : Nat → Int32} {p1 : Int32} {p2 : Int32} {p3 : Int32} {Q : Int32 → (Int32) → (Int32) → (Int32) → (Int32) → (Int32) → (Nat → Int32) → (Nat → Int32) → (Nat → Int32) → Prop} (hw : wp_X12_why p1 p2 p3 k_s k_read k_spot k_isWrong k_open k_act k_fallen k_held k_stands Q) : Met l yX12_why (Cond.code yX12_why cX12_why 5 (some .int) :: wsG) ({ frames := 33, cells := 0, slots := 0, locals := 751 } : Room) (preW D (tyM cI cZ cJ) (wM cI cZ cJ h ad k_thrown k_s k_image k_hasImage k_steps k_read k_spot k_isWrong k_open k_act k_letBy k_letStamp k_stamp k_fallen k_held k_stands k_falling k_away k_round k_rests k_may k_next k_could k_couldNight k_night k_seats) sz [.ref h, .int p1, .int p2, .int p3]) (qi8 D (tyM cI cZ cJ) (va_A (wM cI cZ cJ h ad k_thrown k_s k_image k_hasImage k_steps k_read k_spot k_isWrong k_open k_act k_letBy k_letStamp k_stamp k_fallen k_held k_stands k_falling k_away k_round k_rests k_may k_next k_could k_couldNight k_night k_seats) sz) Q (fun k_read' k_spot' k_isWrong' k_open' k_act' k_fallen' k_held' k_stands' => (wM cI cZ cJ h ad k_thrown k_s k_image k_hasImage k_steps k_read' k_spot' k_isWrong' k_open' k_act' k_letBy k_letStamp k_stamp k_fallen' k_held' k_stands' k_falling k_away k_round k_rests k_may k_next k_could k_couldNight k_night k_seats))) 0 0 (va_A (wM cI cZ cJ h ad k_thrown k_s k_image k_hasImage k_steps k_read k_spot k_isWrong k_open k_act k_letBy k_letStamp k_stamp k_fallen k_held k_stands k_falling k_away k_round k_rests k_may k_next k_could k_couldNight k_night k_seats) sz) := by
  refine st_met (cc := cX12_why) (maxL := 5) (ret := (some .int)) (lv := [(0, .ref h), (1, .int p1), (2, .int p2), (3, .int p3)]) (Qc := fun A => qi8 D (tyM cI cZ cJ) A Q (fun k_read' k_spot' k_isWrong' k_open' k_act' k_fallen' k_held' k_stands' => (wM cI cZ cJ h ad k_thrown k_s k_image k_hasImage k_steps k_read' k_spot' k_isWrong' k_open' k_act' k_letBy k_letStamp k_stamp k_fallen' k_held' k_stands' k_falling k_away k_round k_rests k_may k_next k_could k_couldNight k_night k_seats))) (by decide) rfl (Nat.le_of_ble_eq_true rfl) rfl ?_
  intro p e s m below meth c ls A R args QQ H locs C hr hlk hnm hK hX hsz hl hO hR hQQ
  have hx := C.1
  have hb := C.2.1
  have hown := C.2.2.2.1
  have hts := C.2.2.2.2
  have hin : ∀ w ∈ u_ws RX12 TX12 26, w ∈ (Cond.code yX12_why cX12_why 5 (some .int) :: wsG) := fun w h9 => List.mem_cons_of_mem _ (inG12 w h9)
  unfold wp_X12_why at hw
  refine lv_iload_n hx hb dX12_why_0 rfl (lv_at hl 1 rfl) ?_
  refine lv_iconst (v := (nI 0)) hx hb dX12_why_1 (by decide) ?_
  refine lv_iconst (v := (nI 3)) hx hb dX12_why_2 (by decide) ?_
  refine cSi0 (As := [.int p1, .int (nI 0), .int (nI 3)]) (rest := []) C hK hX hO (c_X12_in (l := l)) (va_cwS 3 hts gd_X12_74 rfl rfl rfl hd_X12_in (rok hR (Nat.le_of_ble_eq_true rfl) (Nat.le_of_ble_eq_true rfl))) rfl hl.1 rfl (Nat.le_of_ble_eq_true rfl) dX12_why_3 ⟨Nat.zero_le _, Nat.zero_le _⟩ (fun r_3 H locs e_3 hO => ?_)
  subst e_3
  refine lv_if_ne (tgt := 11) hx hb dX12_why_6 (by decide) (fun q_6 => ?_) (fun q_6 => ?_)
  · have hw := hw.1 q_6
    refine lv_iload_n hx hb dX12_why_11 rfl (lv_at hl 2 rfl) ?_
    refine lv_iconst (v := (nI 0)) hx hb dX12_why_12 (by decide) ?_
    refine lv_sipush (v := (nI 10799)) hx hb dX12_why_13 (by decide) ?_
    refine cSi0 (As := [.int p2, .int (nI 0), .int (nI 10799)]) (rest := []) C hK hX hO (c_X12_in (l := l)) (va_cwS 3 hts gd_X12_74 rfl rfl rfl hd_X12_in (rok hR (Nat.le_of_ble_eq_true rfl) (Nat.le_of_ble_eq_true rfl))) rfl hl.1 rfl (Nat.le_of_ble_eq_true rfl) dX12_why_16 ⟨Nat.zero_le _, Nat.zero_le _⟩ (fun r_16 H locs e_16 hO => ?_)
    subst e_16
    have a_29 : ((f_X12_in p2 (nI 0) (nI 10799)) = 0 ∨ (f_X12_isDay p3) = 0) → ∀ (H : Heap) (locs : List Loc) (ls : Array Slot), okW D A s.heap H locs (wM cI cZ cJ h ad k_thrown k_s k_image k_hasImage k_steps k_read k_spot k_isWrong k_open k_act k_letBy k_letStamp k_stamp k_fallen k_held k_stands k_falling k_away k_round k_rests k_may k_next k_could k_couldNight k_night k_seats) → lv_has ls 5 [] → W p l e R s m args below meth c H locs 0 0 QQ (F0 m 29 ls []) := by
      intro cf H locs ls hO hl
      have hw := hw.1 cf
      refine lv_bipush (v := (-2)) hx hb dX12_why_29 (by decide) ?_
      exact ri8 hQQ hx hb hr hlk hK hO hw dX12_why_31
    have a_32 : ¬ (((f_X12_in p2 (nI 0) (nI 10799)) = 0 ∨ (f_X12_isDay p3) = 0)) → ∀ (H : Heap) (locs : List Loc) (ls : Array Slot), okW D A s.heap H locs (wM cI cZ cJ h ad k_thrown k_s k_image k_hasImage k_steps k_read k_spot k_isWrong k_open k_act k_letBy k_letStamp k_stamp k_fallen k_held k_stands k_falling k_away k_round k_rests k_may k_next k_could k_couldNight k_night k_seats) → lv_has ls 5 [(0, .ref h), (1, .int p1), (2, .int p2), (3, .int p3)] → W p l e R s m args below meth c H locs 0 0 QQ (F0 m 32 ls []) := by
      intro cf H locs ls hO hl
      have hw := hw.2 cf
      refine lv_aload_n hx hb dX12_why_32 rfl (lv_at hl 0 rfl) ?_
      refine cVv3 (As := []) (rest := []) C hK hX hO (c_X12_looks (l := l) hw) (cwV 0 hts gd_X12_169 rfl rfl rfl hd_X12_looks (rok hR (Nat.le_of_ble_eq_true rfl) (Nat.le_of_ble_eq_true rfl))) (ci := 12) (q0 := 0) rfl rfl rfl rfl hl.1 rfl (Nat.le_of_ble_eq_true rfl) dX12_why_33 ⟨Nat.zero_le _, Nat.zero_le _⟩ (fun fallen_33 held_33 stands_33 H locs hw hO => ?_)
      refine lv_iload_n hx hb dX12_why_36 rfl (lv_at hl 1 rfl) ?_
      refine lv_iconst (v := (nI 3)) hx hb dX12_why_37 (by decide) ?_
      refine lv_icmp_ne (tgt := 66) hx hb dX12_why_38 (by decide) (fun q_38 => ?_) (fun q_38 => ?_)
      · have hw := hw.1 q_38
        refine lv_aload_n hx hb dX12_why_66 rfl (lv_at hl 0 rfl) ?_
        refine lv_iload_n hx hb dX12_why_67 rfl (lv_at hl 1 rfl) ?_
        refine lv_iload_n hx hb dX12_why_68 rfl (lv_at hl 2 rfl) ?_
        refine lv_iload_n hx hb dX12_why_69 rfl (lv_at hl 3 rfl) ?_
        refine cVi5 (As := [.int p1, .int p2, .int p3]) (rest := []) C hK hX hO (c_X12_clauseOf (l := l) hw) (cwV 3 hts gd_X12_175 rfl rfl rfl hd_X12_clauseOf (rok hR (Nat.le_of_ble_eq_true rfl) (Nat.le_of_ble_eq_true rfl))) (ci := 12) (q0 := 0) rfl rfl rfl rfl hl.1 rfl (Nat.le_of_ble_eq_true rfl) dX12_why_70 ⟨Nat.zero_le _, Nat.zero_le _⟩ (fun r_70 read_70 spot_70 isWrong_70 open_70 act_70 H locs hw hO => ?_)
        refine lv_istore (lv' := [(4, .int r_70), (0, .ref h), (1, .int p1), (2, .int p2), (3, .int p3)]) hx hb dX12_why_73 hl (by decide) rfl (fun ls hl => ?_)
        refine lv_iload hx hb dX12_why_75 (lv_at hl 0 rfl) ?_
        refine lv_iconst (v := (-1)) hx hb dX12_why_77 (by decide) ?_
        have m_100 : ∀ (y0_100 : Int32) (H : Heap) (locs : List Loc) (ls : Array Slot), y0_100 = (if r_70 = (-1) then (-5) else (((nI 100) * (r_70 / (nI 8))) + (r_70 - r_70 / (nI 8) * (nI 8)))) → okW D A s.heap H locs (wM cI cZ cJ h ad k_thrown k_s k_image k_hasImage k_steps read_70 spot_70 isWrong_70 open_70 act_70 k_letBy k_letStamp k_stamp fallen_33 held_33 stands_33 k_falling k_away k_round k_rests k_may k_next k_could k_couldNight k_night k_seats) → lv_has ls 5 [] → W p l e R s m args below meth c H locs 0 0 QQ (F0 m 100 ls [.int y0_100]) := by
          intro y0_100 H locs ls ey0_100 hO hl
          have hw := hw y0_100 ey0_100
          exact ri8 hQQ hx hb hr hlk hK hO hw dX12_why_100
        refine lv_icmp_ne (tgt := 86) hx hb dX12_why_78 (by decide) (fun q_78 => ?_) (fun q_78 => ?_)
        · refine lv_bipush (v := (nI 100)) hx hb dX12_why_86 (by decide) ?_
          refine lv_iload hx hb dX12_why_88 (lv_at hl 0 rfl) ?_
          refine lv_bipush (v := (nI 8)) hx hb dX12_why_90 (by decide) ?_
          refine lv_idiv hx hb dX12_why_92 (by decide) ?_
          refine lv_imul hx hb dX12_why_93 ?_
          refine lv_iload hx hb dX12_why_94 (lv_at hl 0 rfl) ?_
          refine lv_bipush (v := (nI 8)) hx hb dX12_why_96 (by decide) ?_
          refine lv_irem hx hb dX12_why_98 (by decide) ?_
          refine lv_iadd hx hb dX12_why_99 ?_
          have hl := lv_sub hl [] rfl (l' := [])
          exact m_100 _ _ _ _ (by rw [if_neg q_78]) hO hl
        · refine lv_bipush (v := (-5)) hx hb dX12_why_81 (by decide) ?_
          refine lv_goto (tgt := 100) hx hb dX12_why_83 (by decide) ?_
          have hl := lv_sub hl [] rfl (l' := [])
          exact m_100 _ _ _ _ (by rw [if_pos q_78]) hO hl
      · have hw := hw.2 q_38
        refine lv_aload_n hx hb dX12_why_41 rfl (lv_at hl 0 rfl) ?_
        refine lv_iload_n hx hb dX12_why_42 rfl (lv_at hl 2 rfl) ?_
        refine cVi0 (As := [.int p2]) (rest := []) C hK hX hO (c_X12_rulingOf (l := l) hw) (cwV 1 hts gd_X12_163 rfl rfl rfl hd_X12_rulingOf (rok hR (Nat.le_of_ble_eq_true rfl) (Nat.le_of_ble_eq_true rfl))) (ci := 12) (q0 := 0) rfl rfl rfl rfl hl.1 rfl (Nat.le_of_ble_eq_true rfl) dX12_why_43 ⟨Nat.zero_le _, Nat.zero_le _⟩ (fun r_43 H locs hw hO => ?_)
        refine lv_istore (lv' := [(4, .int r_43), (0, .ref h), (1, .int p1), (2, .int p2), (3, .int p3)]) hx hb dX12_why_46 hl (by decide) rfl (fun ls hl => ?_)
        refine lv_iload hx hb dX12_why_48 (lv_at hl 0 rfl) ?_
        refine lv_iconst (v := (-1)) hx hb dX12_why_50 (by decide) ?_
        have m_65 : ∀ (y0_65 : Int32) (H : Heap) (locs : List Loc) (ls : Array Slot), y0_65 = (if r_43 = (-1) then (-5) else ((nI 10000) + r_43)) → okW D A s.heap H locs (wM cI cZ cJ h ad k_thrown k_s k_image k_hasImage k_steps k_read k_spot k_isWrong k_open k_act k_letBy k_letStamp k_stamp fallen_33 held_33 stands_33 k_falling k_away k_round k_rests k_may k_next k_could k_couldNight k_night k_seats) → lv_has ls 5 [] → W p l e R s m args below meth c H locs 0 0 QQ (F0 m 65 ls [.int y0_65]) := by
          intro y0_65 H locs ls ey0_65 hO hl
          have hw := hw y0_65 ey0_65
          exact ri8 hQQ hx hb hr hlk hK hO hw dX12_why_65
        refine lv_icmp_ne (tgt := 59) hx hb dX12_why_51 (by decide) (fun q_51 => ?_) (fun q_51 => ?_)
        · refine lv_sipush (v := (nI 10000)) hx hb dX12_why_59 (by decide) ?_
          refine lv_iload hx hb dX12_why_62 (lv_at hl 0 rfl) ?_
          refine lv_iadd hx hb dX12_why_64 ?_
          have hl := lv_sub hl [] rfl (l' := [])
          exact m_65 _ _ _ _ (by rw [if_neg q_51]) hO hl
        · refine lv_bipush (v := (-5)) hx hb dX12_why_54 (by decide) ?_
          refine lv_goto (tgt := 65) hx hb dX12_why_56 (by decide) ?_
          have hl := lv_sub hl [] rfl (l' := [])
          exact m_65 _ _ _ _ (by rw [if_pos q_51]) hO hl
    refine lv_if_eq (tgt := 29) hx hb dX12_why_19 (by decide) (fun q_19 => ?_) (fun q_19 => ?_)
    · have hl := lv_sub hl [] rfl (l' := [])
      exact a_29 (Or.inl q_19) _ _ _ hO hl
    · refine lv_iload_n hx hb dX12_why_22 rfl (lv_at hl 3 rfl) ?_
      refine cSi0 (As := [.int p3]) (rest := []) C hK hX hO (c_X12_isDay (l := l)) (va_cwS 1 hts gd_X12_148 rfl rfl rfl hd_X12_isDay (rok hR (Nat.le_of_ble_eq_true rfl) (Nat.le_of_ble_eq_true rfl))) rfl hl.1 rfl (Nat.le_of_ble_eq_true rfl) dX12_why_23 ⟨Nat.zero_le _, Nat.zero_le _⟩ (fun r_23 H locs e_23 hO => ?_)
      subst e_23
      refine lv_if_ne (tgt := 32) hx hb dX12_why_26 (by decide) (fun q_26 => ?_) (fun q_26 => ?_)
      · have hl := lv_sub hl [0, 1, 2, 3] rfl (l' := [(0, .ref h), (1, .int p1), (2, .int p2), (3, .int p3)])
        exact a_32 (fun h => h.elim q_19 q_26) _ _ _ hO hl
      · have hl := lv_sub hl [] rfl (l' := [])
        exact a_29 (Or.inr q_26) _ _ _ hO hl
  · have hw := hw.2 q_6
    refine lv_iconst (v := (-1)) hx hb dX12_why_9 (by decide) ?_
    exact ri8 hQQ hx hb hr hlk hK hO hw dX12_why_10
def wb_X12_unlikeOf_6 (p1 : Int32) (p2 : Int32) (p3 : Int32) (p4 : Int32) (k_s : Nat → Int32) (k_stamp : Int32) (Q : Int32 → (Int32) → (Int32) → (Int32) → (Int32) → (Int32) → (Nat → Int32) → (Nat → Int32) → Prop) (L_6 : Int32 → Int32 → Int32 → Int32 → Int32 → Int32 → Int32 → (Nat → Int32) → (Nat → Int32) → Prop) (v5_6 : Int32) (v6_6 : Int32) (read_6 : Int32) (spot_6 : Int32) (isWrong_6 : Int32) (open_6 : Int32) (act_6 : Int32) (letBy_6 : Nat → Int32) (letStamp_6 : Nat → Int32) : Prop := (((nI 10800) ≤ v6_6 → (∀ y0_63 : Int32, y0_63 = (if p4 = 0 then v5_6 else (-5)) → (Q y0_63 read_6 spot_6 isWrong_6 open_6 act_6 letBy_6 letStamp_6))) ∧ (¬ (nI 10800) ≤ v6_6 → (wp_X12_letsBy p1 v6_6 p3 k_s read_6 spot_6 isWrong_6 open_6 act_6 letBy_6 letStamp_6 k_stamp (fun (r_19 : Int32) (read_19 : Int32) (spot_19 : Int32) (isWrong_19 : Int32) (open_19 : Int32) (act_19 : Int32) (letBy_19 : Nat → Int32) (letStamp_19 : Nat → Int32) => (wp_X12_letsBy p2 v6_6 p3 k_s read_19 spot_19 isWrong_19 open_19 act_19 letBy_19 letStamp_19 k_stamp (fun (r_27 : Int32) (read_27 : Int32) (spot_27 : Int32) (isWrong_27 : Int32) (open_27 : Int32) (act_27 : Int32) (letBy_27 : Nat → Int32) (letStamp_27 : Nat → Int32) => ((r_19 = r_27 → (L_6 v5_6 (v6_6 + (nI 1)) read_27 spot_27 isWrong_27 open_27 act_27 letBy_27 letStamp_27)) ∧ (¬ r_19 = r_27 → ((¬ p4 = (nI 1) → (L_6 (v5_6 + (nI 1)) (v6_6 + (nI 1)) read_27 spot_27 isWrong_27 open_27 act_27 letBy_27 letStamp_27)) ∧ (p4 = (nI 1) → (Q v6_6 read_27 spot_27 isWrong_27 open_27 act_27 letBy_27 letStamp_27)))))))))))
def wl_X12_unlikeOf_6 (p1 : Int32) (p2 : Int32) (p3 : Int32) (p4 : Int32) (k_s : Nat → Int32) (k_stamp : Int32) (Q : Int32 → (Int32) → (Int32) → (Int32) → (Int32) → (Int32) → (Nat → Int32) → (Nat → Int32) → Prop) : Nat → Int32 → Int32 → Int32 → Int32 → Int32 → Int32 → Int32 → (Nat → Int32) → (Nat → Int32) → Prop
  | 0, _, _, _, _, _, _, _, _, _ => False
  | n + 1, v5_6, v6_6, read_6, spot_6, isWrong_6, open_6, act_6, letBy_6, letStamp_6 => wb_X12_unlikeOf_6 p1 p2 p3 p4 k_s k_stamp Q (wl_X12_unlikeOf_6 p1 p2 p3 p4 k_s k_stamp Q n) v5_6 v6_6 read_6 spot_6 isWrong_6 open_6 act_6 letBy_6 letStamp_6
def wp_X12_unlikeOf (p1 : Int32) (p2 : Int32) (p3 : Int32) (p4 : Int32) (k_s : Nat → Int32) (k_read : Int32) (k_spot : Int32) (k_isWrong : Int32) (k_open : Int32) (k_act : Int32) (k_letBy : Nat → Int32) (k_letStamp : Nat → Int32) (k_stamp : Int32) (Q : Int32 → (Int32) → (Int32) → (Int32) → (Int32) → (Int32) → (Nat → Int32) → (Nat → Int32) → Prop) : Prop := (∃ n, wl_X12_unlikeOf_6 p1 p2 p3 p4 k_s k_stamp Q n (nI 0) (nI 0) k_read k_spot k_isWrong k_open k_act k_letBy k_letStamp)
set_option maxHeartbeats 4000000 in
set_option maxRecDepth 100000 in
theorem c_X12_unlikeOf {l : Launch} {D : va_G} {cI cZ cJ : ClassId} {h : Nat} {ad : Nat → Nat} {sz : Nat} {k_thrown : Int32} {k_s : Nat → Int32} {k_image : Nat → Int32} {k_hasImage : Int32} {k_steps : Nat → Int32} {k_read : Int32} {k_spot : Int32} {k_isWrong : Int32} {k_open : Int32} {k_act : Int32} {k_letBy : Nat → Int32} {k_letStamp : Nat → Int32} {k_stamp : Int32} {k_fallen : Nat → Int32} {k_held : Nat → Int32} {k_stands : Nat → Int32} {k_falling : Nat → Int32} {k_away : Nat → Int32} {k_round : Nat → Int32} {k_rests : Nat → Int64} {k_may : Nat → Int32} {k_next : Nat → Int32} {k_could : Nat → Int32} {k_couldNight : Nat → Int32} {k_night : Int32} {k_seats : Nat → Int32} {p1 : Int32} {p2 : Int32} {p3 : Int32} {p4 : Int32} {Q : Int32 → (Int32) → (Int32) → (Int32) → (Int32) → (Int32) → (Nat → Int32) → (Nat → Int32) → Prop} (hw : wp_X12_unlikeOf p1 p2 p3 p4 k_s k_read k_spot k_isWrong k_open k_act k_letBy k_letStamp k_stamp Q) : Met l yX12_unlikeOf (Cond.code yX12_unlikeOf cX12_unlikeOf 7 (some .int) :: wsG) ({ frames := 34, cells := 0, slots := 0, locals := 774 } : Room) (preW D (tyM cI cZ cJ) (wM cI cZ cJ h ad k_thrown k_s k_image k_hasImage k_steps k_read k_spot k_isWrong k_open k_act k_letBy k_letStamp k_stamp k_fallen k_held k_stands k_falling k_away k_round k_rests k_may k_next k_could k_couldNight k_night k_seats) sz [.ref h, .int p1, .int p2, .int p3, .int p4]) (qi7 D (tyM cI cZ cJ) (va_A (wM cI cZ cJ h ad k_thrown k_s k_image k_hasImage k_steps k_read k_spot k_isWrong k_open k_act k_letBy k_letStamp k_stamp k_fallen k_held k_stands k_falling k_away k_round k_rests k_may k_next k_could k_couldNight k_night k_seats) sz) Q (fun k_read' k_spot' k_isWrong' k_open' k_act' k_letBy' k_letStamp' => (wM cI cZ cJ h ad k_thrown k_s k_image k_hasImage k_steps k_read' k_spot' k_isWrong' k_open' k_act' k_letBy' k_letStamp' k_stamp k_fallen k_held k_stands k_falling k_away k_round k_rests k_may k_next k_could k_couldNight k_night k_seats))) 0 0 (va_A (wM cI cZ cJ h ad k_thrown k_s k_image k_hasImage k_steps k_read k_spot k_isWrong k_open k_act k_letBy k_letStamp k_stamp k_fallen k_held k_stands k_falling k_away k_round k_rests k_may k_next k_could k_couldNight k_night k_seats) sz) := by
  refine st_met (cc := cX12_unlikeOf) (maxL := 7) (ret := (some .int)) (lv := [(0, .ref h), (1, .int p1), (2, .int p2), (3, .int p3), (4, .int p4)]) (Qc := fun A => qi7 D (tyM cI cZ cJ) A Q (fun k_read' k_spot' k_isWrong' k_open' k_act' k_letBy' k_letStamp' => (wM cI cZ cJ h ad k_thrown k_s k_image k_hasImage k_steps k_read' k_spot' k_isWrong' k_open' k_act' k_letBy' k_letStamp' k_stamp k_fallen k_held k_stands k_falling k_away k_round k_rests k_may k_next k_could k_couldNight k_night k_seats))) (by decide) rfl (Nat.le_of_ble_eq_true rfl) rfl ?_
  intro p e s m below meth c ls A R args QQ H locs C hr hlk hnm hK hX hsz hl hO hR hQQ
  have hx := C.1
  have hb := C.2.1
  have hown := C.2.2.2.1
  have hts := C.2.2.2.2
  have hin : ∀ w ∈ u_ws RX12 TX12 26, w ∈ (Cond.code yX12_unlikeOf cX12_unlikeOf 7 (some .int) :: wsG) := fun w h9 => List.mem_cons_of_mem _ (inG12 w h9)
  unfold wp_X12_unlikeOf at hw
  refine lv_iconst (v := (nI 0)) hx hb dX12_unlikeOf_0 (by decide) ?_
  refine lv_istore (lv' := [(5, .int (nI 0)), (0, .ref h), (1, .int p1), (2, .int p2), (3, .int p3), (4, .int p4)]) hx hb dX12_unlikeOf_1 hl (by decide) rfl (fun ls hl => ?_)
  refine lv_iconst (v := (nI 0)) hx hb dX12_unlikeOf_3 (by decide) ?_
  refine lv_istore (lv' := [(6, .int (nI 0)), (5, .int (nI 0)), (0, .ref h), (1, .int p1), (2, .int p2), (3, .int p3), (4, .int p4)]) hx hb dX12_unlikeOf_4 hl (by decide) rfl (fun ls hl => ?_)
  obtain ⟨n_6, hw⟩ := hw
  have b_6 : ∀ (L_6 : Int32 → Int32 → Int32 → Int32 → Int32 → Int32 → Int32 → (Nat → Int32) → (Nat → Int32) → Prop) (ih_6 : ∀ (v5_6 : Int32) (v6_6 : Int32) (read_6 : Int32) (spot_6 : Int32) (isWrong_6 : Int32) (open_6 : Int32) (act_6 : Int32) (letBy_6 : Nat → Int32) (letStamp_6 : Nat → Int32) (H : Heap) (locs : List Loc) (ls : Array Slot), okW D A s.heap H locs (wM cI cZ cJ h ad k_thrown k_s k_image k_hasImage k_steps read_6 spot_6 isWrong_6 open_6 act_6 letBy_6 letStamp_6 k_stamp k_fallen k_held k_stands k_falling k_away k_round k_rests k_may k_next k_could k_couldNight k_night k_seats) → lv_has ls 7 [(0, .ref h), (1, .int p1), (2, .int p2), (3, .int p3), (4, .int p4), (5, .int v5_6), (6, .int v6_6)] → L_6 v5_6 v6_6 read_6 spot_6 isWrong_6 open_6 act_6 letBy_6 letStamp_6 → W p l e R s m args below meth c H locs 0 0 QQ (F0 m 6 ls [])) (v5_6 : Int32) (v6_6 : Int32) (read_6 : Int32) (spot_6 : Int32) (isWrong_6 : Int32) (open_6 : Int32) (act_6 : Int32) (letBy_6 : Nat → Int32) (letStamp_6 : Nat → Int32) (H : Heap) (locs : List Loc) (ls : Array Slot), okW D A s.heap H locs (wM cI cZ cJ h ad k_thrown k_s k_image k_hasImage k_steps read_6 spot_6 isWrong_6 open_6 act_6 letBy_6 letStamp_6 k_stamp k_fallen k_held k_stands k_falling k_away k_round k_rests k_may k_next k_could k_couldNight k_night k_seats) → lv_has ls 7 [(0, .ref h), (1, .int p1), (2, .int p2), (3, .int p3), (4, .int p4), (5, .int v5_6), (6, .int v6_6)] → wb_X12_unlikeOf_6 p1 p2 p3 p4 k_s k_stamp Q L_6 v5_6 v6_6 read_6 spot_6 isWrong_6 open_6 act_6 letBy_6 letStamp_6 → W p l e R s m args below meth c H locs 0 0 QQ (F0 m 6 ls []) := by
    intro L_6 ih_6 v5_6 v6_6 read_6 spot_6 isWrong_6 open_6 act_6 letBy_6 letStamp_6 H locs ls hO hl hw
    unfold wb_X12_unlikeOf_6 at hw
    refine lv_iload hx hb dX12_unlikeOf_6 (lv_at hl 6 rfl) ?_
    refine lv_sipush (v := (nI 10800)) hx hb dX12_unlikeOf_8 (by decide) ?_
    refine lv_icmp_ge (tgt := 51) hx hb dX12_unlikeOf_11 (by decide) (fun q_11 => ?_) (fun q_11 => ?_)
    · have hw := hw.1 q_11
      refine lv_iload hx hb dX12_unlikeOf_51 (lv_at hl 4 rfl) ?_
      have m_63 : ∀ (y0_63 : Int32) (H : Heap) (locs : List Loc) (ls : Array Slot), y0_63 = (if p4 = 0 then v5_6 else (-5)) → okW D A s.heap H locs (wM cI cZ cJ h ad k_thrown k_s k_image k_hasImage k_steps read_6 spot_6 isWrong_6 open_6 act_6 letBy_6 letStamp_6 k_stamp k_fallen k_held k_stands k_falling k_away k_round k_rests k_may k_next k_could k_couldNight k_night k_seats) → lv_has ls 7 [] → W p l e R s m args below meth c H locs 0 0 QQ (F0 m 63 ls [.int y0_63]) := by
        intro y0_63 H locs ls ey0_63 hO hl
        have hw := hw y0_63 ey0_63
        exact ri7 hQQ hx hb hr hlk hK hO hw dX12_unlikeOf_63
      refine lv_if_ne (tgt := 61) hx hb dX12_unlikeOf_53 (by decide) (fun q_53 => ?_) (fun q_53 => ?_)
      · refine lv_bipush (v := (-5)) hx hb dX12_unlikeOf_61 (by decide) ?_
        have hl := lv_sub hl [] rfl (l' := [])
        exact m_63 _ _ _ _ (by rw [if_neg q_53]) hO hl
      · refine lv_iload hx hb dX12_unlikeOf_56 (lv_at hl 5 rfl) ?_
        refine lv_goto (tgt := 63) hx hb dX12_unlikeOf_58 (by decide) ?_
        have hl := lv_sub hl [] rfl (l' := [])
        exact m_63 _ _ _ _ (by rw [if_pos q_53]) hO hl
    · have hw := hw.2 q_11
      refine lv_aload_n hx hb dX12_unlikeOf_14 rfl (lv_at hl 0 rfl) ?_
      refine lv_iload_n hx hb dX12_unlikeOf_15 rfl (lv_at hl 1 rfl) ?_
      refine lv_iload hx hb dX12_unlikeOf_16 (lv_at hl 6 rfl) ?_
      refine lv_iload_n hx hb dX12_unlikeOf_18 rfl (lv_at hl 3 rfl) ?_
      refine cVi7 (As := [.int p1, .int v6_6, .int p3]) (rest := []) C hK hX hO (c_X12_letsBy (l := l) hw) (cwV 3 hts gd_X12_166 rfl rfl rfl hd_X12_letsBy (rok hR (Nat.le_of_ble_eq_true rfl) (Nat.le_of_ble_eq_true rfl))) (ci := 12) (q0 := 0) rfl rfl rfl rfl hl.1 rfl (Nat.le_of_ble_eq_true rfl) dX12_unlikeOf_19 ⟨Nat.zero_le _, Nat.zero_le _⟩ (fun r_19 read_19 spot_19 isWrong_19 open_19 act_19 letBy_19 letStamp_19 H locs hw hO => ?_)
      refine lv_aload_n hx hb dX12_unlikeOf_22 rfl (lv_at hl 0 rfl) ?_
      refine lv_iload_n hx hb dX12_unlikeOf_23 rfl (lv_at hl 2 rfl) ?_
      refine lv_iload hx hb dX12_unlikeOf_24 (lv_at hl 6 rfl) ?_
      refine lv_iload_n hx hb dX12_unlikeOf_26 rfl (lv_at hl 3 rfl) ?_
      refine cVi7 (As := [.int p2, .int v6_6, .int p3]) (rest := [.int r_19]) C hK hX hO (c_X12_letsBy (l := l) hw) (cwV 3 hts gd_X12_166 rfl rfl rfl hd_X12_letsBy (rok hR (Nat.le_of_ble_eq_true rfl) (Nat.le_of_ble_eq_true rfl))) (ci := 12) (q0 := 0) rfl rfl rfl rfl hl.1 rfl (Nat.le_of_ble_eq_true rfl) dX12_unlikeOf_27 ⟨Nat.zero_le _, Nat.zero_le _⟩ (fun r_27 read_27 spot_27 isWrong_27 open_27 act_27 letBy_27 letStamp_27 H locs hw hO => ?_)
      refine lv_icmp_eq (tgt := 45) hx hb dX12_unlikeOf_30 (by decide) (fun q_30 => ?_) (fun q_30 => ?_)
      · have hw := hw.1 q_30
        refine lv_iinc (v := (v6_6 + (nI 1))) (lv' := [(6, .int (v6_6 + (nI 1))), (0, .ref h), (1, .int p1), (2, .int p2), (3, .int p3), (4, .int p4), (5, .int v5_6)]) hx hb dX12_unlikeOf_45 hl (k := 6) rfl (iinc_1 _) (by decide) rfl (fun ls hl => ?_)
        refine lv_goto (tgt := 6) hx hb dX12_unlikeOf_48 (by decide) ?_
        exact ih_6 v5_6 (v6_6 + (nI 1)) read_27 spot_27 isWrong_27 open_27 act_27 letBy_27 letStamp_27 _ _ _ hO (lv_sub hl [1, 2, 3, 4, 5, 6, 0] rfl) hw
      · have hw := hw.2 q_30
        refine lv_iinc (v := (v5_6 + (nI 1))) (lv' := [(5, .int (v5_6 + (nI 1))), (0, .ref h), (1, .int p1), (2, .int p2), (3, .int p3), (4, .int p4), (6, .int v6_6)]) hx hb dX12_unlikeOf_33 hl (k := 5) rfl (iinc_1 _) (by decide) rfl (fun ls hl => ?_)
        refine lv_iload hx hb dX12_unlikeOf_36 (lv_at hl 5 rfl) ?_
        refine lv_iconst (v := (nI 1)) hx hb dX12_unlikeOf_38 (by decide) ?_
        refine lv_icmp_ne (tgt := 45) hx hb dX12_unlikeOf_39 (by decide) (fun q_39 => ?_) (fun q_39 => ?_)
        · have hw := hw.1 q_39
          refine lv_iinc (v := (v6_6 + (nI 1))) (lv' := [(6, .int (v6_6 + (nI 1))), (5, .int (v5_6 + (nI 1))), (0, .ref h), (1, .int p1), (2, .int p2), (3, .int p3), (4, .int p4)]) hx hb dX12_unlikeOf_45 hl (k := 6) rfl (iinc_1 _) (by decide) rfl (fun ls hl => ?_)
          refine lv_goto (tgt := 6) hx hb dX12_unlikeOf_48 (by decide) ?_
          exact ih_6 (v5_6 + (nI 1)) (v6_6 + (nI 1)) read_27 spot_27 isWrong_27 open_27 act_27 letBy_27 letStamp_27 _ _ _ hO (lv_sub hl [2, 3, 4, 5, 6, 1, 0] rfl) hw
        · have hw := hw.2 q_39
          refine lv_iload hx hb dX12_unlikeOf_42 (lv_at hl 6 rfl) ?_
          exact ri7 hQQ hx hb hr hlk hK hO hw dX12_unlikeOf_44
  have l_6 : ∀ (n : Nat) (v5_6 : Int32) (v6_6 : Int32) (read_6 : Int32) (spot_6 : Int32) (isWrong_6 : Int32) (open_6 : Int32) (act_6 : Int32) (letBy_6 : Nat → Int32) (letStamp_6 : Nat → Int32) (H : Heap) (locs : List Loc) (ls : Array Slot), okW D A s.heap H locs (wM cI cZ cJ h ad k_thrown k_s k_image k_hasImage k_steps read_6 spot_6 isWrong_6 open_6 act_6 letBy_6 letStamp_6 k_stamp k_fallen k_held k_stands k_falling k_away k_round k_rests k_may k_next k_could k_couldNight k_night k_seats) → lv_has ls 7 [(0, .ref h), (1, .int p1), (2, .int p2), (3, .int p3), (4, .int p4), (5, .int v5_6), (6, .int v6_6)] → wl_X12_unlikeOf_6 p1 p2 p3 p4 k_s k_stamp Q n v5_6 v6_6 read_6 spot_6 isWrong_6 open_6 act_6 letBy_6 letStamp_6 → W p l e R s m args below meth c H locs 0 0 QQ (F0 m 6 ls []) := by
    intro n
    induction n with
    | zero => intro v5_6 v6_6 read_6 spot_6 isWrong_6 open_6 act_6 letBy_6 letStamp_6 H locs ls hO hl hw; exact False.elim hw
    | succ n ih => exact b_6 _ ih
  exact l_6 n_6 (nI 0) (nI 0) k_read k_spot k_isWrong k_open k_act k_letBy k_letStamp _ _ _ hO (lv_sub hl [2, 3, 4, 5, 6, 1, 0] rfl) hw
theorem gd_X12_179 {a : Cond} : GoodIn (a :: wsG) (wsV RX12 179 RX12 yX12_unlikeOf (Cond.code yX12_unlikeOf cX12_unlikeOf 7 (some .int) :: wsG)) := gdV qw6_182 qw6_184 qs_54 qw1_12 qw6_185
theorem hd_X12_unlikeOf : yX12_unlikeOf.cls = RX12 ∧ yX12_unlikeOf.cls ≠ "java/lang/invoke/MethodHandle" ∧ yX12_unlikeOf.cls ≠ "java/lang/invoke/VarHandle" ∧ (parseMethodDescriptor yX12_unlikeOf.desc).map (fun d => d.parameters.length) = some 4 := by decide +kernel
def wp_X12_unlike (p1 : Int32) (p2 : Int32) (p3 : Int32) (p4 : Int32) (k_s : Nat → Int32) (k_read : Int32) (k_spot : Int32) (k_isWrong : Int32) (k_open : Int32) (k_act : Int32) (k_letBy : Nat → Int32) (k_letStamp : Nat → Int32) (k_stamp : Int32) (Q : Int32 → (Int32) → (Int32) → (Int32) → (Int32) → (Int32) → (Nat → Int32) → (Nat → Int32) → Prop) : Prop := ((((f_X12_in p1 (nI 0) (nI 2)) = 0 ∨ ((f_X12_in p2 (nI 0) (nI 2)) = 0 ∨ (f_X12_in p4 (nI 0) (nI 1)) = 0)) → (Q (-1) k_read k_spot k_isWrong k_open k_act k_letBy k_letStamp)) ∧ (¬ (((f_X12_in p1 (nI 0) (nI 2)) = 0 ∨ ((f_X12_in p2 (nI 0) (nI 2)) = 0 ∨ (f_X12_in p4 (nI 0) (nI 1)) = 0))) → (((p1 = p2 ∨ (f_X12_isDay p3) = 0) → (Q (-2) k_read k_spot k_isWrong k_open k_act k_letBy k_letStamp)) ∧ (¬ ((p1 = p2 ∨ (f_X12_isDay p3) = 0)) → (wp_X12_unlikeOf p1 p2 p3 p4 k_s k_read k_spot k_isWrong k_open k_act k_letBy k_letStamp k_stamp (fun (r_53 : Int32) (read_53 : Int32) (spot_53 : Int32) (isWrong_53 : Int32) (open_53 : Int32) (act_53 : Int32) (letBy_53 : Nat → Int32) (letStamp_53 : Nat → Int32) => (Q r_53 read_53 spot_53 isWrong_53 open_53 act_53 letBy_53 letStamp_53)))))))
set_option maxHeartbeats 4000000 in
set_option maxRecDepth 100000 in
theorem c_X12_unlike {l : Launch} {D : va_G} {cI cZ cJ : ClassId} {h : Nat} {ad : Nat → Nat} {sz : Nat} {k_thrown : Int32} {k_s : Nat → Int32} {k_image : Nat → Int32} {k_hasImage : Int32} {k_steps : Nat → Int32} {k_read : Int32} {k_spot : Int32} {k_isWrong : Int32} {k_open : Int32} {k_act : Int32} {k_letBy : Nat → Int32} {k_letStamp : Nat → Int32} {k_stamp : Int32} {k_fallen : Nat → Int32} {k_held : Nat → Int32} {k_stands : Nat → Int32} {k_falling : Nat → Int32} {k_away : Nat → Int32} {k_round : Nat → Int32} {k_rests : Nat → Int64} {k_may : Nat → Int32} {k_next : Nat → Int32} {k_could : Nat → Int32} {k_couldNight : Nat → Int32} {k_night : Int32} {k_seats : Nat → Int32} {p1 : Int32} {p2 : Int32} {p3 : Int32} {p4 : Int32} {Q : Int32 → (Int32) → (Int32) → (Int32) → (Int32) → (Int32) → (Nat → Int32) → (Nat → Int32) → Prop} (hw : wp_X12_unlike p1 p2 p3 p4 k_s k_read k_spot k_isWrong k_open k_act k_letBy k_letStamp k_stamp Q) : Met l yX12_unlike (Cond.code yX12_unlike cX12_unlike 5 (some .int) :: wsG) ({ frames := 35, cells := 0, slots := 0, locals := 800 } : Room) (preW D (tyM cI cZ cJ) (wM cI cZ cJ h ad k_thrown k_s k_image k_hasImage k_steps k_read k_spot k_isWrong k_open k_act k_letBy k_letStamp k_stamp k_fallen k_held k_stands k_falling k_away k_round k_rests k_may k_next k_could k_couldNight k_night k_seats) sz [.ref h, .int p1, .int p2, .int p3, .int p4]) (qi7 D (tyM cI cZ cJ) (va_A (wM cI cZ cJ h ad k_thrown k_s k_image k_hasImage k_steps k_read k_spot k_isWrong k_open k_act k_letBy k_letStamp k_stamp k_fallen k_held k_stands k_falling k_away k_round k_rests k_may k_next k_could k_couldNight k_night k_seats) sz) Q (fun k_read' k_spot' k_isWrong' k_open' k_act' k_letBy' k_letStamp' => (wM cI cZ cJ h ad k_thrown k_s k_image k_hasImage k_steps k_read' k_spot' k_isWrong' k_open' k_act' k_letBy' k_letStamp' k_stamp k_fallen k_held k_stands k_falling k_away k_round k_rests k_may k_next k_could k_couldNight k_night k_seats))) 0 0 (va_A (wM cI cZ cJ h ad k_thrown k_s k_image k_hasImage k_steps k_read k_spot k_isWrong k_open k_act k_letBy k_letStamp k_stamp k_fallen k_held k_stands k_falling k_away k_round k_rests k_may k_next k_could k_couldNight k_night k_seats) sz) := by
  refine st_met (cc := cX12_unlike) (maxL := 5) (ret := (some .int)) (lv := [(0, .ref h), (1, .int p1), (2, .int p2), (3, .int p3), (4, .int p4)]) (Qc := fun A => qi7 D (tyM cI cZ cJ) A Q (fun k_read' k_spot' k_isWrong' k_open' k_act' k_letBy' k_letStamp' => (wM cI cZ cJ h ad k_thrown k_s k_image k_hasImage k_steps k_read' k_spot' k_isWrong' k_open' k_act' k_letBy' k_letStamp' k_stamp k_fallen k_held k_stands k_falling k_away k_round k_rests k_may k_next k_could k_couldNight k_night k_seats))) (by decide) rfl (Nat.le_of_ble_eq_true rfl) rfl ?_
  intro p e s m below meth c ls A R args QQ H locs C hr hlk hnm hK hX hsz hl hO hR hQQ
  have hx := C.1
  have hb := C.2.1
  have hown := C.2.2.2.1
  have hts := C.2.2.2.2
  have hin : ∀ w ∈ u_ws RX12 TX12 26, w ∈ (Cond.code yX12_unlike cX12_unlike 5 (some .int) :: wsG) := fun w h9 => List.mem_cons_of_mem _ (inG12 w h9)
  unfold wp_X12_unlike at hw
  refine lv_iload_n hx hb dX12_unlike_0 rfl (lv_at hl 1 rfl) ?_
  refine lv_iconst (v := (nI 0)) hx hb dX12_unlike_1 (by decide) ?_
  refine lv_iconst (v := (nI 2)) hx hb dX12_unlike_2 (by decide) ?_
  refine cSi0 (As := [.int p1, .int (nI 0), .int (nI 2)]) (rest := []) C hK hX hO (c_X12_in (l := l)) (va_cwS 3 hts gd_X12_74 rfl rfl rfl hd_X12_in (rok hR (Nat.le_of_ble_eq_true rfl) (Nat.le_of_ble_eq_true rfl))) rfl hl.1 rfl (Nat.le_of_ble_eq_true rfl) dX12_unlike_3 ⟨Nat.zero_le _, Nat.zero_le _⟩ (fun r_3 H locs e_3 hO => ?_)
  subst e_3
  have a_28 : ((f_X12_in p1 (nI 0) (nI 2)) = 0 ∨ ((f_X12_in p2 (nI 0) (nI 2)) = 0 ∨ (f_X12_in p4 (nI 0) (nI 1)) = 0)) → ∀ (H : Heap) (locs : List Loc) (ls : Array Slot), okW D A s.heap H locs (wM cI cZ cJ h ad k_thrown k_s k_image k_hasImage k_steps k_read k_spot k_isWrong k_open k_act k_letBy k_letStamp k_stamp k_fallen k_held k_stands k_falling k_away k_round k_rests k_may k_next k_could k_couldNight k_night k_seats) → lv_has ls 5 [] → W p l e R s m args below meth c H locs 0 0 QQ (F0 m 28 ls []) := by
    intro cf H locs ls hO hl
    have hw := hw.1 cf
    refine lv_iconst (v := (-1)) hx hb dX12_unlike_28 (by decide) ?_
    exact ri7 hQQ hx hb hr hlk hK hO hw dX12_unlike_29
  have a_30 : ¬ (((f_X12_in p1 (nI 0) (nI 2)) = 0 ∨ ((f_X12_in p2 (nI 0) (nI 2)) = 0 ∨ (f_X12_in p4 (nI 0) (nI 1)) = 0))) → ∀ (H : Heap) (locs : List Loc) (ls : Array Slot), okW D A s.heap H locs (wM cI cZ cJ h ad k_thrown k_s k_image k_hasImage k_steps k_read k_spot k_isWrong k_open k_act k_letBy k_letStamp k_stamp k_fallen k_held k_stands k_falling k_away k_round k_rests k_may k_next k_could k_couldNight k_night k_seats) → lv_has ls 5 [(0, .ref h), (1, .int p1), (2, .int p2), (3, .int p3), (4, .int p4)] → W p l e R s m args below meth c H locs 0 0 QQ (F0 m 30 ls []) := by
    intro cf H locs ls hO hl
    have hw := hw.2 cf
    refine lv_iload_n hx hb dX12_unlike_30 rfl (lv_at hl 1 rfl) ?_
    refine lv_iload_n hx hb dX12_unlike_31 rfl (lv_at hl 2 rfl) ?_
    have a_42 : (p1 = p2 ∨ (f_X12_isDay p3) = 0) → ∀ (H : Heap) (locs : List Loc) (ls : Array Slot), okW D A s.heap H locs (wM cI cZ cJ h ad k_thrown k_s k_image k_hasImage k_steps k_read k_spot k_isWrong k_open k_act k_letBy k_letStamp k_stamp k_fallen k_held k_stands k_falling k_away k_round k_rests k_may k_next k_could k_couldNight k_night k_seats) → lv_has ls 5 [] → W p l e R s m args below meth c H locs 0 0 QQ (F0 m 42 ls []) := by
      intro cf H locs ls hO hl
      have hw := hw.1 cf
      refine lv_bipush (v := (-2)) hx hb dX12_unlike_42 (by decide) ?_
      refine lv_goto (tgt := 56) hx hb dX12_unlike_44 (by decide) ?_
      exact ri7 hQQ hx hb hr hlk hK hO hw dX12_unlike_56
    have a_47 : ¬ ((p1 = p2 ∨ (f_X12_isDay p3) = 0)) → ∀ (H : Heap) (locs : List Loc) (ls : Array Slot), okW D A s.heap H locs (wM cI cZ cJ h ad k_thrown k_s k_image k_hasImage k_steps k_read k_spot k_isWrong k_open k_act k_letBy k_letStamp k_stamp k_fallen k_held k_stands k_falling k_away k_round k_rests k_may k_next k_could k_couldNight k_night k_seats) → lv_has ls 5 [(0, .ref h), (1, .int p1), (2, .int p2), (3, .int p3), (4, .int p4)] → W p l e R s m args below meth c H locs 0 0 QQ (F0 m 47 ls []) := by
      intro cf H locs ls hO hl
      have hw := hw.2 cf
      refine lv_aload_n hx hb dX12_unlike_47 rfl (lv_at hl 0 rfl) ?_
      refine lv_iload_n hx hb dX12_unlike_48 rfl (lv_at hl 1 rfl) ?_
      refine lv_iload_n hx hb dX12_unlike_49 rfl (lv_at hl 2 rfl) ?_
      refine lv_iload_n hx hb dX12_unlike_50 rfl (lv_at hl 3 rfl) ?_
      refine lv_iload hx hb dX12_unlike_51 (lv_at hl 4 rfl) ?_
      refine cVi7 (As := [.int p1, .int p2, .int p3, .int p4]) (rest := []) C hK hX hO (c_X12_unlikeOf (l := l) hw) (cwV 4 hts gd_X12_179 rfl rfl rfl hd_X12_unlikeOf (rok hR (Nat.le_of_ble_eq_true rfl) (Nat.le_of_ble_eq_true rfl))) (ci := 12) (q0 := 0) rfl rfl rfl rfl hl.1 rfl (Nat.le_of_ble_eq_true rfl) dX12_unlike_53 ⟨Nat.zero_le _, Nat.zero_le _⟩ (fun r_53 read_53 spot_53 isWrong_53 open_53 act_53 letBy_53 letStamp_53 H locs hw hO => ?_)
      exact ri7 hQQ hx hb hr hlk hK hO hw dX12_unlike_56
    refine lv_icmp_eq (tgt := 42) hx hb dX12_unlike_32 (by decide) (fun q_32 => ?_) (fun q_32 => ?_)
    · have hl := lv_sub hl [] rfl (l' := [])
      exact a_42 (Or.inl q_32) _ _ _ hO hl
    · refine lv_iload_n hx hb dX12_unlike_35 rfl (lv_at hl 3 rfl) ?_
      refine cSi0 (As := [.int p3]) (rest := []) C hK hX hO (c_X12_isDay (l := l)) (va_cwS 1 hts gd_X12_148 rfl rfl rfl hd_X12_isDay (rok hR (Nat.le_of_ble_eq_true rfl) (Nat.le_of_ble_eq_true rfl))) rfl hl.1 rfl (Nat.le_of_ble_eq_true rfl) dX12_unlike_36 ⟨Nat.zero_le _, Nat.zero_le _⟩ (fun r_36 H locs e_36 hO => ?_)
      subst e_36
      refine lv_if_ne (tgt := 47) hx hb dX12_unlike_39 (by decide) (fun q_39 => ?_) (fun q_39 => ?_)
      · have hl := lv_sub hl [0, 1, 2, 3, 4] rfl (l' := [(0, .ref h), (1, .int p1), (2, .int p2), (3, .int p3), (4, .int p4)])
        exact a_47 (fun h => h.elim q_32 q_39) _ _ _ hO hl
      · have hl := lv_sub hl [] rfl (l' := [])
        exact a_42 (Or.inr q_39) _ _ _ hO hl
  refine lv_if_eq (tgt := 28) hx hb dX12_unlike_6 (by decide) (fun q_6 => ?_) (fun q_6 => ?_)
  · have hl := lv_sub hl [] rfl (l' := [])
    exact a_28 (Or.inl q_6) _ _ _ hO hl
  · refine lv_iload_n hx hb dX12_unlike_9 rfl (lv_at hl 2 rfl) ?_
    refine lv_iconst (v := (nI 0)) hx hb dX12_unlike_10 (by decide) ?_
    refine lv_iconst (v := (nI 2)) hx hb dX12_unlike_11 (by decide) ?_
    refine cSi0 (As := [.int p2, .int (nI 0), .int (nI 2)]) (rest := []) C hK hX hO (c_X12_in (l := l)) (va_cwS 3 hts gd_X12_74 rfl rfl rfl hd_X12_in (rok hR (Nat.le_of_ble_eq_true rfl) (Nat.le_of_ble_eq_true rfl))) rfl hl.1 rfl (Nat.le_of_ble_eq_true rfl) dX12_unlike_12 ⟨Nat.zero_le _, Nat.zero_le _⟩ (fun r_12 H locs e_12 hO => ?_)
    subst e_12
    refine lv_if_eq (tgt := 28) hx hb dX12_unlike_15 (by decide) (fun q_15 => ?_) (fun q_15 => ?_)
    · have hl := lv_sub hl [] rfl (l' := [])
      exact a_28 (Or.inr (Or.inl q_15)) _ _ _ hO hl
    · refine lv_iload hx hb dX12_unlike_18 (lv_at hl 4 rfl) ?_
      refine lv_iconst (v := (nI 0)) hx hb dX12_unlike_20 (by decide) ?_
      refine lv_iconst (v := (nI 1)) hx hb dX12_unlike_21 (by decide) ?_
      refine cSi0 (As := [.int p4, .int (nI 0), .int (nI 1)]) (rest := []) C hK hX hO (c_X12_in (l := l)) (va_cwS 3 hts gd_X12_74 rfl rfl rfl hd_X12_in (rok hR (Nat.le_of_ble_eq_true rfl) (Nat.le_of_ble_eq_true rfl))) rfl hl.1 rfl (Nat.le_of_ble_eq_true rfl) dX12_unlike_22 ⟨Nat.zero_le _, Nat.zero_le _⟩ (fun r_22 H locs e_22 hO => ?_)
      subst e_22
      refine lv_if_ne (tgt := 30) hx hb dX12_unlike_25 (by decide) (fun q_25 => ?_) (fun q_25 => ?_)
      · have hl := lv_sub hl [0, 1, 2, 3, 4] rfl (l' := [(0, .ref h), (1, .int p1), (2, .int p2), (3, .int p3), (4, .int p4)])
        exact a_30 (fun h => h.elim q_6 (fun h => h.elim q_15 q_25)) _ _ _ hO hl
      · have hl := lv_sub hl [] rfl (l' := [])
        exact a_28 (Or.inr (Or.inr q_25)) _ _ _ hO hl
def wb_X12_right_127 (k_s : Nat → Int32) (Q : Int32 → (Nat → Int32) → Prop) (L_127 : Int32 → (Nat → Int32) → Prop) (v7_127 : Int32) (s_127 : Nat → Int32) : Prop := (((nI 50) ≤ v7_127 → (Q (k_s 2) (upd s_127 2 ((s_127 2) + (nI 1))))) ∧ (¬ (nI 50) ≤ v7_127 → (vp_in (((nI 1910) + ((nI 50) * (k_s 2))) + v7_127) 6700 ∧ (vp_in (((nI 1910) + ((nI 50) * v7_127)) + (k_s 2)) 6700 ∧ (L_127 (v7_127 + (nI 1)) (upd (upd s_127 (((((nI 1910) + ((nI 50) * (k_s 2))) + v7_127)).toNatClampNeg) (nI 0)) (((((nI 1910) + ((nI 50) * v7_127)) + (k_s 2))).toNatClampNeg) (nI 0)))))))
def wl_X12_right_127 (k_s : Nat → Int32) (Q : Int32 → (Nat → Int32) → Prop) : Nat → Int32 → (Nat → Int32) → Prop
  | 0, _, _ => False
  | n + 1, v7_127, s_127 => wb_X12_right_127 k_s Q (wl_X12_right_127 k_s Q n) v7_127 s_127
def wp_X12_right (p1 : Int32) (p2 : Int32) (p3 : Int32) (p4 : Int32) (p5 : Int32) (k_s : Nat → Int32) (Q : Int32 → (Nat → Int32) → Prop) : Prop := (vp_in ((nI 1310) + (k_s 2)) 6700 ∧ (vp_in ((nI 1360) + (k_s 2)) 6700 ∧ (vp_in ((nI 1410) + (k_s 2)) 6700 ∧ (vp_in ((nI 1460) + (k_s 2)) 6700 ∧ (vp_in ((nI 1510) + (k_s 2)) 6700 ∧ (vp_in ((nI 1660) + (k_s 2)) 6700 ∧ (vp_in ((nI 1760) + (k_s 2)) 6700 ∧ (vp_in ((nI 1810) + (k_s 2)) 6700 ∧ (vp_in ((nI 1860) + (k_s 2)) 6700 ∧ (∃ n, wl_X12_right_127 k_s Q n (nI 0) (upd (upd (upd (upd (upd (upd (upd (upd (upd k_s ((((nI 1310) + (k_s 2))).toNatClampNeg) p1) ((((nI 1360) + (k_s 2))).toNatClampNeg) p2) ((((nI 1410) + (k_s 2))).toNatClampNeg) p3) ((((nI 1460) + (k_s 2))).toNatClampNeg) p4) ((((nI 1510) + (k_s 2))).toNatClampNeg) p5) ((((nI 1660) + (k_s 2))).toNatClampNeg) ((upd (upd (upd (upd (upd k_s ((((nI 1310) + (k_s 2))).toNatClampNeg) p1) ((((nI 1360) + (k_s 2))).toNatClampNeg) p2) ((((nI 1410) + (k_s 2))).toNatClampNeg) p3) ((((nI 1460) + (k_s 2))).toNatClampNeg) p4) ((((nI 1510) + (k_s 2))).toNatClampNeg) p5) 0)) ((((nI 1760) + (k_s 2))).toNatClampNeg) (nI 0)) ((((nI 1810) + (k_s 2))).toNatClampNeg) (-5)) ((((nI 1860) + (k_s 2))).toNatClampNeg) (nI 0))))))))))))
set_option maxHeartbeats 4000000 in
set_option maxRecDepth 100000 in
theorem c_X12_right {l : Launch} {D : va_G} {cI cZ cJ : ClassId} {h : Nat} {ad : Nat → Nat} {sz : Nat} {k_thrown : Int32} {k_s : Nat → Int32} {k_image : Nat → Int32} {k_hasImage : Int32} {k_steps : Nat → Int32} {k_read : Int32} {k_spot : Int32} {k_isWrong : Int32} {k_open : Int32} {k_act : Int32} {k_letBy : Nat → Int32} {k_letStamp : Nat → Int32} {k_stamp : Int32} {k_fallen : Nat → Int32} {k_held : Nat → Int32} {k_stands : Nat → Int32} {k_falling : Nat → Int32} {k_away : Nat → Int32} {k_round : Nat → Int32} {k_rests : Nat → Int64} {k_may : Nat → Int32} {k_next : Nat → Int32} {k_could : Nat → Int32} {k_couldNight : Nat → Int32} {k_night : Int32} {k_seats : Nat → Int32} {p1 : Int32} {p2 : Int32} {p3 : Int32} {p4 : Int32} {p5 : Int32} {Q : Int32 → (Nat → Int32) → Prop} (hw : wp_X12_right p1 p2 p3 p4 p5 k_s Q) : Met l yX12_right (Cond.code yX12_right cX12_right 8 (some .int) :: wsG) ({ frames := 0, cells := 0, slots := 0, locals := 0 } : Room) (preW D (tyM cI cZ cJ) (wM cI cZ cJ h ad k_thrown k_s k_image k_hasImage k_steps k_read k_spot k_isWrong k_open k_act k_letBy k_letStamp k_stamp k_fallen k_held k_stands k_falling k_away k_round k_rests k_may k_next k_could k_couldNight k_night k_seats) sz [.ref h, .int p1, .int p2, .int p3, .int p4, .int p5]) (qi1 D (tyM cI cZ cJ) (va_A (wM cI cZ cJ h ad k_thrown k_s k_image k_hasImage k_steps k_read k_spot k_isWrong k_open k_act k_letBy k_letStamp k_stamp k_fallen k_held k_stands k_falling k_away k_round k_rests k_may k_next k_could k_couldNight k_night k_seats) sz) Q (fun k_s' => (wM cI cZ cJ h ad k_thrown k_s' k_image k_hasImage k_steps k_read k_spot k_isWrong k_open k_act k_letBy k_letStamp k_stamp k_fallen k_held k_stands k_falling k_away k_round k_rests k_may k_next k_could k_couldNight k_night k_seats))) 0 0 (va_A (wM cI cZ cJ h ad k_thrown k_s k_image k_hasImage k_steps k_read k_spot k_isWrong k_open k_act k_letBy k_letStamp k_stamp k_fallen k_held k_stands k_falling k_away k_round k_rests k_may k_next k_could k_couldNight k_night k_seats) sz) := by
  refine st_met (cc := cX12_right) (maxL := 8) (ret := (some .int)) (lv := [(0, .ref h), (1, .int p1), (2, .int p2), (3, .int p3), (4, .int p4), (5, .int p5)]) (Qc := fun A => qi1 D (tyM cI cZ cJ) A Q (fun k_s' => (wM cI cZ cJ h ad k_thrown k_s' k_image k_hasImage k_steps k_read k_spot k_isWrong k_open k_act k_letBy k_letStamp k_stamp k_fallen k_held k_stands k_falling k_away k_round k_rests k_may k_next k_could k_couldNight k_night k_seats))) (by decide) rfl (Nat.le_of_ble_eq_true rfl) rfl ?_
  intro p e s m below meth c ls A R args QQ H locs C hr hlk hnm hK hX hsz hl hO hR hQQ
  have hx := C.1
  have hb := C.2.1
  have hown := C.2.2.2.1
  have hts := C.2.2.2.2
  have hin : ∀ w ∈ u_ws RX12 TX12 26, w ∈ (Cond.code yX12_right cX12_right 8 (some .int) :: wsG) := fun w h9 => List.mem_cons_of_mem _ (inG12 w h9)
  have lk_s := hts (Cond.fieldLink RX12 7 "FreeCityModel" "s" "[I") (List.mem_cons_of_mem _ qw5_207)
  unfold wp_X12_right at hw
  refine lv_aload_n hx hb dX12_right_0 rfl (lv_at hl 0 rfl) ?_
  refine gM_s C hin hK lk_s hO dX12_right_1 ?_
  refine lv_iconst (v := (nI 2)) hx hb dX12_right_4 (by decide) ?_
  refine ldM_s C hK hO (inK 2 6700 (by decide) (by decide)) (clK 2 (by decide)) dX12_right_5 ?_
  refine lv_istore (lv' := [(6, .int (k_s 2)), (0, .ref h), (1, .int p1), (2, .int p2), (3, .int p3), (4, .int p4), (5, .int p5)]) hx hb dX12_right_6 hl (by decide) rfl (fun ls hl => ?_)
  refine lv_aload_n hx hb dX12_right_8 rfl (lv_at hl 1 rfl) ?_
  refine gM_s C hin hK lk_s hO dX12_right_9 ?_
  refine lv_sipush (v := (nI 1310)) hx hb dX12_right_12 (by decide) ?_
  refine lv_iload hx hb dX12_right_15 (lv_at hl 0 rfl) ?_
  refine lv_iadd hx hb dX12_right_17 ?_
  refine lv_iload_n hx hb dX12_right_18 rfl (lv_at hl 2 rfl) ?_
  obtain ⟨o_19, hw⟩ := hw
  refine stM_s C hK hO o_19 rfl dX12_right_19 (fun H locs hO => ?_)
  refine lv_aload_n hx hb dX12_right_20 rfl (lv_at hl 1 rfl) ?_
  refine gM_s C hin hK lk_s hO dX12_right_21 ?_
  refine lv_sipush (v := (nI 1360)) hx hb dX12_right_24 (by decide) ?_
  refine lv_iload hx hb dX12_right_27 (lv_at hl 0 rfl) ?_
  refine lv_iadd hx hb dX12_right_29 ?_
  refine lv_iload_n hx hb dX12_right_30 rfl (lv_at hl 3 rfl) ?_
  obtain ⟨o_31, hw⟩ := hw
  refine stM_s C hK hO o_31 rfl dX12_right_31 (fun H locs hO => ?_)
  refine lv_aload_n hx hb dX12_right_32 rfl (lv_at hl 1 rfl) ?_
  refine gM_s C hin hK lk_s hO dX12_right_33 ?_
  refine lv_sipush (v := (nI 1410)) hx hb dX12_right_36 (by decide) ?_
  refine lv_iload hx hb dX12_right_39 (lv_at hl 0 rfl) ?_
  refine lv_iadd hx hb dX12_right_41 ?_
  refine lv_iload_n hx hb dX12_right_42 rfl (lv_at hl 4 rfl) ?_
  obtain ⟨o_43, hw⟩ := hw
  refine stM_s C hK hO o_43 rfl dX12_right_43 (fun H locs hO => ?_)
  refine lv_aload_n hx hb dX12_right_44 rfl (lv_at hl 1 rfl) ?_
  refine gM_s C hin hK lk_s hO dX12_right_45 ?_
  refine lv_sipush (v := (nI 1460)) hx hb dX12_right_48 (by decide) ?_
  refine lv_iload hx hb dX12_right_51 (lv_at hl 0 rfl) ?_
  refine lv_iadd hx hb dX12_right_53 ?_
  refine lv_iload hx hb dX12_right_54 (lv_at hl 5 rfl) ?_
  obtain ⟨o_56, hw⟩ := hw
  refine stM_s C hK hO o_56 rfl dX12_right_56 (fun H locs hO => ?_)
  refine lv_aload_n hx hb dX12_right_57 rfl (lv_at hl 1 rfl) ?_
  refine gM_s C hin hK lk_s hO dX12_right_58 ?_
  refine lv_sipush (v := (nI 1510)) hx hb dX12_right_61 (by decide) ?_
  refine lv_iload hx hb dX12_right_64 (lv_at hl 0 rfl) ?_
  refine lv_iadd hx hb dX12_right_66 ?_
  refine lv_iload hx hb dX12_right_67 (lv_at hl 6 rfl) ?_
  obtain ⟨o_69, hw⟩ := hw
  refine stM_s C hK hO o_69 rfl dX12_right_69 (fun H locs hO => ?_)
  refine lv_aload_n hx hb dX12_right_70 rfl (lv_at hl 1 rfl) ?_
  refine gM_s C hin hK lk_s hO dX12_right_71 ?_
  refine lv_sipush (v := (nI 1660)) hx hb dX12_right_74 (by decide) ?_
  refine lv_iload hx hb dX12_right_77 (lv_at hl 0 rfl) ?_
  refine lv_iadd hx hb dX12_right_79 ?_
  refine lv_aload_n hx hb dX12_right_80 rfl (lv_at hl 1 rfl) ?_
  refine gM_s C hin hK lk_s hO dX12_right_81 ?_
  refine lv_iconst (v := (nI 0)) hx hb dX12_right_84 (by decide) ?_
  refine ldM_s C hK hO (inK 0 6700 (by decide) (by decide)) (clK 0 (by decide)) dX12_right_85 ?_
  obtain ⟨o_86, hw⟩ := hw
  refine stM_s C hK hO o_86 rfl dX12_right_86 (fun H locs hO => ?_)
  refine lv_aload_n hx hb dX12_right_87 rfl (lv_at hl 1 rfl) ?_
  refine gM_s C hin hK lk_s hO dX12_right_88 ?_
  refine lv_sipush (v := (nI 1760)) hx hb dX12_right_91 (by decide) ?_
  refine lv_iload hx hb dX12_right_94 (lv_at hl 0 rfl) ?_
  refine lv_iadd hx hb dX12_right_96 ?_
  refine lv_iconst (v := (nI 0)) hx hb dX12_right_97 (by decide) ?_
  obtain ⟨o_98, hw⟩ := hw
  refine stM_s C hK hO o_98 rfl dX12_right_98 (fun H locs hO => ?_)
  refine lv_aload_n hx hb dX12_right_99 rfl (lv_at hl 1 rfl) ?_
  refine gM_s C hin hK lk_s hO dX12_right_100 ?_
  refine lv_sipush (v := (nI 1810)) hx hb dX12_right_103 (by decide) ?_
  refine lv_iload hx hb dX12_right_106 (lv_at hl 0 rfl) ?_
  refine lv_iadd hx hb dX12_right_108 ?_
  refine lv_bipush (v := (-5)) hx hb dX12_right_109 (by decide) ?_
  obtain ⟨o_111, hw⟩ := hw
  refine stM_s C hK hO o_111 rfl dX12_right_111 (fun H locs hO => ?_)
  refine lv_aload_n hx hb dX12_right_112 rfl (lv_at hl 1 rfl) ?_
  refine gM_s C hin hK lk_s hO dX12_right_113 ?_
  refine lv_sipush (v := (nI 1860)) hx hb dX12_right_116 (by decide) ?_
  refine lv_iload hx hb dX12_right_119 (lv_at hl 0 rfl) ?_
  refine lv_iadd hx hb dX12_right_121 ?_
  refine lv_iconst (v := (nI 0)) hx hb dX12_right_122 (by decide) ?_
  obtain ⟨o_123, hw⟩ := hw
  refine stM_s C hK hO o_123 rfl dX12_right_123 (fun H locs hO => ?_)
  refine lv_iconst (v := (nI 0)) hx hb dX12_right_124 (by decide) ?_
  refine lv_istore (lv' := [(7, .int (nI 0)), (6, .int (k_s 2)), (0, .ref h), (1, .int p1), (2, .int p2), (3, .int p3), (4, .int p4), (5, .int p5)]) hx hb dX12_right_125 hl (by decide) rfl (fun ls hl => ?_)
  obtain ⟨n_127, hw⟩ := hw
  have b_127 : ∀ (L_127 : Int32 → (Nat → Int32) → Prop) (ih_127 : ∀ (v7_127 : Int32) (s_127 : Nat → Int32) (H : Heap) (locs : List Loc) (ls : Array Slot), okW D A s.heap H locs (wM cI cZ cJ h ad k_thrown s_127 k_image k_hasImage k_steps k_read k_spot k_isWrong k_open k_act k_letBy k_letStamp k_stamp k_fallen k_held k_stands k_falling k_away k_round k_rests k_may k_next k_could k_couldNight k_night k_seats) → lv_has ls 8 [(0, .ref h), (6, .int (k_s 2)), (7, .int v7_127)] → L_127 v7_127 s_127 → W p l e R s m args below meth c H locs 0 0 QQ (F0 m 127 ls [])) (v7_127 : Int32) (s_127 : Nat → Int32) (H : Heap) (locs : List Loc) (ls : Array Slot), okW D A s.heap H locs (wM cI cZ cJ h ad k_thrown s_127 k_image k_hasImage k_steps k_read k_spot k_isWrong k_open k_act k_letBy k_letStamp k_stamp k_fallen k_held k_stands k_falling k_away k_round k_rests k_may k_next k_could k_couldNight k_night k_seats) → lv_has ls 8 [(0, .ref h), (6, .int (k_s 2)), (7, .int v7_127)] → wb_X12_right_127 k_s Q L_127 v7_127 s_127 → W p l e R s m args below meth c H locs 0 0 QQ (F0 m 127 ls []) := by
    intro L_127 ih_127 v7_127 s_127 H locs ls hO hl hw
    unfold wb_X12_right_127 at hw
    refine lv_iload hx hb dX12_right_127 (lv_at hl 2 rfl) ?_
    refine lv_bipush (v := (nI 50)) hx hb dX12_right_129 (by decide) ?_
    refine lv_icmp_ge (tgt := 176) hx hb dX12_right_131 (by decide) (fun q_131 => ?_) (fun q_131 => ?_)
    · have hw := hw.1 q_131
      refine lv_aload_n hx hb dX12_right_176 rfl (lv_at hl 0 rfl) ?_
      refine gM_s C hin hK lk_s hO dX12_right_177 ?_
      refine lv_iconst (v := (nI 2)) hx hb dX12_right_180 (by decide) ?_
      refine lv_dup2_11 hx hb dX12_right_181 rfl rfl ?_
      refine ldM_s C hK hO (inK 2 6700 (by decide) (by decide)) (clK 2 (by decide)) dX12_right_182 ?_
      refine lv_iconst (v := (nI 1)) hx hb dX12_right_183 (by decide) ?_
      refine lv_iadd hx hb dX12_right_184 ?_
      refine stM_s C hK hO (inK 2 6700 (by decide) (by decide)) (clK 2 (by decide)) dX12_right_185 (fun H locs hO => ?_)
      refine lv_iload hx hb dX12_right_186 (lv_at hl 1 rfl) ?_
      exact ri1 hQQ hx hb hr hlk hK hO hw dX12_right_188
    · have hw := hw.2 q_131
      refine lv_aload_n hx hb dX12_right_134 rfl (lv_at hl 0 rfl) ?_
      refine gM_s C hin hK lk_s hO dX12_right_135 ?_
      refine lv_sipush (v := (nI 1910)) hx hb dX12_right_138 (by decide) ?_
      refine lv_bipush (v := (nI 50)) hx hb dX12_right_141 (by decide) ?_
      refine lv_iload hx hb dX12_right_143 (lv_at hl 1 rfl) ?_
      refine lv_imul hx hb dX12_right_145 ?_
      refine lv_iadd hx hb dX12_right_146 ?_
      refine lv_iload hx hb dX12_right_147 (lv_at hl 2 rfl) ?_
      refine lv_iadd hx hb dX12_right_149 ?_
      refine lv_iconst (v := (nI 0)) hx hb dX12_right_150 (by decide) ?_
      obtain ⟨o_151, hw⟩ := hw
      refine stM_s C hK hO o_151 rfl dX12_right_151 (fun H locs hO => ?_)
      refine lv_aload_n hx hb dX12_right_152 rfl (lv_at hl 0 rfl) ?_
      refine gM_s C hin hK lk_s hO dX12_right_153 ?_
      refine lv_sipush (v := (nI 1910)) hx hb dX12_right_156 (by decide) ?_
      refine lv_bipush (v := (nI 50)) hx hb dX12_right_159 (by decide) ?_
      refine lv_iload hx hb dX12_right_161 (lv_at hl 2 rfl) ?_
      refine lv_imul hx hb dX12_right_163 ?_
      refine lv_iadd hx hb dX12_right_164 ?_
      refine lv_iload hx hb dX12_right_165 (lv_at hl 1 rfl) ?_
      refine lv_iadd hx hb dX12_right_167 ?_
      refine lv_iconst (v := (nI 0)) hx hb dX12_right_168 (by decide) ?_
      obtain ⟨o_169, hw⟩ := hw
      refine stM_s C hK hO o_169 rfl dX12_right_169 (fun H locs hO => ?_)
      refine lv_iinc (v := (v7_127 + (nI 1))) (lv' := [(7, .int (v7_127 + (nI 1))), (0, .ref h), (6, .int (k_s 2))]) hx hb dX12_right_170 hl (k := 2) rfl (iinc_1 _) (by decide) rfl (fun ls hl => ?_)
      refine lv_goto (tgt := 127) hx hb dX12_right_173 (by decide) ?_
      exact ih_127 (v7_127 + (nI 1)) (upd (upd s_127 (((((nI 1910) + ((nI 50) * (k_s 2))) + v7_127)).toNatClampNeg) (nI 0)) (((((nI 1910) + ((nI 50) * v7_127)) + (k_s 2))).toNatClampNeg) (nI 0)) _ _ _ hO (lv_sub hl [1, 2, 0] rfl) hw
  have l_127 : ∀ (n : Nat) (v7_127 : Int32) (s_127 : Nat → Int32) (H : Heap) (locs : List Loc) (ls : Array Slot), okW D A s.heap H locs (wM cI cZ cJ h ad k_thrown s_127 k_image k_hasImage k_steps k_read k_spot k_isWrong k_open k_act k_letBy k_letStamp k_stamp k_fallen k_held k_stands k_falling k_away k_round k_rests k_may k_next k_could k_couldNight k_night k_seats) → lv_has ls 8 [(0, .ref h), (6, .int (k_s 2)), (7, .int v7_127)] → wl_X12_right_127 k_s Q n v7_127 s_127 → W p l e R s m args below meth c H locs 0 0 QQ (F0 m 127 ls []) := by
    intro n
    induction n with
    | zero => intro v7_127 s_127 H locs ls hO hl hw; exact False.elim hw
    | succ n ih => exact b_127 _ ih
  exact l_127 n_127 (nI 0) (upd (upd (upd (upd (upd (upd (upd (upd (upd k_s ((((nI 1310) + (k_s 2))).toNatClampNeg) p1) ((((nI 1360) + (k_s 2))).toNatClampNeg) p2) ((((nI 1410) + (k_s 2))).toNatClampNeg) p3) ((((nI 1460) + (k_s 2))).toNatClampNeg) p4) ((((nI 1510) + (k_s 2))).toNatClampNeg) p5) ((((nI 1660) + (k_s 2))).toNatClampNeg) ((upd (upd (upd (upd (upd k_s ((((nI 1310) + (k_s 2))).toNatClampNeg) p1) ((((nI 1360) + (k_s 2))).toNatClampNeg) p2) ((((nI 1410) + (k_s 2))).toNatClampNeg) p3) ((((nI 1460) + (k_s 2))).toNatClampNeg) p4) ((((nI 1510) + (k_s 2))).toNatClampNeg) p5) 0)) ((((nI 1760) + (k_s 2))).toNatClampNeg) (nI 0)) ((((nI 1810) + (k_s 2))).toNatClampNeg) (-5)) ((((nI 1860) + (k_s 2))).toNatClampNeg) (nI 0)) _ _ _ hO (lv_sub hl [2, 1, 0] rfl) hw
theorem gd_X12_183 {a : Cond} : GoodIn (a :: wsG) (wsV RX12 183 RX12 yX12_right (Cond.code yX12_right cX12_right 8 (some .int) :: wsG)) := gdV qw6_190 qw6_192 qs_55 qw1_12 qw6_193
theorem hd_X12_right : yX12_right.cls = RX12 ∧ yX12_right.cls ≠ "java/lang/invoke/MethodHandle" ∧ yX12_right.cls ≠ "java/lang/invoke/VarHandle" ∧ (parseMethodDescriptor yX12_right.desc).map (fun d => d.parameters.length) = some 5 := by decide +kernel
def wp_X12_use (p1 : Int32) (p2 : Int32) (p3 : Int32) (p4 : Int32) (k_s : Nat → Int32) (Q : Int32 → (Nat → Int32) → Prop) : Prop := ((((f_X12_in p1 (nI 1) (nI 3)) = 0 ∨ ((f_X12_in p2 (nI 0) (nI 2)) = 0 ∨ ((f_X12_isSpot p3) = 0 ∨ (f_X12_in p4 (nI 0) (nI 4)) = 0))) → (Q (-1) k_s)) ∧ (¬ (((f_X12_in p1 (nI 1) (nI 3)) = 0 ∨ ((f_X12_in p2 (nI 0) (nI 2)) = 0 ∨ ((f_X12_isSpot p3) = 0 ∨ (f_X12_in p4 (nI 0) (nI 4)) = 0)))) → ((¬ (k_s 2) = (nI 50) → (wp_X12_right p1 p2 p3 p4 (p3 + p4) k_s (fun (r_63 : Int32) (s_63 : Nat → Int32) => (Q r_63 s_63)))) ∧ ((k_s 2) = (nI 50) → (Q (-4) k_s)))))
set_option maxHeartbeats 4000000 in
set_option maxRecDepth 100000 in
theorem c_X12_use {l : Launch} {D : va_G} {cI cZ cJ : ClassId} {h : Nat} {ad : Nat → Nat} {sz : Nat} {k_thrown : Int32} {k_s : Nat → Int32} {k_image : Nat → Int32} {k_hasImage : Int32} {k_steps : Nat → Int32} {k_read : Int32} {k_spot : Int32} {k_isWrong : Int32} {k_open : Int32} {k_act : Int32} {k_letBy : Nat → Int32} {k_letStamp : Nat → Int32} {k_stamp : Int32} {k_fallen : Nat → Int32} {k_held : Nat → Int32} {k_stands : Nat → Int32} {k_falling : Nat → Int32} {k_away : Nat → Int32} {k_round : Nat → Int32} {k_rests : Nat → Int64} {k_may : Nat → Int32} {k_next : Nat → Int32} {k_could : Nat → Int32} {k_couldNight : Nat → Int32} {k_night : Int32} {k_seats : Nat → Int32} {p1 : Int32} {p2 : Int32} {p3 : Int32} {p4 : Int32} {Q : Int32 → (Nat → Int32) → Prop} (hw : wp_X12_use p1 p2 p3 p4 k_s Q) : Met l yX12_use (Cond.code yX12_use cX12_use 5 (some .int) :: wsG) ({ frames := 2, cells := 0, slots := 0, locals := 42 } : Room) (preW D (tyM cI cZ cJ) (wM cI cZ cJ h ad k_thrown k_s k_image k_hasImage k_steps k_read k_spot k_isWrong k_open k_act k_letBy k_letStamp k_stamp k_fallen k_held k_stands k_falling k_away k_round k_rests k_may k_next k_could k_couldNight k_night k_seats) sz [.ref h, .int p1, .int p2, .int p3, .int p4]) (qi1 D (tyM cI cZ cJ) (va_A (wM cI cZ cJ h ad k_thrown k_s k_image k_hasImage k_steps k_read k_spot k_isWrong k_open k_act k_letBy k_letStamp k_stamp k_fallen k_held k_stands k_falling k_away k_round k_rests k_may k_next k_could k_couldNight k_night k_seats) sz) Q (fun k_s' => (wM cI cZ cJ h ad k_thrown k_s' k_image k_hasImage k_steps k_read k_spot k_isWrong k_open k_act k_letBy k_letStamp k_stamp k_fallen k_held k_stands k_falling k_away k_round k_rests k_may k_next k_could k_couldNight k_night k_seats))) 0 0 (va_A (wM cI cZ cJ h ad k_thrown k_s k_image k_hasImage k_steps k_read k_spot k_isWrong k_open k_act k_letBy k_letStamp k_stamp k_fallen k_held k_stands k_falling k_away k_round k_rests k_may k_next k_could k_couldNight k_night k_seats) sz) := by
  refine st_met (cc := cX12_use) (maxL := 5) (ret := (some .int)) (lv := [(0, .ref h), (1, .int p1), (2, .int p2), (3, .int p3), (4, .int p4)]) (Qc := fun A => qi1 D (tyM cI cZ cJ) A Q (fun k_s' => (wM cI cZ cJ h ad k_thrown k_s' k_image k_hasImage k_steps k_read k_spot k_isWrong k_open k_act k_letBy k_letStamp k_stamp k_fallen k_held k_stands k_falling k_away k_round k_rests k_may k_next k_could k_couldNight k_night k_seats))) (by decide) rfl (Nat.le_of_ble_eq_true rfl) rfl ?_
  intro p e s m below meth c ls A R args QQ H locs C hr hlk hnm hK hX hsz hl hO hR hQQ
  have hx := C.1
  have hb := C.2.1
  have hown := C.2.2.2.1
  have hts := C.2.2.2.2
  have hin : ∀ w ∈ u_ws RX12 TX12 26, w ∈ (Cond.code yX12_use cX12_use 5 (some .int) :: wsG) := fun w h9 => List.mem_cons_of_mem _ (inG12 w h9)
  have lk_s := hts (Cond.fieldLink RX12 7 "FreeCityModel" "s" "[I") (List.mem_cons_of_mem _ qw5_207)
  unfold wp_X12_use at hw
  refine lv_iload_n hx hb dX12_use_0 rfl (lv_at hl 1 rfl) ?_
  refine lv_iconst (v := (nI 1)) hx hb dX12_use_1 (by decide) ?_
  refine lv_iconst (v := (nI 3)) hx hb dX12_use_2 (by decide) ?_
  refine cSi0 (As := [.int p1, .int (nI 1), .int (nI 3)]) (rest := []) C hK hX hO (c_X12_in (l := l)) (va_cwS 3 hts gd_X12_74 rfl rfl rfl hd_X12_in (rok hR (Nat.le_of_ble_eq_true rfl) (Nat.le_of_ble_eq_true rfl))) rfl hl.1 rfl (Nat.le_of_ble_eq_true rfl) dX12_use_3 ⟨Nat.zero_le _, Nat.zero_le _⟩ (fun r_3 H locs e_3 hO => ?_)
  subst e_3
  have a_35 : ((f_X12_in p1 (nI 1) (nI 3)) = 0 ∨ ((f_X12_in p2 (nI 0) (nI 2)) = 0 ∨ ((f_X12_isSpot p3) = 0 ∨ (f_X12_in p4 (nI 0) (nI 4)) = 0))) → ∀ (H : Heap) (locs : List Loc) (ls : Array Slot), okW D A s.heap H locs (wM cI cZ cJ h ad k_thrown k_s k_image k_hasImage k_steps k_read k_spot k_isWrong k_open k_act k_letBy k_letStamp k_stamp k_fallen k_held k_stands k_falling k_away k_round k_rests k_may k_next k_could k_couldNight k_night k_seats) → lv_has ls 5 [] → W p l e R s m args below meth c H locs 0 0 QQ (F0 m 35 ls []) := by
    intro cf H locs ls hO hl
    have hw := hw.1 cf
    refine lv_iconst (v := (-1)) hx hb dX12_use_35 (by decide) ?_
    exact ri1 hQQ hx hb hr hlk hK hO hw dX12_use_36
  have a_37 : ¬ (((f_X12_in p1 (nI 1) (nI 3)) = 0 ∨ ((f_X12_in p2 (nI 0) (nI 2)) = 0 ∨ ((f_X12_isSpot p3) = 0 ∨ (f_X12_in p4 (nI 0) (nI 4)) = 0)))) → ∀ (H : Heap) (locs : List Loc) (ls : Array Slot), okW D A s.heap H locs (wM cI cZ cJ h ad k_thrown k_s k_image k_hasImage k_steps k_read k_spot k_isWrong k_open k_act k_letBy k_letStamp k_stamp k_fallen k_held k_stands k_falling k_away k_round k_rests k_may k_next k_could k_couldNight k_night k_seats) → lv_has ls 5 [(0, .ref h), (1, .int p1), (2, .int p2), (3, .int p3), (4, .int p4)] → W p l e R s m args below meth c H locs 0 0 QQ (F0 m 37 ls []) := by
    intro cf H locs ls hO hl
    have hw := hw.2 cf
    refine lv_aload_n hx hb dX12_use_37 rfl (lv_at hl 0 rfl) ?_
    refine gM_s C hin hK lk_s hO dX12_use_38 ?_
    refine lv_iconst (v := (nI 2)) hx hb dX12_use_41 (by decide) ?_
    refine ldM_s C hK hO (inK 2 6700 (by decide) (by decide)) (clK 2 (by decide)) dX12_use_42 ?_
    refine lv_bipush (v := (nI 50)) hx hb dX12_use_43 (by decide) ?_
    refine lv_icmp_ne (tgt := 53) hx hb dX12_use_45 (by decide) (fun q_45 => ?_) (fun q_45 => ?_)
    · have hw := hw.1 q_45
      refine lv_aload_n hx hb dX12_use_53 rfl (lv_at hl 0 rfl) ?_
      refine lv_iload_n hx hb dX12_use_54 rfl (lv_at hl 1 rfl) ?_
      refine lv_iload_n hx hb dX12_use_55 rfl (lv_at hl 2 rfl) ?_
      refine lv_iload_n hx hb dX12_use_56 rfl (lv_at hl 3 rfl) ?_
      refine lv_iload hx hb dX12_use_57 (lv_at hl 4 rfl) ?_
      refine lv_iload_n hx hb dX12_use_59 rfl (lv_at hl 3 rfl) ?_
      refine lv_iload hx hb dX12_use_60 (lv_at hl 4 rfl) ?_
      refine lv_iadd hx hb dX12_use_62 ?_
      refine cVi1 (As := [.int p1, .int p2, .int p3, .int p4, .int (p3 + p4)]) (rest := []) C hK hX hO (c_X12_right (l := l) hw) (cwV 5 hts gd_X12_183 rfl rfl rfl hd_X12_right (rok hR (Nat.le_of_ble_eq_true rfl) (Nat.le_of_ble_eq_true rfl))) (ci := 12) (q0 := 0) rfl rfl rfl rfl hl.1 rfl (Nat.le_of_ble_eq_true rfl) dX12_use_63 ⟨Nat.zero_le _, Nat.zero_le _⟩ (fun r_63 s_63 H locs hw hO => ?_)
      exact ri1 hQQ hx hb hr hlk hK hO hw dX12_use_66
    · have hw := hw.2 q_45
      refine lv_bipush (v := (-4)) hx hb dX12_use_48 (by decide) ?_
      refine lv_goto (tgt := 66) hx hb dX12_use_50 (by decide) ?_
      exact ri1 hQQ hx hb hr hlk hK hO hw dX12_use_66
  refine lv_if_eq (tgt := 35) hx hb dX12_use_6 (by decide) (fun q_6 => ?_) (fun q_6 => ?_)
  · have hl := lv_sub hl [] rfl (l' := [])
    exact a_35 (Or.inl q_6) _ _ _ hO hl
  · refine lv_iload_n hx hb dX12_use_9 rfl (lv_at hl 2 rfl) ?_
    refine lv_iconst (v := (nI 0)) hx hb dX12_use_10 (by decide) ?_
    refine lv_iconst (v := (nI 2)) hx hb dX12_use_11 (by decide) ?_
    refine cSi0 (As := [.int p2, .int (nI 0), .int (nI 2)]) (rest := []) C hK hX hO (c_X12_in (l := l)) (va_cwS 3 hts gd_X12_74 rfl rfl rfl hd_X12_in (rok hR (Nat.le_of_ble_eq_true rfl) (Nat.le_of_ble_eq_true rfl))) rfl hl.1 rfl (Nat.le_of_ble_eq_true rfl) dX12_use_12 ⟨Nat.zero_le _, Nat.zero_le _⟩ (fun r_12 H locs e_12 hO => ?_)
    subst e_12
    refine lv_if_eq (tgt := 35) hx hb dX12_use_15 (by decide) (fun q_15 => ?_) (fun q_15 => ?_)
    · have hl := lv_sub hl [] rfl (l' := [])
      exact a_35 (Or.inr (Or.inl q_15)) _ _ _ hO hl
    · refine lv_iload_n hx hb dX12_use_18 rfl (lv_at hl 3 rfl) ?_
      refine cSi0 (As := [.int p3]) (rest := []) C hK hX hO (c_X12_isSpot (l := l)) (va_cwS 1 hts gd_X12_78 rfl rfl rfl hd_X12_isSpot (rok hR (Nat.le_of_ble_eq_true rfl) (Nat.le_of_ble_eq_true rfl))) rfl hl.1 rfl (Nat.le_of_ble_eq_true rfl) dX12_use_19 ⟨Nat.zero_le _, Nat.zero_le _⟩ (fun r_19 H locs e_19 hO => ?_)
      subst e_19
      refine lv_if_eq (tgt := 35) hx hb dX12_use_22 (by decide) (fun q_22 => ?_) (fun q_22 => ?_)
      · have hl := lv_sub hl [] rfl (l' := [])
        exact a_35 (Or.inr (Or.inr (Or.inl q_22))) _ _ _ hO hl
      · refine lv_iload hx hb dX12_use_25 (lv_at hl 4 rfl) ?_
        refine lv_iconst (v := (nI 0)) hx hb dX12_use_27 (by decide) ?_
        refine lv_iconst (v := (nI 4)) hx hb dX12_use_28 (by decide) ?_
        refine cSi0 (As := [.int p4, .int (nI 0), .int (nI 4)]) (rest := []) C hK hX hO (c_X12_in (l := l)) (va_cwS 3 hts gd_X12_74 rfl rfl rfl hd_X12_in (rok hR (Nat.le_of_ble_eq_true rfl) (Nat.le_of_ble_eq_true rfl))) rfl hl.1 rfl (Nat.le_of_ble_eq_true rfl) dX12_use_29 ⟨Nat.zero_le _, Nat.zero_le _⟩ (fun r_29 H locs e_29 hO => ?_)
        subst e_29
        refine lv_if_ne (tgt := 37) hx hb dX12_use_32 (by decide) (fun q_32 => ?_) (fun q_32 => ?_)
        · have hl := lv_sub hl [0, 1, 2, 3, 4] rfl (l' := [(0, .ref h), (1, .int p1), (2, .int p2), (3, .int p3), (4, .int p4)])
          exact a_37 (fun h => h.elim q_6 (fun h => h.elim q_15 (fun h => h.elim q_22 q_32))) _ _ _ hO hl
        · have hl := lv_sub hl [] rfl (l' := [])
          exact a_35 (Or.inr (Or.inr (Or.inr q_32))) _ _ _ hO hl
def wp_X12_quota (p1 : Int32) (p2 : Int32) (p3 : Int32) (k_s : Nat → Int32) (Q : Int32 → (Nat → Int32) → Prop) : Prop := ((((f_X12_in p1 (nI 4) (nI 5)) = 0 ∨ (f_X12_in p2 (nI 0) (nI 2)) = 0) → (Q (-1) k_s)) ∧ (¬ (((f_X12_in p1 (nI 4) (nI 5)) = 0 ∨ (f_X12_in p2 (nI 0) (nI 2)) = 0)) → ((¬ (f_X12_in p3 (nI 0) (nI 9999)) = 0 → ((¬ (k_s 2) = (nI 50) → (((¬ p1 = (nI 5) → (vp_in ((nI 72) + p2) 6700))) ∧ (∀ y2_74 : Int32, y2_74 = (if p1 = (nI 5) then p3 else (k_s (((nI 72) + p2)).toNatClampNeg)) → (vp_in ((nI 72) + p2) 6700 ∧ (wp_X12_right p1 p2 (-1) (-1) p3 (upd k_s ((((nI 72) + p2)).toNatClampNeg) y2_74) (fun (r_81 : Int32) (s_81 : Nat → Int32) => (Q r_81 s_81))))))) ∧ ((k_s 2) = (nI 50) → (Q (-4) k_s)))) ∧ ((f_X12_in p3 (nI 0) (nI 9999)) = 0 → (Q (-2) k_s)))))
set_option maxHeartbeats 4000000 in
set_option maxRecDepth 100000 in
theorem c_X12_quota {l : Launch} {D : va_G} {cI cZ cJ : ClassId} {h : Nat} {ad : Nat → Nat} {sz : Nat} {k_thrown : Int32} {k_s : Nat → Int32} {k_image : Nat → Int32} {k_hasImage : Int32} {k_steps : Nat → Int32} {k_read : Int32} {k_spot : Int32} {k_isWrong : Int32} {k_open : Int32} {k_act : Int32} {k_letBy : Nat → Int32} {k_letStamp : Nat → Int32} {k_stamp : Int32} {k_fallen : Nat → Int32} {k_held : Nat → Int32} {k_stands : Nat → Int32} {k_falling : Nat → Int32} {k_away : Nat → Int32} {k_round : Nat → Int32} {k_rests : Nat → Int64} {k_may : Nat → Int32} {k_next : Nat → Int32} {k_could : Nat → Int32} {k_couldNight : Nat → Int32} {k_night : Int32} {k_seats : Nat → Int32} {p1 : Int32} {p2 : Int32} {p3 : Int32} {Q : Int32 → (Nat → Int32) → Prop} (hw : wp_X12_quota p1 p2 p3 k_s Q) : Met l yX12_quota (Cond.code yX12_quota cX12_quota 4 (some .int) :: wsG) ({ frames := 1, cells := 0, slots := 0, locals := 27 } : Room) (preW D (tyM cI cZ cJ) (wM cI cZ cJ h ad k_thrown k_s k_image k_hasImage k_steps k_read k_spot k_isWrong k_open k_act k_letBy k_letStamp k_stamp k_fallen k_held k_stands k_falling k_away k_round k_rests k_may k_next k_could k_couldNight k_night k_seats) sz [.ref h, .int p1, .int p2, .int p3]) (qi1 D (tyM cI cZ cJ) (va_A (wM cI cZ cJ h ad k_thrown k_s k_image k_hasImage k_steps k_read k_spot k_isWrong k_open k_act k_letBy k_letStamp k_stamp k_fallen k_held k_stands k_falling k_away k_round k_rests k_may k_next k_could k_couldNight k_night k_seats) sz) Q (fun k_s' => (wM cI cZ cJ h ad k_thrown k_s' k_image k_hasImage k_steps k_read k_spot k_isWrong k_open k_act k_letBy k_letStamp k_stamp k_fallen k_held k_stands k_falling k_away k_round k_rests k_may k_next k_could k_couldNight k_night k_seats))) 0 0 (va_A (wM cI cZ cJ h ad k_thrown k_s k_image k_hasImage k_steps k_read k_spot k_isWrong k_open k_act k_letBy k_letStamp k_stamp k_fallen k_held k_stands k_falling k_away k_round k_rests k_may k_next k_could k_couldNight k_night k_seats) sz) := by
  refine st_met (cc := cX12_quota) (maxL := 4) (ret := (some .int)) (lv := [(0, .ref h), (1, .int p1), (2, .int p2), (3, .int p3)]) (Qc := fun A => qi1 D (tyM cI cZ cJ) A Q (fun k_s' => (wM cI cZ cJ h ad k_thrown k_s' k_image k_hasImage k_steps k_read k_spot k_isWrong k_open k_act k_letBy k_letStamp k_stamp k_fallen k_held k_stands k_falling k_away k_round k_rests k_may k_next k_could k_couldNight k_night k_seats))) (by decide) rfl (Nat.le_of_ble_eq_true rfl) rfl ?_
  intro p e s m below meth c ls A R args QQ H locs C hr hlk hnm hK hX hsz hl hO hR hQQ
  have hx := C.1
  have hb := C.2.1
  have hown := C.2.2.2.1
  have hts := C.2.2.2.2
  have hin : ∀ w ∈ u_ws RX12 TX12 26, w ∈ (Cond.code yX12_quota cX12_quota 4 (some .int) :: wsG) := fun w h9 => List.mem_cons_of_mem _ (inG12 w h9)
  have lk_s := hts (Cond.fieldLink RX12 7 "FreeCityModel" "s" "[I") (List.mem_cons_of_mem _ qw5_207)
  unfold wp_X12_quota at hw
  refine lv_iload_n hx hb dX12_quota_0 rfl (lv_at hl 1 rfl) ?_
  refine lv_iconst (v := (nI 4)) hx hb dX12_quota_1 (by decide) ?_
  refine lv_iconst (v := (nI 5)) hx hb dX12_quota_2 (by decide) ?_
  refine cSi0 (As := [.int p1, .int (nI 4), .int (nI 5)]) (rest := []) C hK hX hO (c_X12_in (l := l)) (va_cwS 3 hts gd_X12_74 rfl rfl rfl hd_X12_in (rok hR (Nat.le_of_ble_eq_true rfl) (Nat.le_of_ble_eq_true rfl))) rfl hl.1 rfl (Nat.le_of_ble_eq_true rfl) dX12_quota_3 ⟨Nat.zero_le _, Nat.zero_le _⟩ (fun r_3 H locs e_3 hO => ?_)
  subst e_3
  have a_18 : ((f_X12_in p1 (nI 4) (nI 5)) = 0 ∨ (f_X12_in p2 (nI 0) (nI 2)) = 0) → ∀ (H : Heap) (locs : List Loc) (ls : Array Slot), okW D A s.heap H locs (wM cI cZ cJ h ad k_thrown k_s k_image k_hasImage k_steps k_read k_spot k_isWrong k_open k_act k_letBy k_letStamp k_stamp k_fallen k_held k_stands k_falling k_away k_round k_rests k_may k_next k_could k_couldNight k_night k_seats) → lv_has ls 4 [] → W p l e R s m args below meth c H locs 0 0 QQ (F0 m 18 ls []) := by
    intro cf H locs ls hO hl
    have hw := hw.1 cf
    refine lv_iconst (v := (-1)) hx hb dX12_quota_18 (by decide) ?_
    exact ri1 hQQ hx hb hr hlk hK hO hw dX12_quota_19
  have a_20 : ¬ (((f_X12_in p1 (nI 4) (nI 5)) = 0 ∨ (f_X12_in p2 (nI 0) (nI 2)) = 0)) → ∀ (H : Heap) (locs : List Loc) (ls : Array Slot), okW D A s.heap H locs (wM cI cZ cJ h ad k_thrown k_s k_image k_hasImage k_steps k_read k_spot k_isWrong k_open k_act k_letBy k_letStamp k_stamp k_fallen k_held k_stands k_falling k_away k_round k_rests k_may k_next k_could k_couldNight k_night k_seats) → lv_has ls 4 [(0, .ref h), (1, .int p1), (2, .int p2), (3, .int p3)] → W p l e R s m args below meth c H locs 0 0 QQ (F0 m 20 ls []) := by
    intro cf H locs ls hO hl
    have hw := hw.2 cf
    refine lv_iload_n hx hb dX12_quota_20 rfl (lv_at hl 3 rfl) ?_
    refine lv_iconst (v := (nI 0)) hx hb dX12_quota_21 (by decide) ?_
    refine lv_sipush (v := (nI 9999)) hx hb dX12_quota_22 (by decide) ?_
    refine cSi0 (As := [.int p3, .int (nI 0), .int (nI 9999)]) (rest := []) C hK hX hO (c_X12_in (l := l)) (va_cwS 3 hts gd_X12_74 rfl rfl rfl hd_X12_in (rok hR (Nat.le_of_ble_eq_true rfl) (Nat.le_of_ble_eq_true rfl))) rfl hl.1 rfl (Nat.le_of_ble_eq_true rfl) dX12_quota_25 ⟨Nat.zero_le _, Nat.zero_le _⟩ (fun r_25 H locs e_25 hO => ?_)
    subst e_25
    refine lv_if_ne (tgt := 34) hx hb dX12_quota_28 (by decide) (fun q_28 => ?_) (fun q_28 => ?_)
    · have hw := hw.1 q_28
      refine lv_aload_n hx hb dX12_quota_34 rfl (lv_at hl 0 rfl) ?_
      refine gM_s C hin hK lk_s hO dX12_quota_35 ?_
      refine lv_iconst (v := (nI 2)) hx hb dX12_quota_38 (by decide) ?_
      refine ldM_s C hK hO (inK 2 6700 (by decide) (by decide)) (clK 2 (by decide)) dX12_quota_39 ?_
      refine lv_bipush (v := (nI 50)) hx hb dX12_quota_40 (by decide) ?_
      refine lv_icmp_ne (tgt := 48) hx hb dX12_quota_42 (by decide) (fun q_42 => ?_) (fun q_42 => ?_)
      · have hw := hw.1 q_42
        refine lv_aload_n hx hb dX12_quota_48 rfl (lv_at hl 0 rfl) ?_
        refine gM_s C hin hK lk_s hO dX12_quota_49 ?_
        refine lv_bipush (v := (nI 72)) hx hb dX12_quota_52 (by decide) ?_
        refine lv_iload_n hx hb dX12_quota_54 rfl (lv_at hl 2 rfl) ?_
        refine lv_iadd hx hb dX12_quota_55 ?_
        refine lv_iload_n hx hb dX12_quota_56 rfl (lv_at hl 1 rfl) ?_
        refine lv_iconst (v := (nI 5)) hx hb dX12_quota_57 (by decide) ?_
        obtain ⟨hs, hw⟩ := hw
        have m_74 : ∀ (y2_74 : Int32) (H : Heap) (locs : List Loc) (ls : Array Slot), y2_74 = (if p1 = (nI 5) then p3 else (k_s (((nI 72) + p2)).toNatClampNeg)) → okW D A s.heap H locs (wM cI cZ cJ h ad k_thrown k_s k_image k_hasImage k_steps k_read k_spot k_isWrong k_open k_act k_letBy k_letStamp k_stamp k_fallen k_held k_stands k_falling k_away k_round k_rests k_may k_next k_could k_couldNight k_night k_seats) → lv_has ls 4 [(0, .ref h), (1, .int p1), (2, .int p2), (3, .int p3)] → W p l e R s m args below meth c H locs 0 0 QQ (F0 m 74 ls [.int y2_74, .int ((nI 72) + p2), .ref (ad 1)]) := by
          intro y2_74 H locs ls ey2_74 hO hl
          have hw := hw y2_74 ey2_74
          obtain ⟨o_74, hw⟩ := hw
          refine stM_s C hK hO o_74 rfl dX12_quota_74 (fun H locs hO => ?_)
          refine lv_aload_n hx hb dX12_quota_75 rfl (lv_at hl 0 rfl) ?_
          refine lv_iload_n hx hb dX12_quota_76 rfl (lv_at hl 1 rfl) ?_
          refine lv_iload_n hx hb dX12_quota_77 rfl (lv_at hl 2 rfl) ?_
          refine lv_iconst (v := (-1)) hx hb dX12_quota_78 (by decide) ?_
          refine lv_iconst (v := (-1)) hx hb dX12_quota_79 (by decide) ?_
          refine lv_iload_n hx hb dX12_quota_80 rfl (lv_at hl 3 rfl) ?_
          refine cVi1 (As := [.int p1, .int p2, .int (-1), .int (-1), .int p3]) (rest := []) C hK hX hO (c_X12_right (l := l) hw) (cwV 5 hts gd_X12_183 rfl rfl rfl hd_X12_right (rok hR (Nat.le_of_ble_eq_true rfl) (Nat.le_of_ble_eq_true rfl))) (ci := 12) (q0 := 0) rfl rfl rfl rfl hl.1 rfl (Nat.le_of_ble_eq_true rfl) dX12_quota_81 ⟨Nat.zero_le _, Nat.zero_le _⟩ (fun r_81 s_81 H locs hw hO => ?_)
          exact ri1 hQQ hx hb hr hlk hK hO hw dX12_quota_84
        refine lv_icmp_ne (tgt := 65) hx hb dX12_quota_58 (by decide) (fun q_58 => ?_) (fun q_58 => ?_)
        · have hs := hs q_58
          have o_73 := hs
          refine lv_aload_n hx hb dX12_quota_65 rfl (lv_at hl 0 rfl) ?_
          refine gM_s C hin hK lk_s hO dX12_quota_66 ?_
          refine lv_bipush (v := (nI 72)) hx hb dX12_quota_69 (by decide) ?_
          refine lv_iload_n hx hb dX12_quota_71 rfl (lv_at hl 2 rfl) ?_
          refine lv_iadd hx hb dX12_quota_72 ?_
          refine ldM_s C hK hO o_73 rfl dX12_quota_73 ?_
          have hl := lv_sub hl [0, 1, 2, 3] rfl (l' := [(0, .ref h), (1, .int p1), (2, .int p2), (3, .int p3)])
          exact m_74 _ _ _ _ (by rw [if_neg q_58]) hO hl
        · refine lv_iload_n hx hb dX12_quota_61 rfl (lv_at hl 3 rfl) ?_
          refine lv_goto (tgt := 74) hx hb dX12_quota_62 (by decide) ?_
          have hl := lv_sub hl [0, 1, 2, 3] rfl (l' := [(0, .ref h), (1, .int p1), (2, .int p2), (3, .int p3)])
          exact m_74 _ _ _ _ (by rw [if_pos q_58]) hO hl
      · have hw := hw.2 q_42
        refine lv_bipush (v := (-4)) hx hb dX12_quota_45 (by decide) ?_
        exact ri1 hQQ hx hb hr hlk hK hO hw dX12_quota_47
    · have hw := hw.2 q_28
      refine lv_bipush (v := (-2)) hx hb dX12_quota_31 (by decide) ?_
      exact ri1 hQQ hx hb hr hlk hK hO hw dX12_quota_33
  refine lv_if_eq (tgt := 18) hx hb dX12_quota_6 (by decide) (fun q_6 => ?_) (fun q_6 => ?_)
  · have hl := lv_sub hl [] rfl (l' := [])
    exact a_18 (Or.inl q_6) _ _ _ hO hl
  · refine lv_iload_n hx hb dX12_quota_9 rfl (lv_at hl 2 rfl) ?_
    refine lv_iconst (v := (nI 0)) hx hb dX12_quota_10 (by decide) ?_
    refine lv_iconst (v := (nI 2)) hx hb dX12_quota_11 (by decide) ?_
    refine cSi0 (As := [.int p2, .int (nI 0), .int (nI 2)]) (rest := []) C hK hX hO (c_X12_in (l := l)) (va_cwS 3 hts gd_X12_74 rfl rfl rfl hd_X12_in (rok hR (Nat.le_of_ble_eq_true rfl) (Nat.le_of_ble_eq_true rfl))) rfl hl.1 rfl (Nat.le_of_ble_eq_true rfl) dX12_quota_12 ⟨Nat.zero_le _, Nat.zero_le _⟩ (fun r_12 H locs e_12 hO => ?_)
    subst e_12
    refine lv_if_ne (tgt := 20) hx hb dX12_quota_15 (by decide) (fun q_15 => ?_) (fun q_15 => ?_)
    · have hl := lv_sub hl [0, 1, 2, 3] rfl (l' := [(0, .ref h), (1, .int p1), (2, .int p2), (3, .int p3)])
      exact a_20 (fun h => h.elim q_6 q_15) _ _ _ hO hl
    · have hl := lv_sub hl [] rfl (l' := [])
      exact a_18 (Or.inr q_15) _ _ _ hO hl
def wp_X12_rule (p1 : Int32) (p2 : Int32) (p3 : Int32) (k_s : Nat → Int32) (Q : Int32 → (Nat → Int32) → Prop) : Prop := ((((f_X12_isSpot p1) = 0 ∨ (f_X12_in p2 (nI 0) (nI 4)) = 0) → (Q (-1) k_s)) ∧ (¬ (((f_X12_isSpot p1) = 0 ∨ (f_X12_in p2 (nI 0) (nI 4)) = 0)) → ((¬ (k_s 2) = (nI 50) → (∀ y5_49 : Int32, y5_49 = (if p3 = 0 then (nI 20) else (nI 10)) → (wp_X12_right (nI 6) (nI 2) p1 p2 y5_49 k_s (fun (r_49 : Int32) (s_49 : Nat → Int32) => (∀ y2_73 : Int32, y2_73 = (if p3 = 0 then (nI 0) else (nI 1)) → (vp_in ((nI 1560) + r_49) 6700 ∧ (Q r_49 (upd s_49 ((((nI 1560) + r_49)).toNatClampNeg) y2_73)))))))) ∧ ((k_s 2) = (nI 50) → (Q (-4) k_s)))))
set_option maxHeartbeats 4000000 in
set_option maxRecDepth 100000 in
theorem c_X12_rule {l : Launch} {D : va_G} {cI cZ cJ : ClassId} {h : Nat} {ad : Nat → Nat} {sz : Nat} {k_thrown : Int32} {k_s : Nat → Int32} {k_image : Nat → Int32} {k_hasImage : Int32} {k_steps : Nat → Int32} {k_read : Int32} {k_spot : Int32} {k_isWrong : Int32} {k_open : Int32} {k_act : Int32} {k_letBy : Nat → Int32} {k_letStamp : Nat → Int32} {k_stamp : Int32} {k_fallen : Nat → Int32} {k_held : Nat → Int32} {k_stands : Nat → Int32} {k_falling : Nat → Int32} {k_away : Nat → Int32} {k_round : Nat → Int32} {k_rests : Nat → Int64} {k_may : Nat → Int32} {k_next : Nat → Int32} {k_could : Nat → Int32} {k_couldNight : Nat → Int32} {k_night : Int32} {k_seats : Nat → Int32} {p1 : Int32} {p2 : Int32} {p3 : Int32} {Q : Int32 → (Nat → Int32) → Prop} (hw : wp_X12_rule p1 p2 p3 k_s Q) : Met l yX12_rule (Cond.code yX12_rule cX12_rule 5 (some .int) :: wsG) ({ frames := 2, cells := 0, slots := 0, locals := 42 } : Room) (preW D (tyM cI cZ cJ) (wM cI cZ cJ h ad k_thrown k_s k_image k_hasImage k_steps k_read k_spot k_isWrong k_open k_act k_letBy k_letStamp k_stamp k_fallen k_held k_stands k_falling k_away k_round k_rests k_may k_next k_could k_couldNight k_night k_seats) sz [.ref h, .int p1, .int p2, .int p3]) (qi1 D (tyM cI cZ cJ) (va_A (wM cI cZ cJ h ad k_thrown k_s k_image k_hasImage k_steps k_read k_spot k_isWrong k_open k_act k_letBy k_letStamp k_stamp k_fallen k_held k_stands k_falling k_away k_round k_rests k_may k_next k_could k_couldNight k_night k_seats) sz) Q (fun k_s' => (wM cI cZ cJ h ad k_thrown k_s' k_image k_hasImage k_steps k_read k_spot k_isWrong k_open k_act k_letBy k_letStamp k_stamp k_fallen k_held k_stands k_falling k_away k_round k_rests k_may k_next k_could k_couldNight k_night k_seats))) 0 0 (va_A (wM cI cZ cJ h ad k_thrown k_s k_image k_hasImage k_steps k_read k_spot k_isWrong k_open k_act k_letBy k_letStamp k_stamp k_fallen k_held k_stands k_falling k_away k_round k_rests k_may k_next k_could k_couldNight k_night k_seats) sz) := by
  refine st_met (cc := cX12_rule) (maxL := 5) (ret := (some .int)) (lv := [(0, .ref h), (1, .int p1), (2, .int p2), (3, .int p3)]) (Qc := fun A => qi1 D (tyM cI cZ cJ) A Q (fun k_s' => (wM cI cZ cJ h ad k_thrown k_s' k_image k_hasImage k_steps k_read k_spot k_isWrong k_open k_act k_letBy k_letStamp k_stamp k_fallen k_held k_stands k_falling k_away k_round k_rests k_may k_next k_could k_couldNight k_night k_seats))) (by decide) rfl (Nat.le_of_ble_eq_true rfl) rfl ?_
  intro p e s m below meth c ls A R args QQ H locs C hr hlk hnm hK hX hsz hl hO hR hQQ
  have hx := C.1
  have hb := C.2.1
  have hown := C.2.2.2.1
  have hts := C.2.2.2.2
  have hin : ∀ w ∈ u_ws RX12 TX12 26, w ∈ (Cond.code yX12_rule cX12_rule 5 (some .int) :: wsG) := fun w h9 => List.mem_cons_of_mem _ (inG12 w h9)
  have lk_s := hts (Cond.fieldLink RX12 7 "FreeCityModel" "s" "[I") (List.mem_cons_of_mem _ qw5_207)
  unfold wp_X12_rule at hw
  refine lv_iload_n hx hb dX12_rule_0 rfl (lv_at hl 1 rfl) ?_
  refine cSi0 (As := [.int p1]) (rest := []) C hK hX hO (c_X12_isSpot (l := l)) (va_cwS 1 hts gd_X12_78 rfl rfl rfl hd_X12_isSpot (rok hR (Nat.le_of_ble_eq_true rfl) (Nat.le_of_ble_eq_true rfl))) rfl hl.1 rfl (Nat.le_of_ble_eq_true rfl) dX12_rule_1 ⟨Nat.zero_le _, Nat.zero_le _⟩ (fun r_1 H locs e_1 hO => ?_)
  subst e_1
  have a_16 : ((f_X12_isSpot p1) = 0 ∨ (f_X12_in p2 (nI 0) (nI 4)) = 0) → ∀ (H : Heap) (locs : List Loc) (ls : Array Slot), okW D A s.heap H locs (wM cI cZ cJ h ad k_thrown k_s k_image k_hasImage k_steps k_read k_spot k_isWrong k_open k_act k_letBy k_letStamp k_stamp k_fallen k_held k_stands k_falling k_away k_round k_rests k_may k_next k_could k_couldNight k_night k_seats) → lv_has ls 5 [] → W p l e R s m args below meth c H locs 0 0 QQ (F0 m 16 ls []) := by
    intro cf H locs ls hO hl
    have hw := hw.1 cf
    refine lv_iconst (v := (-1)) hx hb dX12_rule_16 (by decide) ?_
    exact ri1 hQQ hx hb hr hlk hK hO hw dX12_rule_17
  have a_18 : ¬ (((f_X12_isSpot p1) = 0 ∨ (f_X12_in p2 (nI 0) (nI 4)) = 0)) → ∀ (H : Heap) (locs : List Loc) (ls : Array Slot), okW D A s.heap H locs (wM cI cZ cJ h ad k_thrown k_s k_image k_hasImage k_steps k_read k_spot k_isWrong k_open k_act k_letBy k_letStamp k_stamp k_fallen k_held k_stands k_falling k_away k_round k_rests k_may k_next k_could k_couldNight k_night k_seats) → lv_has ls 5 [(0, .ref h), (1, .int p1), (2, .int p2), (3, .int p3)] → W p l e R s m args below meth c H locs 0 0 QQ (F0 m 18 ls []) := by
    intro cf H locs ls hO hl
    have hw := hw.2 cf
    refine lv_aload_n hx hb dX12_rule_18 rfl (lv_at hl 0 rfl) ?_
    refine gM_s C hin hK lk_s hO dX12_rule_19 ?_
    refine lv_iconst (v := (nI 2)) hx hb dX12_rule_22 (by decide) ?_
    refine ldM_s C hK hO (inK 2 6700 (by decide) (by decide)) (clK 2 (by decide)) dX12_rule_23 ?_
    refine lv_bipush (v := (nI 50)) hx hb dX12_rule_24 (by decide) ?_
    refine lv_icmp_ne (tgt := 32) hx hb dX12_rule_26 (by decide) (fun q_26 => ?_) (fun q_26 => ?_)
    · have hw := hw.1 q_26
      refine lv_aload_n hx hb dX12_rule_32 rfl (lv_at hl 0 rfl) ?_
      refine lv_bipush (v := (nI 6)) hx hb dX12_rule_33 (by decide) ?_
      refine lv_iconst (v := (nI 2)) hx hb dX12_rule_35 (by decide) ?_
      refine lv_iload_n hx hb dX12_rule_36 rfl (lv_at hl 1 rfl) ?_
      refine lv_iload_n hx hb dX12_rule_37 rfl (lv_at hl 2 rfl) ?_
      refine lv_iload_n hx hb dX12_rule_38 rfl (lv_at hl 3 rfl) ?_
      have m_49 : ∀ (y5_49 : Int32) (H : Heap) (locs : List Loc) (ls : Array Slot), y5_49 = (if p3 = 0 then (nI 20) else (nI 10)) → okW D A s.heap H locs (wM cI cZ cJ h ad k_thrown k_s k_image k_hasImage k_steps k_read k_spot k_isWrong k_open k_act k_letBy k_letStamp k_stamp k_fallen k_held k_stands k_falling k_away k_round k_rests k_may k_next k_could k_couldNight k_night k_seats) → lv_has ls 5 [(0, .ref h), (3, .int p3)] → W p l e R s m args below meth c H locs 0 0 QQ (F0 m 49 ls [.int y5_49, .int p2, .int p1, .int (nI 2), .int (nI 6), .ref h]) := by
        intro y5_49 H locs ls ey5_49 hO hl
        have hw := hw y5_49 ey5_49
        refine cVi1 (As := [.int (nI 6), .int (nI 2), .int p1, .int p2, .int y5_49]) (rest := []) C hK hX hO (c_X12_right (l := l) hw) (cwV 5 hts gd_X12_183 rfl rfl rfl hd_X12_right (rok hR (Nat.le_of_ble_eq_true rfl) (Nat.le_of_ble_eq_true rfl))) (ci := 12) (q0 := 0) rfl rfl rfl rfl hl.1 rfl (Nat.le_of_ble_eq_true rfl) dX12_rule_49 ⟨Nat.zero_le _, Nat.zero_le _⟩ (fun r_49 s_49 H locs hw hO => ?_)
        refine lv_istore (lv' := [(4, .int r_49), (0, .ref h), (3, .int p3)]) hx hb dX12_rule_52 hl (by decide) rfl (fun ls hl => ?_)
        refine lv_aload_n hx hb dX12_rule_54 rfl (lv_at hl 1 rfl) ?_
        refine gM_s C hin hK lk_s hO dX12_rule_55 ?_
        refine lv_sipush (v := (nI 1560)) hx hb dX12_rule_58 (by decide) ?_
        refine lv_iload hx hb dX12_rule_61 (lv_at hl 0 rfl) ?_
        refine lv_iadd hx hb dX12_rule_63 ?_
        refine lv_iload_n hx hb dX12_rule_64 rfl (lv_at hl 2 rfl) ?_
        have m_73 : ∀ (y2_73 : Int32) (H : Heap) (locs : List Loc) (ls : Array Slot), y2_73 = (if p3 = 0 then (nI 0) else (nI 1)) → okW D A s.heap H locs (wM cI cZ cJ h ad k_thrown s_49 k_image k_hasImage k_steps k_read k_spot k_isWrong k_open k_act k_letBy k_letStamp k_stamp k_fallen k_held k_stands k_falling k_away k_round k_rests k_may k_next k_could k_couldNight k_night k_seats) → lv_has ls 5 [(4, .int r_49)] → W p l e R s m args below meth c H locs 0 0 QQ (F0 m 73 ls [.int y2_73, .int ((nI 1560) + r_49), .ref (ad 1)]) := by
          intro y2_73 H locs ls ey2_73 hO hl
          have hw := hw y2_73 ey2_73
          obtain ⟨o_73, hw⟩ := hw
          refine stM_s C hK hO o_73 rfl dX12_rule_73 (fun H locs hO => ?_)
          refine lv_iload hx hb dX12_rule_74 (lv_at hl 0 rfl) ?_
          exact ri1 hQQ hx hb hr hlk hK hO hw dX12_rule_76
        refine lv_if_eq (tgt := 72) hx hb dX12_rule_65 (by decide) (fun q_65 => ?_) (fun q_65 => ?_)
        · refine lv_iconst (v := (nI 0)) hx hb dX12_rule_72 (by decide) ?_
          have hl := lv_sub hl [0] rfl (l' := [(4, .int r_49)])
          exact m_73 _ _ _ _ (by rw [if_pos q_65]) hO hl
        · refine lv_iconst (v := (nI 1)) hx hb dX12_rule_68 (by decide) ?_
          refine lv_goto (tgt := 73) hx hb dX12_rule_69 (by decide) ?_
          have hl := lv_sub hl [0] rfl (l' := [(4, .int r_49)])
          exact m_73 _ _ _ _ (by rw [if_neg q_65]) hO hl
      refine lv_if_eq (tgt := 47) hx hb dX12_rule_39 (by decide) (fun q_39 => ?_) (fun q_39 => ?_)
      · refine lv_bipush (v := (nI 20)) hx hb dX12_rule_47 (by decide) ?_
        have hl := lv_sub hl [0, 3] rfl (l' := [(0, .ref h), (3, .int p3)])
        exact m_49 _ _ _ _ (by rw [if_pos q_39]) hO hl
      · refine lv_bipush (v := (nI 10)) hx hb dX12_rule_42 (by decide) ?_
        refine lv_goto (tgt := 49) hx hb dX12_rule_44 (by decide) ?_
        have hl := lv_sub hl [0, 3] rfl (l' := [(0, .ref h), (3, .int p3)])
        exact m_49 _ _ _ _ (by rw [if_neg q_39]) hO hl
    · have hw := hw.2 q_26
      refine lv_bipush (v := (-4)) hx hb dX12_rule_29 (by decide) ?_
      exact ri1 hQQ hx hb hr hlk hK hO hw dX12_rule_31
  refine lv_if_eq (tgt := 16) hx hb dX12_rule_4 (by decide) (fun q_4 => ?_) (fun q_4 => ?_)
  · have hl := lv_sub hl [] rfl (l' := [])
    exact a_16 (Or.inl q_4) _ _ _ hO hl
  · refine lv_iload_n hx hb dX12_rule_7 rfl (lv_at hl 2 rfl) ?_
    refine lv_iconst (v := (nI 0)) hx hb dX12_rule_8 (by decide) ?_
    refine lv_iconst (v := (nI 4)) hx hb dX12_rule_9 (by decide) ?_
    refine cSi0 (As := [.int p2, .int (nI 0), .int (nI 4)]) (rest := []) C hK hX hO (c_X12_in (l := l)) (va_cwS 3 hts gd_X12_74 rfl rfl rfl hd_X12_in (rok hR (Nat.le_of_ble_eq_true rfl) (Nat.le_of_ble_eq_true rfl))) rfl hl.1 rfl (Nat.le_of_ble_eq_true rfl) dX12_rule_10 ⟨Nat.zero_le _, Nat.zero_le _⟩ (fun r_10 H locs e_10 hO => ?_)
    subst e_10
    refine lv_if_ne (tgt := 18) hx hb dX12_rule_13 (by decide) (fun q_13 => ?_) (fun q_13 => ?_)
    · have hl := lv_sub hl [0, 1, 2, 3] rfl (l' := [(0, .ref h), (1, .int p1), (2, .int p2), (3, .int p3)])
      exact a_18 (fun h => h.elim q_4 q_13) _ _ _ hO hl
    · have hl := lv_sub hl [] rfl (l' := [])
      exact a_16 (Or.inr q_13) _ _ _ hO hl
def f_X12_isOf (k_s : Nat → Int32) (p1 : Int32) (p2 : Int32) : Int32 := (if (f_X12_in p1 (nI 0) ((k_s 2) - (nI 1))) = 0 then (nI 0) else (if (k_s (((nI 1310) + p1)).toNatClampNeg) = p2 then (nI 1) else (nI 0)))
def ok_X12_isOf (k_s : Nat → Int32) (p1 : Int32) (p2 : Int32) : Prop := (¬ (f_X12_in p1 (nI 0) ((k_s 2) - (nI 1))) = 0 → (vp_in ((nI 1310) + p1) 6700))
theorem z_X12_isOf (k_s : Nat → Int32) (p1 : Int32) (p2 : Int32) : zb (f_X12_isOf k_s p1 p2) := by
  unfold f_X12_isOf
  exact (zb_ite zb0 (zb_ite zb1 zb0))
set_option maxHeartbeats 4000000 in
set_option maxRecDepth 100000 in
theorem c_X12_isOf {l : Launch} {D : va_G} {cI cZ cJ : ClassId} {h : Nat} {ad : Nat → Nat} {sz : Nat} {k_thrown : Int32} {k_s : Nat → Int32} {k_image : Nat → Int32} {k_hasImage : Int32} {k_steps : Nat → Int32} {k_read : Int32} {k_spot : Int32} {k_isWrong : Int32} {k_open : Int32} {k_act : Int32} {k_letBy : Nat → Int32} {k_letStamp : Nat → Int32} {k_stamp : Int32} {k_fallen : Nat → Int32} {k_held : Nat → Int32} {k_stands : Nat → Int32} {k_falling : Nat → Int32} {k_away : Nat → Int32} {k_round : Nat → Int32} {k_rests : Nat → Int64} {k_may : Nat → Int32} {k_next : Nat → Int32} {k_could : Nat → Int32} {k_couldNight : Nat → Int32} {k_night : Int32} {k_seats : Nat → Int32} {p1 : Int32} {p2 : Int32} (hw : ok_X12_isOf k_s p1 p2) : Met l yX12_isOf (Cond.code yX12_isOf cX12_isOf 3 (some .boolean) :: wsG) ({ frames := 1, cells := 0, slots := 0, locals := 22 } : Room) (preW D (tyM cI cZ cJ) (wM cI cZ cJ h ad k_thrown k_s k_image k_hasImage k_steps k_read k_spot k_isWrong k_open k_act k_letBy k_letStamp k_stamp k_fallen k_held k_stands k_falling k_away k_round k_rests k_may k_next k_could k_couldNight k_night k_seats) sz [.ref h, .int p1, .int p2]) (qi0 D (tyM cI cZ cJ) (va_A (wM cI cZ cJ h ad k_thrown k_s k_image k_hasImage k_steps k_read k_spot k_isWrong k_open k_act k_letBy k_letStamp k_stamp k_fallen k_held k_stands k_falling k_away k_round k_rests k_may k_next k_could k_couldNight k_night k_seats) sz) (fun r => r = f_X12_isOf k_s p1 p2) (wM cI cZ cJ h ad k_thrown k_s k_image k_hasImage k_steps k_read k_spot k_isWrong k_open k_act k_letBy k_letStamp k_stamp k_fallen k_held k_stands k_falling k_away k_round k_rests k_may k_next k_could k_couldNight k_night k_seats)) 0 0 (va_A (wM cI cZ cJ h ad k_thrown k_s k_image k_hasImage k_steps k_read k_spot k_isWrong k_open k_act k_letBy k_letStamp k_stamp k_fallen k_held k_stands k_falling k_away k_round k_rests k_may k_next k_could k_couldNight k_night k_seats) sz) := by
  refine st_met (cc := cX12_isOf) (maxL := 3) (ret := (some .boolean)) (lv := [(0, .ref h), (1, .int p1), (2, .int p2)]) (Qc := fun A => qi0 D (tyM cI cZ cJ) A (fun r => r = f_X12_isOf k_s p1 p2) (wM cI cZ cJ h ad k_thrown k_s k_image k_hasImage k_steps k_read k_spot k_isWrong k_open k_act k_letBy k_letStamp k_stamp k_fallen k_held k_stands k_falling k_away k_round k_rests k_may k_next k_could k_couldNight k_night k_seats)) (by decide) rfl (Nat.le_of_ble_eq_true rfl) rfl ?_
  intro p e s m below meth c ls A R args QQ H locs C hr hlk hnm hK hX hsz hl hO hR hQQ
  have hx := C.1
  have hb := C.2.1
  have hown := C.2.2.2.1
  have hts := C.2.2.2.2
  have hin : ∀ w ∈ u_ws RX12 TX12 26, w ∈ (Cond.code yX12_isOf cX12_isOf 3 (some .boolean) :: wsG) := fun w h9 => List.mem_cons_of_mem _ (inG12 w h9)
  have lk_s := hts (Cond.fieldLink RX12 7 "FreeCityModel" "s" "[I") (List.mem_cons_of_mem _ qw5_207)
  unfold ok_X12_isOf at hw
  have hs := hw
  refine lv_iload_n hx hb dX12_isOf_0 rfl (lv_at hl 1 rfl) ?_
  refine lv_iconst (v := (nI 0)) hx hb dX12_isOf_1 (by decide) ?_
  refine lv_aload_n hx hb dX12_isOf_2 rfl (lv_at hl 0 rfl) ?_
  refine gM_s C hin hK lk_s hO dX12_isOf_3 ?_
  refine lv_iconst (v := (nI 2)) hx hb dX12_isOf_6 (by decide) ?_
  refine ldM_s C hK hO (inK 2 6700 (by decide) (by decide)) (clK 2 (by decide)) dX12_isOf_7 ?_
  refine lv_iconst (v := (nI 1)) hx hb dX12_isOf_8 (by decide) ?_
  refine lv_isub hx hb dX12_isOf_9 ?_
  refine cSi0 (As := [.int p1, .int (nI 0), .int ((k_s 2) - (nI 1))]) (rest := []) C hK hX hO (c_X12_in (l := l)) (va_cwS 3 hts gd_X12_74 rfl rfl rfl hd_X12_in (rok hR (Nat.le_of_ble_eq_true rfl) (Nat.le_of_ble_eq_true rfl))) rfl hl.1 rfl (Nat.le_of_ble_eq_true rfl) dX12_isOf_10 ⟨Nat.zero_le _, Nat.zero_le _⟩ (fun r_10 H locs e_10 hO => ?_)
  subst e_10
  refine lv_if_eq (tgt := 34) hx hb dX12_isOf_13 (by decide) (fun q_13 => ?_) (fun q_13 => ?_)
  · refine lv_iconst (v := (nI 0)) hx hb dX12_isOf_34 (by decide) ?_
    exact rz0 hQQ hx hb hr hlk hK hO zb0 (by unfold f_X12_isOf; rw [if_pos q_13]) dX12_isOf_35
  · have hs := hs q_13
    have o_25 := hs
    refine lv_aload_n hx hb dX12_isOf_16 rfl (lv_at hl 0 rfl) ?_
    refine gM_s C hin hK lk_s hO dX12_isOf_17 ?_
    refine lv_sipush (v := (nI 1310)) hx hb dX12_isOf_20 (by decide) ?_
    refine lv_iload_n hx hb dX12_isOf_23 rfl (lv_at hl 1 rfl) ?_
    refine lv_iadd hx hb dX12_isOf_24 ?_
    refine ldM_s C hK hO o_25 rfl dX12_isOf_25 ?_
    refine lv_iload_n hx hb dX12_isOf_26 rfl (lv_at hl 2 rfl) ?_
    refine lv_icmp_ne (tgt := 34) hx hb dX12_isOf_27 (by decide) (fun q_27 => ?_) (fun q_27 => ?_)
    · refine lv_iconst (v := (nI 0)) hx hb dX12_isOf_34 (by decide) ?_
      exact rz0 hQQ hx hb hr hlk hK hO zb0 (by unfold f_X12_isOf; rw [if_neg q_13, if_neg q_27]) dX12_isOf_35
    · refine lv_iconst (v := (nI 1)) hx hb dX12_isOf_30 (by decide) ?_
      refine lv_goto (tgt := 35) hx hb dX12_isOf_31 (by decide) ?_
      exact rz0 hQQ hx hb hr hlk hK hO zb1 (by unfold f_X12_isOf; rw [if_neg q_13, if_pos q_27]) dX12_isOf_35
theorem gd_X12_187 {a : Cond} : GoodIn (a :: wsG) (wsV RX12 187 RX12 yX12_isOf (Cond.code yX12_isOf cX12_isOf 3 (some .boolean) :: wsG)) := gdV qw6_206 qw6_208 qs_56 qw1_12 qw6_209
theorem hd_X12_isOf : yX12_isOf.cls = RX12 ∧ yX12_isOf.cls ≠ "java/lang/invoke/MethodHandle" ∧ yX12_isOf.cls ≠ "java/lang/invoke/VarHandle" ∧ (parseMethodDescriptor yX12_isOf.desc).map (fun d => d.parameters.length) = some 2 := by decide +kernel
def wb_X12_lean_63 (p1 : Int32) (p2 : Int32) (k_s : Nat → Int32) (Q : Int32 → (Nat → Int32) → Prop) (L_63 : Int32 → Int32 → Prop) (v3_63 : Int32) (v4_63 : Int32) : Prop := (((nI 50) ≤ v4_63 → (Q v3_63 (upd k_s (((((nI 1910) + ((nI 50) * p1)) + p2)).toNatClampNeg) (nI 1)))) ∧ (¬ (nI 50) ≤ v4_63 → (ok_X12_leans (upd k_s (((((nI 1910) + ((nI 50) * p1)) + p2)).toNatClampNeg) (nI 1)) p1 v4_63 ∧ (∀ y1_86 : Int32, y1_86 = (if (f_X12_leans (upd k_s (((((nI 1910) + ((nI 50) * p1)) + p2)).toNatClampNeg) (nI 1)) p1 v4_63) = 0 then (nI 0) else (nI 1)) → (L_63 (v3_63 + y1_86) (v4_63 + (nI 1)))))))
def wl_X12_lean_63 (p1 : Int32) (p2 : Int32) (k_s : Nat → Int32) (Q : Int32 → (Nat → Int32) → Prop) : Nat → Int32 → Int32 → Prop
  | 0, _, _ => False
  | n + 1, v3_63, v4_63 => wb_X12_lean_63 p1 p2 k_s Q (wl_X12_lean_63 p1 p2 k_s Q n) v3_63 v4_63
def wp_X12_lean (p1 : Int32) (p2 : Int32) (k_s : Nat → Int32) (Q : Int32 → (Nat → Int32) → Prop) : Prop := (ok_X12_isOf k_s p1 (nI 6) ∧ (((¬ (f_X12_isOf k_s p1 (nI 6)) = 0 → (ok_X12_isOf k_s p2 (nI 6)))) ∧ ((((f_X12_isOf k_s p1 (nI 6)) = 0 ∨ (f_X12_isOf k_s p2 (nI 6)) = 0) → (Q (-1) k_s)) ∧ (¬ (((f_X12_isOf k_s p1 (nI 6)) = 0 ∨ (f_X12_isOf k_s p2 (nI 6)) = 0)) → ((¬ p1 = p2 → (ok_X12_leans k_s p1 p2 ∧ (((f_X12_leans k_s p1 p2) = 0 → (vp_in (((nI 1910) + ((nI 50) * p1)) + p2) 6700 ∧ (∃ n, wl_X12_lean_63 p1 p2 k_s Q n (nI 0) (nI 0)))) ∧ (¬ (f_X12_leans k_s p1 p2) = 0 → (Q (-3) k_s))))) ∧ (p1 = p2 → (Q (-2) k_s)))))))
set_option maxHeartbeats 4000000 in
set_option maxRecDepth 100000 in
theorem c_X12_lean {l : Launch} {D : va_G} {cI cZ cJ : ClassId} {h : Nat} {ad : Nat → Nat} {sz : Nat} {k_thrown : Int32} {k_s : Nat → Int32} {k_image : Nat → Int32} {k_hasImage : Int32} {k_steps : Nat → Int32} {k_read : Int32} {k_spot : Int32} {k_isWrong : Int32} {k_open : Int32} {k_act : Int32} {k_letBy : Nat → Int32} {k_letStamp : Nat → Int32} {k_stamp : Int32} {k_fallen : Nat → Int32} {k_held : Nat → Int32} {k_stands : Nat → Int32} {k_falling : Nat → Int32} {k_away : Nat → Int32} {k_round : Nat → Int32} {k_rests : Nat → Int64} {k_may : Nat → Int32} {k_next : Nat → Int32} {k_could : Nat → Int32} {k_couldNight : Nat → Int32} {k_night : Int32} {k_seats : Nat → Int32} {p1 : Int32} {p2 : Int32} {Q : Int32 → (Nat → Int32) → Prop} (hw : wp_X12_lean p1 p2 k_s Q) : Met l yX12_lean (Cond.code yX12_lean cX12_lean 5 (some .int) :: wsG) ({ frames := 2, cells := 0, slots := 0, locals := 44 } : Room) (preW D (tyM cI cZ cJ) (wM cI cZ cJ h ad k_thrown k_s k_image k_hasImage k_steps k_read k_spot k_isWrong k_open k_act k_letBy k_letStamp k_stamp k_fallen k_held k_stands k_falling k_away k_round k_rests k_may k_next k_could k_couldNight k_night k_seats) sz [.ref h, .int p1, .int p2]) (qi1 D (tyM cI cZ cJ) (va_A (wM cI cZ cJ h ad k_thrown k_s k_image k_hasImage k_steps k_read k_spot k_isWrong k_open k_act k_letBy k_letStamp k_stamp k_fallen k_held k_stands k_falling k_away k_round k_rests k_may k_next k_could k_couldNight k_night k_seats) sz) Q (fun k_s' => (wM cI cZ cJ h ad k_thrown k_s' k_image k_hasImage k_steps k_read k_spot k_isWrong k_open k_act k_letBy k_letStamp k_stamp k_fallen k_held k_stands k_falling k_away k_round k_rests k_may k_next k_could k_couldNight k_night k_seats))) 0 0 (va_A (wM cI cZ cJ h ad k_thrown k_s k_image k_hasImage k_steps k_read k_spot k_isWrong k_open k_act k_letBy k_letStamp k_stamp k_fallen k_held k_stands k_falling k_away k_round k_rests k_may k_next k_could k_couldNight k_night k_seats) sz) := by
  refine st_met (cc := cX12_lean) (maxL := 5) (ret := (some .int)) (lv := [(0, .ref h), (1, .int p1), (2, .int p2)]) (Qc := fun A => qi1 D (tyM cI cZ cJ) A Q (fun k_s' => (wM cI cZ cJ h ad k_thrown k_s' k_image k_hasImage k_steps k_read k_spot k_isWrong k_open k_act k_letBy k_letStamp k_stamp k_fallen k_held k_stands k_falling k_away k_round k_rests k_may k_next k_could k_couldNight k_night k_seats))) (by decide) rfl (Nat.le_of_ble_eq_true rfl) rfl ?_
  intro p e s m below meth c ls A R args QQ H locs C hr hlk hnm hK hX hsz hl hO hR hQQ
  have hx := C.1
  have hb := C.2.1
  have hown := C.2.2.2.1
  have hts := C.2.2.2.2
  have hin : ∀ w ∈ u_ws RX12 TX12 26, w ∈ (Cond.code yX12_lean cX12_lean 5 (some .int) :: wsG) := fun w h9 => List.mem_cons_of_mem _ (inG12 w h9)
  have lk_s := hts (Cond.fieldLink RX12 7 "FreeCityModel" "s" "[I") (List.mem_cons_of_mem _ qw5_207)
  unfold wp_X12_lean at hw
  refine lv_aload_n hx hb dX12_lean_0 rfl (lv_at hl 0 rfl) ?_
  refine lv_iload_n hx hb dX12_lean_1 rfl (lv_at hl 1 rfl) ?_
  refine lv_bipush (v := (nI 6)) hx hb dX12_lean_2 (by decide) ?_
  obtain ⟨o_4, hw⟩ := hw
  refine cVi0 (As := [.int p1, .int (nI 6)]) (rest := []) C hK hX hO (c_X12_isOf (l := l) o_4) (cwV 2 hts gd_X12_187 rfl rfl rfl hd_X12_isOf (rok hR (Nat.le_of_ble_eq_true rfl) (Nat.le_of_ble_eq_true rfl))) (ci := 12) (q0 := 0) rfl rfl rfl rfl hl.1 rfl (Nat.le_of_ble_eq_true rfl) dX12_lean_4 ⟨Nat.zero_le _, Nat.zero_le _⟩ (fun r_4 H locs e_4 hO => ?_)
  subst e_4
  obtain ⟨hs, hw⟩ := hw
  have a_20 : ((f_X12_isOf k_s p1 (nI 6)) = 0 ∨ (f_X12_isOf k_s p2 (nI 6)) = 0) → ∀ (H : Heap) (locs : List Loc) (ls : Array Slot), okW D A s.heap H locs (wM cI cZ cJ h ad k_thrown k_s k_image k_hasImage k_steps k_read k_spot k_isWrong k_open k_act k_letBy k_letStamp k_stamp k_fallen k_held k_stands k_falling k_away k_round k_rests k_may k_next k_could k_couldNight k_night k_seats) → lv_has ls 5 [] → W p l e R s m args below meth c H locs 0 0 QQ (F0 m 20 ls []) := by
    intro cf H locs ls hO hl
    have hw := hw.1 cf
    refine lv_iconst (v := (-1)) hx hb dX12_lean_20 (by decide) ?_
    exact ri1 hQQ hx hb hr hlk hK hO hw dX12_lean_21
  have a_22 : ¬ (((f_X12_isOf k_s p1 (nI 6)) = 0 ∨ (f_X12_isOf k_s p2 (nI 6)) = 0)) → ∀ (H : Heap) (locs : List Loc) (ls : Array Slot), okW D A s.heap H locs (wM cI cZ cJ h ad k_thrown k_s k_image k_hasImage k_steps k_read k_spot k_isWrong k_open k_act k_letBy k_letStamp k_stamp k_fallen k_held k_stands k_falling k_away k_round k_rests k_may k_next k_could k_couldNight k_night k_seats) → lv_has ls 5 [(0, .ref h), (1, .int p1), (2, .int p2)] → W p l e R s m args below meth c H locs 0 0 QQ (F0 m 22 ls []) := by
    intro cf H locs ls hO hl
    have hw := hw.2 cf
    refine lv_iload_n hx hb dX12_lean_22 rfl (lv_at hl 1 rfl) ?_
    refine lv_iload_n hx hb dX12_lean_23 rfl (lv_at hl 2 rfl) ?_
    refine lv_icmp_ne (tgt := 30) hx hb dX12_lean_24 (by decide) (fun q_24 => ?_) (fun q_24 => ?_)
    · have hw := hw.1 q_24
      refine lv_aload_n hx hb dX12_lean_30 rfl (lv_at hl 0 rfl) ?_
      refine lv_iload_n hx hb dX12_lean_31 rfl (lv_at hl 1 rfl) ?_
      refine lv_iload_n hx hb dX12_lean_32 rfl (lv_at hl 2 rfl) ?_
      obtain ⟨o_33, hw⟩ := hw
      refine cVi0 (As := [.int p1, .int p2]) (rest := []) C hK hX hO (c_X12_leans (l := l) o_33) (cwV 2 hts gd_X12_190 rfl rfl rfl hd_X12_leans (rok hR (Nat.le_of_ble_eq_true rfl) (Nat.le_of_ble_eq_true rfl))) (ci := 12) (q0 := 0) rfl rfl rfl rfl hl.1 rfl (Nat.le_of_ble_eq_true rfl) dX12_lean_33 ⟨Nat.zero_le _, Nat.zero_le _⟩ (fun r_33 H locs e_33 hO => ?_)
      subst e_33
      refine lv_if_eq (tgt := 42) hx hb dX12_lean_36 (by decide) (fun q_36 => ?_) (fun q_36 => ?_)
      · have hw := hw.1 q_36
        refine lv_aload_n hx hb dX12_lean_42 rfl (lv_at hl 0 rfl) ?_
        refine gM_s C hin hK lk_s hO dX12_lean_43 ?_
        refine lv_sipush (v := (nI 1910)) hx hb dX12_lean_46 (by decide) ?_
        refine lv_bipush (v := (nI 50)) hx hb dX12_lean_49 (by decide) ?_
        refine lv_iload_n hx hb dX12_lean_51 rfl (lv_at hl 1 rfl) ?_
        refine lv_imul hx hb dX12_lean_52 ?_
        refine lv_iadd hx hb dX12_lean_53 ?_
        refine lv_iload_n hx hb dX12_lean_54 rfl (lv_at hl 2 rfl) ?_
        refine lv_iadd hx hb dX12_lean_55 ?_
        refine lv_iconst (v := (nI 1)) hx hb dX12_lean_56 (by decide) ?_
        obtain ⟨o_57, hw⟩ := hw
        refine stM_s C hK hO o_57 rfl dX12_lean_57 (fun H locs hO => ?_)
        refine lv_iconst (v := (nI 0)) hx hb dX12_lean_58 (by decide) ?_
        refine lv_istore_n (lv' := [(3, .int (nI 0)), (0, .ref h), (1, .int p1), (2, .int p2)]) hx hb dX12_lean_59 rfl hl (by decide) rfl (fun ls hl => ?_)
        refine lv_iconst (v := (nI 0)) hx hb dX12_lean_60 (by decide) ?_
        refine lv_istore (lv' := [(4, .int (nI 0)), (3, .int (nI 0)), (0, .ref h), (1, .int p1), (2, .int p2)]) hx hb dX12_lean_61 hl (by decide) rfl (fun ls hl => ?_)
        obtain ⟨n_63, hw⟩ := hw
        have b_63 : ∀ (L_63 : Int32 → Int32 → Prop) (ih_63 : ∀ (v3_63 : Int32) (v4_63 : Int32) (H : Heap) (locs : List Loc) (ls : Array Slot), okW D A s.heap H locs (wM cI cZ cJ h ad k_thrown (upd k_s (((((nI 1910) + ((nI 50) * p1)) + p2)).toNatClampNeg) (nI 1)) k_image k_hasImage k_steps k_read k_spot k_isWrong k_open k_act k_letBy k_letStamp k_stamp k_fallen k_held k_stands k_falling k_away k_round k_rests k_may k_next k_could k_couldNight k_night k_seats) → lv_has ls 5 [(0, .ref h), (1, .int p1), (3, .int v3_63), (4, .int v4_63)] → L_63 v3_63 v4_63 → W p l e R s m args below meth c H locs 0 0 QQ (F0 m 63 ls [])) (v3_63 : Int32) (v4_63 : Int32) (H : Heap) (locs : List Loc) (ls : Array Slot), okW D A s.heap H locs (wM cI cZ cJ h ad k_thrown (upd k_s (((((nI 1910) + ((nI 50) * p1)) + p2)).toNatClampNeg) (nI 1)) k_image k_hasImage k_steps k_read k_spot k_isWrong k_open k_act k_letBy k_letStamp k_stamp k_fallen k_held k_stands k_falling k_away k_round k_rests k_may k_next k_could k_couldNight k_night k_seats) → lv_has ls 5 [(0, .ref h), (1, .int p1), (3, .int v3_63), (4, .int v4_63)] → wb_X12_lean_63 p1 p2 k_s Q L_63 v3_63 v4_63 → W p l e R s m args below meth c H locs 0 0 QQ (F0 m 63 ls []) := by
          intro L_63 ih_63 v3_63 v4_63 H locs ls hO hl hw
          unfold wb_X12_lean_63 at hw
          refine lv_iload hx hb dX12_lean_63 (lv_at hl 3 rfl) ?_
          refine lv_bipush (v := (nI 50)) hx hb dX12_lean_65 (by decide) ?_
          refine lv_icmp_ge (tgt := 94) hx hb dX12_lean_67 (by decide) (fun q_67 => ?_) (fun q_67 => ?_)
          · have hw := hw.1 q_67
            refine lv_iload_n hx hb dX12_lean_94 rfl (lv_at hl 2 rfl) ?_
            exact ri1 hQQ hx hb hr hlk hK hO hw dX12_lean_95
          · have hw := hw.2 q_67
            refine lv_iload_n hx hb dX12_lean_70 rfl (lv_at hl 2 rfl) ?_
            refine lv_aload_n hx hb dX12_lean_71 rfl (lv_at hl 0 rfl) ?_
            refine lv_iload_n hx hb dX12_lean_72 rfl (lv_at hl 1 rfl) ?_
            refine lv_iload hx hb dX12_lean_73 (lv_at hl 3 rfl) ?_
            obtain ⟨o_75, hw⟩ := hw
            refine cVi0 (As := [.int p1, .int v4_63]) (rest := [.int v3_63]) C hK hX hO (c_X12_leans (l := l) o_75) (cwV 2 hts gd_X12_190 rfl rfl rfl hd_X12_leans (rok hR (Nat.le_of_ble_eq_true rfl) (Nat.le_of_ble_eq_true rfl))) (ci := 12) (q0 := 0) rfl rfl rfl rfl hl.1 rfl (Nat.le_of_ble_eq_true rfl) dX12_lean_75 ⟨Nat.zero_le _, Nat.zero_le _⟩ (fun r_75 H locs e_75 hO => ?_)
            subst e_75
            have m_86 : ∀ (y1_86 : Int32) (H : Heap) (locs : List Loc) (ls : Array Slot), y1_86 = (if (f_X12_leans (upd k_s (((((nI 1910) + ((nI 50) * p1)) + p2)).toNatClampNeg) (nI 1)) p1 v4_63) = 0 then (nI 0) else (nI 1)) → okW D A s.heap H locs (wM cI cZ cJ h ad k_thrown (upd k_s (((((nI 1910) + ((nI 50) * p1)) + p2)).toNatClampNeg) (nI 1)) k_image k_hasImage k_steps k_read k_spot k_isWrong k_open k_act k_letBy k_letStamp k_stamp k_fallen k_held k_stands k_falling k_away k_round k_rests k_may k_next k_could k_couldNight k_night k_seats) → lv_has ls 5 [(0, .ref h), (1, .int p1), (4, .int v4_63)] → W p l e R s m args below meth c H locs 0 0 QQ (F0 m 86 ls [.int y1_86, .int v3_63]) := by
              intro y1_86 H locs ls ey1_86 hO hl
              have hw := hw y1_86 ey1_86
              refine lv_iadd hx hb dX12_lean_86 ?_
              refine lv_istore_n (lv' := [(3, .int (v3_63 + y1_86)), (0, .ref h), (1, .int p1), (4, .int v4_63)]) hx hb dX12_lean_87 rfl hl (by decide) rfl (fun ls hl => ?_)
              refine lv_iinc (v := (v4_63 + (nI 1))) (lv' := [(4, .int (v4_63 + (nI 1))), (3, .int (v3_63 + y1_86)), (0, .ref h), (1, .int p1)]) hx hb dX12_lean_88 hl (k := 3) rfl (iinc_1 _) (by decide) rfl (fun ls hl => ?_)
              refine lv_goto (tgt := 63) hx hb dX12_lean_91 (by decide) ?_
              exact ih_63 (v3_63 + y1_86) (v4_63 + (nI 1)) _ _ _ hO (lv_sub hl [2, 3, 1, 0] rfl) hw
            refine lv_if_eq (tgt := 85) hx hb dX12_lean_78 (by decide) (fun q_78 => ?_) (fun q_78 => ?_)
            · refine lv_iconst (v := (nI 0)) hx hb dX12_lean_85 (by decide) ?_
              have hl := lv_sub hl [0, 1, 3] rfl (l' := [(0, .ref h), (1, .int p1), (4, .int v4_63)])
              exact m_86 _ _ _ _ (by rw [if_pos q_78]) hO hl
            · refine lv_iconst (v := (nI 1)) hx hb dX12_lean_81 (by decide) ?_
              refine lv_goto (tgt := 86) hx hb dX12_lean_82 (by decide) ?_
              have hl := lv_sub hl [0, 1, 3] rfl (l' := [(0, .ref h), (1, .int p1), (4, .int v4_63)])
              exact m_86 _ _ _ _ (by rw [if_neg q_78]) hO hl
        have l_63 : ∀ (n : Nat) (v3_63 : Int32) (v4_63 : Int32) (H : Heap) (locs : List Loc) (ls : Array Slot), okW D A s.heap H locs (wM cI cZ cJ h ad k_thrown (upd k_s (((((nI 1910) + ((nI 50) * p1)) + p2)).toNatClampNeg) (nI 1)) k_image k_hasImage k_steps k_read k_spot k_isWrong k_open k_act k_letBy k_letStamp k_stamp k_fallen k_held k_stands k_falling k_away k_round k_rests k_may k_next k_could k_couldNight k_night k_seats) → lv_has ls 5 [(0, .ref h), (1, .int p1), (3, .int v3_63), (4, .int v4_63)] → wl_X12_lean_63 p1 p2 k_s Q n v3_63 v4_63 → W p l e R s m args below meth c H locs 0 0 QQ (F0 m 63 ls []) := by
          intro n
          induction n with
          | zero => intro v3_63 v4_63 H locs ls hO hl hw; exact False.elim hw
          | succ n ih => exact b_63 _ ih
        exact l_63 n_63 (nI 0) (nI 0) _ _ _ hO (lv_sub hl [2, 3, 1, 0] rfl) hw
      · have hw := hw.2 q_36
        refine lv_bipush (v := (-3)) hx hb dX12_lean_39 (by decide) ?_
        exact ri1 hQQ hx hb hr hlk hK hO hw dX12_lean_41
    · have hw := hw.2 q_24
      refine lv_bipush (v := (-2)) hx hb dX12_lean_27 (by decide) ?_
      exact ri1 hQQ hx hb hr hlk hK hO hw dX12_lean_29
  refine lv_if_eq (tgt := 20) hx hb dX12_lean_7 (by decide) (fun q_7 => ?_) (fun q_7 => ?_)
  · have hl := lv_sub hl [] rfl (l' := [])
    exact a_20 (Or.inl q_7) _ _ _ hO hl
  · have hs := hs q_7
    have o_14 := hs
    refine lv_aload_n hx hb dX12_lean_10 rfl (lv_at hl 0 rfl) ?_
    refine lv_iload_n hx hb dX12_lean_11 rfl (lv_at hl 2 rfl) ?_
    refine lv_bipush (v := (nI 6)) hx hb dX12_lean_12 (by decide) ?_
    refine cVi0 (As := [.int p2, .int (nI 6)]) (rest := []) C hK hX hO (c_X12_isOf (l := l) o_14) (cwV 2 hts gd_X12_187 rfl rfl rfl hd_X12_isOf (rok hR (Nat.le_of_ble_eq_true rfl) (Nat.le_of_ble_eq_true rfl))) (ci := 12) (q0 := 0) rfl rfl rfl rfl hl.1 rfl (Nat.le_of_ble_eq_true rfl) dX12_lean_14 ⟨Nat.zero_le _, Nat.zero_le _⟩ (fun r_14 H locs e_14 hO => ?_)
    subst e_14
    refine lv_if_ne (tgt := 22) hx hb dX12_lean_17 (by decide) (fun q_17 => ?_) (fun q_17 => ?_)
    · have hl := lv_sub hl [0, 1, 2] rfl (l' := [(0, .ref h), (1, .int p1), (2, .int p2)])
      exact a_22 (fun h => h.elim q_7 q_17) _ _ _ hO hl
    · have hl := lv_sub hl [] rfl (l' := [])
      exact a_20 (Or.inr q_17) _ _ _ hO hl
