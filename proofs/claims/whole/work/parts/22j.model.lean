theorem gd_X12_234 {a : Cond} : GoodIn (a :: wsG) (wsV RX12 234 RX12 yX12_canBe (Cond.code yX12_canBe cX12_canBe 6 (some .boolean) :: wsG)) := gdV qw7_101 qw7_103 qs_66 qw1_12 qw7_104
theorem hd_X12_canBe : yX12_canBe.cls = RX12 ∧ yX12_canBe.cls ≠ "java/lang/invoke/MethodHandle" ∧ yX12_canBe.cls ≠ "java/lang/invoke/VarHandle" ∧ (parseMethodDescriptor yX12_canBe.desc).map (fun d => d.parameters.length) = some 3 := by decide +kernel
theorem gd_X12_237 {a : Cond} : GoodIn (a :: wsG) (wsV RX12 237 RX12 yX12_finds_ (Cond.code yX12_finds_ cX12_finds_ 5 none :: wsG)) := gdV qw7_105 qw7_107 qs_67 qw1_12 qw7_108
theorem hd_X12_finds_ : yX12_finds_.cls = RX12 ∧ yX12_finds_.cls ≠ "java/lang/invoke/MethodHandle" ∧ yX12_finds_.cls ≠ "java/lang/invoke/VarHandle" ∧ (parseMethodDescriptor yX12_finds_.desc).map (fun d => d.parameters.length) = some 2 := by decide +kernel
def wb_X12_walks_447 (p1 : Int32) (k_couldNight : Nat → Int32) (k_night : Int32) (Q : (Nat → Int32) → (Nat → Int32) → (Nat → Int32) → (Nat → Int32) → Prop) (may_59 : Nat → Int32) (next_59 : Nat → Int32) (L_447 : Int32 → (Nat → Int32) → Prop) (v2_447 : Int32) (could_447 : Nat → Int32) : Prop := (((nI 64) ≤ v2_447 → (Q may_59 next_59 could_447 (upd k_couldNight ((p1).toNatClampNeg) k_night))) ∧ (¬ (nI 64) ≤ v2_447 → (wp_X12_finds_ p1 v2_447 may_59 could_447 (fun (could_456 : Nat → Int32) => (L_447 (v2_447 + (nI 1)) could_456)))))
def wl_X12_walks_447 (p1 : Int32) (k_couldNight : Nat → Int32) (k_night : Int32) (Q : (Nat → Int32) → (Nat → Int32) → (Nat → Int32) → (Nat → Int32) → Prop) (may_59 : Nat → Int32) (next_59 : Nat → Int32) : Nat → Int32 → (Nat → Int32) → Prop
  | 0, _, _ => False
  | n + 1, v2_447, could_447 => wb_X12_walks_447 p1 k_couldNight k_night Q may_59 next_59 (wl_X12_walks_447 p1 k_couldNight k_night Q may_59 next_59 n) v2_447 could_447
def wb_X12_walks_294 (k_s : Nat → Int32) (v2_59 : Int32) (next_67 : Nat → Int32) (v3_254 : Int32) (v4_263 : Int32) (may_263 : Nat → Int32) (L_263 : Int32 → (Nat → Int32) → Prop) (L_294 : Int32 → Int32 → Prop) (v5_294 : Int32) (v6_294 : Int32) : Prop := (((¬ (k_s 6) ≤ v6_294 ∧ v5_294 = 0) → (((((v4_263 >>> (v6_294 &&& 31)) &&& (nI 1)) = (nI 1) → (vp_in ((nI 230) + v6_294) 6700 ∧ ((k_s (((nI 230) + v6_294)).toNatClampNeg) = v3_254 → (vp_in ((nI 236) + v6_294) 6700 ∧ vp_in ((nI 242) + v6_294) 6700))))) ∧ (∀ y0_371 : Int32, y0_371 = (if ((v4_263 >>> (v6_294 &&& 31)) &&& (nI 1)) = (nI 1) then (if (k_s (((nI 230) + v6_294)).toNatClampNeg) = v3_254 then (if (f_X12_in v2_59 (k_s (((nI 236) + v6_294)).toNatClampNeg) (k_s (((nI 242) + v6_294)).toNatClampNeg)) = 0 then (nI 0) else (nI 1)) else (nI 0)) else (nI 0)) → (((¬ y0_371 = 0 → (vp_in (((nI 64) * v3_254) + (v4_263 &&& (((nI 1) <<< (v6_294 &&& 31)) ^^^ (-1)))) 1920))) ∧ (∀ y0_405 : Int32, y0_405 = (if y0_371 = 0 then (nI 0) else (if (next_67 ((((nI 64) * v3_254) + (v4_263 &&& (((nI 1) <<< (v6_294 &&& 31)) ^^^ (-1))))).toNatClampNeg) = 0 then (nI 0) else (nI 1))) → (L_294 y0_405 (v6_294 + (nI 1)))))))) ∧ (¬ ((¬ (k_s 6) ≤ v6_294 ∧ v5_294 = 0)) → (vp_in (((nI 64) * v3_254) + v4_263) 1920 ∧ (L_263 (v4_263 + (nI 1)) (upd may_263 (((((nI 64) * v3_254) + v4_263)).toNatClampNeg) (vp_nar .boolean v5_294))))))
def wl_X12_walks_294 (k_s : Nat → Int32) (v2_59 : Int32) (next_67 : Nat → Int32) (v3_254 : Int32) (v4_263 : Int32) (may_263 : Nat → Int32) (L_263 : Int32 → (Nat → Int32) → Prop) : Nat → Int32 → Int32 → Prop
  | 0, _, _ => False
  | n + 1, v5_294, v6_294 => wb_X12_walks_294 k_s v2_59 next_67 v3_254 v4_263 may_263 L_263 (wl_X12_walks_294 k_s v2_59 next_67 v3_254 v4_263 may_263 L_263 n) v5_294 v6_294
def wb_X12_walks_263 (k_s : Nat → Int32) (v2_59 : Int32) (next_67 : Nat → Int32) (v3_254 : Int32) (L_254 : Int32 → (Nat → Int32) → Prop) (L_263 : Int32 → (Nat → Int32) → Prop) (v4_263 : Int32) (may_263 : Nat → Int32) : Prop := ((((nI 1) <<< ((k_s 6) &&& 31)) ≤ v4_263 → (L_254 (v3_254 + (nI 1)) may_263)) ∧ (¬ ((nI 1) <<< ((k_s 6) &&& 31)) ≤ v4_263 → (vp_in (((nI 64) * v3_254) + v4_263) 1920 ∧ (∀ x_288 : Int32, x_288 = (next_67 ((((nI 64) * v3_254) + v4_263)).toNatClampNeg) → (∃ n, wl_X12_walks_294 k_s v2_59 next_67 v3_254 v4_263 may_263 L_263 n x_288 (nI 0))))))
def wl_X12_walks_263 (k_s : Nat → Int32) (v2_59 : Int32) (next_67 : Nat → Int32) (v3_254 : Int32) (L_254 : Int32 → (Nat → Int32) → Prop) : Nat → Int32 → (Nat → Int32) → Prop
  | 0, _, _ => False
  | n + 1, v4_263, may_263 => wb_X12_walks_263 k_s v2_59 next_67 v3_254 L_254 (wl_X12_walks_263 k_s v2_59 next_67 v3_254 L_254 n) v4_263 may_263
def wb_X12_walks_254 (k_s : Nat → Int32) (v2_59 : Int32) (L_59 : Int32 → (Nat → Int32) → (Nat → Int32) → Prop) (next_67 : Nat → Int32) (L_254 : Int32 → (Nat → Int32) → Prop) (v3_254 : Int32) (may_254 : Nat → Int32) : Prop := (((nI 30) ≤ v3_254 → (L_59 (v2_59 + (nI 1)) may_254 next_67)) ∧ (¬ (nI 30) ≤ v3_254 → (∃ n, wl_X12_walks_263 k_s v2_59 next_67 v3_254 L_254 n (nI 0) may_254)))
def wl_X12_walks_254 (k_s : Nat → Int32) (v2_59 : Int32) (L_59 : Int32 → (Nat → Int32) → (Nat → Int32) → Prop) (next_67 : Nat → Int32) : Nat → Int32 → (Nat → Int32) → Prop
  | 0, _, _ => False
  | n + 1, v3_254, may_254 => wb_X12_walks_254 k_s v2_59 L_59 next_67 (wl_X12_walks_254 k_s v2_59 L_59 next_67 n) v3_254 may_254
def wb_X12_walks_116 (v2_59 : Int32) (may_59 : Nat → Int32) (v3_67 : Int32) (r_77 : Int32) (v5_85 : Int32) (next_85 : Nat → Int32) (L_85 : Int32 → (Nat → Int32) → Prop) (L_116 : Int32 → Int32 → Prop) (v6_116 : Int32) (v7_116 : Int32) : Prop := (((¬ (nI 4) ≤ v7_116 ∧ (¬ v2_59 ≤ 0 ∧ v6_116 = 0)) → (∀ y1_164 : Int32, y1_164 = (if v7_116 = 0 then (nI 1) else (if v7_116 = (nI 1) then (-1) else (if v7_116 = (nI 2) then (nI 6) else (-6)))) → (((¬ (f_X12_isSpot (v3_67 + y1_164)) = 0 → ((¬ (f_X12_areBeside v3_67 (v3_67 + y1_164)) = 0 → (vp_in (((nI 64) * (v3_67 + y1_164)) + v5_85) 1920))))) ∧ (∀ y0_205 : Int32, y0_205 = (if (f_X12_isSpot (v3_67 + y1_164)) = 0 then (nI 0) else (if (f_X12_areBeside v3_67 (v3_67 + y1_164)) = 0 then (nI 0) else (if (may_59 ((((nI 64) * (v3_67 + y1_164)) + v5_85)).toNatClampNeg) = 0 then (nI 0) else (nI 1)))) → (L_116 y0_205 (v7_116 + (nI 1))))))) ∧ (¬ ((¬ (nI 4) ≤ v7_116 ∧ (¬ v2_59 ≤ 0 ∧ v6_116 = 0))) → (∀ y2_239 : Int32, y2_239 = (if v6_116 = 0 then (nI 0) else (if r_77 = 0 then (nI 0) else (nI 1))) → (vp_in (((nI 64) * v3_67) + v5_85) 1920 ∧ (L_85 (v5_85 + (nI 1)) (upd next_85 (((((nI 64) * v3_67) + v5_85)).toNatClampNeg) (vp_nar .boolean y2_239)))))))
def wl_X12_walks_116 (v2_59 : Int32) (may_59 : Nat → Int32) (v3_67 : Int32) (r_77 : Int32) (v5_85 : Int32) (next_85 : Nat → Int32) (L_85 : Int32 → (Nat → Int32) → Prop) : Nat → Int32 → Int32 → Prop
  | 0, _, _ => False
  | n + 1, v6_116, v7_116 => wb_X12_walks_116 v2_59 may_59 v3_67 r_77 v5_85 next_85 L_85 (wl_X12_walks_116 v2_59 may_59 v3_67 r_77 v5_85 next_85 L_85 n) v6_116 v7_116
def wb_X12_walks_85 (k_s : Nat → Int32) (v2_59 : Int32) (may_59 : Nat → Int32) (v3_67 : Int32) (L_67 : Int32 → (Nat → Int32) → Prop) (r_77 : Int32) (L_85 : Int32 → (Nat → Int32) → Prop) (v5_85 : Int32) (next_85 : Nat → Int32) : Prop := ((((nI 1) <<< ((k_s 6) &&& 31)) ≤ v5_85 → (L_67 (v3_67 + (nI 1)) next_85)) ∧ (¬ ((nI 1) <<< ((k_s 6) &&& 31)) ≤ v5_85 → (vp_in (((nI 64) * v3_67) + v5_85) 1920 ∧ (∀ x_110 : Int32, x_110 = (may_59 ((((nI 64) * v3_67) + v5_85)).toNatClampNeg) → (∃ n, wl_X12_walks_116 v2_59 may_59 v3_67 r_77 v5_85 next_85 L_85 n x_110 (nI 0))))))
def wl_X12_walks_85 (k_s : Nat → Int32) (v2_59 : Int32) (may_59 : Nat → Int32) (v3_67 : Int32) (L_67 : Int32 → (Nat → Int32) → Prop) (r_77 : Int32) : Nat → Int32 → (Nat → Int32) → Prop
  | 0, _, _ => False
  | n + 1, v5_85, next_85 => wb_X12_walks_85 k_s v2_59 may_59 v3_67 L_67 r_77 (wl_X12_walks_85 k_s v2_59 may_59 v3_67 L_67 r_77 n) v5_85 next_85
def wb_X12_walks_67 (p1 : Int32) (k_s : Nat → Int32) (v2_59 : Int32) (may_59 : Nat → Int32) (L_59 : Int32 → (Nat → Int32) → (Nat → Int32) → Prop) (L_67 : Int32 → (Nat → Int32) → Prop) (v3_67 : Int32) (next_67 : Nat → Int32) : Prop := (((nI 30) ≤ v3_67 → (∃ n, wl_X12_walks_254 k_s v2_59 L_59 next_67 n (nI 0) may_59)) ∧ (¬ (nI 30) ≤ v3_67 → (wp_X12_canBe p1 v3_67 v2_59 k_s (fun (r_77 : Int32) => (∃ n, wl_X12_walks_85 k_s v2_59 may_59 v3_67 L_67 r_77 n (nI 0) next_67)))))
def wl_X12_walks_67 (p1 : Int32) (k_s : Nat → Int32) (v2_59 : Int32) (may_59 : Nat → Int32) (L_59 : Int32 → (Nat → Int32) → (Nat → Int32) → Prop) : Nat → Int32 → (Nat → Int32) → Prop
  | 0, _, _ => False
  | n + 1, v3_67, next_67 => wb_X12_walks_67 p1 k_s v2_59 may_59 L_59 (wl_X12_walks_67 p1 k_s v2_59 may_59 L_59 n) v3_67 next_67
def wb_X12_walks_59 (p1 : Int32) (k_s : Nat → Int32) (k_could : Nat → Int32) (k_couldNight : Nat → Int32) (k_night : Int32) (Q : (Nat → Int32) → (Nat → Int32) → (Nat → Int32) → (Nat → Int32) → Prop) (L_59 : Int32 → (Nat → Int32) → (Nat → Int32) → Prop) (v2_59 : Int32) (may_59 : Nat → Int32) (next_59 : Nat → Int32) : Prop := (((nI 24) ≤ v2_59 → (∃ n, wl_X12_walks_447 p1 k_couldNight k_night Q may_59 next_59 n (nI 0) k_could)) ∧ (¬ (nI 24) ≤ v2_59 → (∃ n, wl_X12_walks_67 p1 k_s v2_59 may_59 L_59 n (nI 0) next_59)))
def wl_X12_walks_59 (p1 : Int32) (k_s : Nat → Int32) (k_could : Nat → Int32) (k_couldNight : Nat → Int32) (k_night : Int32) (Q : (Nat → Int32) → (Nat → Int32) → (Nat → Int32) → (Nat → Int32) → Prop) : Nat → Int32 → (Nat → Int32) → (Nat → Int32) → Prop
  | 0, _, _, _ => False
  | n + 1, v2_59, may_59, next_59 => wb_X12_walks_59 p1 k_s k_could k_couldNight k_night Q (wl_X12_walks_59 p1 k_s k_could k_couldNight k_night Q n) v2_59 may_59 next_59
def wb_X12_walks_26 (p1 : Int32) (k_s : Nat → Int32) (k_next : Nat → Int32) (k_could : Nat → Int32) (k_couldNight : Nat → Int32) (k_night : Int32) (Q : (Nat → Int32) → (Nat → Int32) → (Nat → Int32) → (Nat → Int32) → Prop) (L_26 : Int32 → (Nat → Int32) → Prop) (v2_26 : Int32) (may_26 : Nat → Int32) : Prop := (((nI 1920) ≤ v2_26 → (∃ n, wl_X12_walks_59 p1 k_s k_could k_couldNight k_night Q n (nI 0) may_26 k_next)) ∧ (¬ (nI 1920) ≤ v2_26 → (∀ y2_50 : Int32, y2_50 = (if (v2_26 - v2_26 / (nI 64) * (nI 64)) = 0 then (nI 1) else (nI 0)) → (vp_in v2_26 1920 ∧ (L_26 (v2_26 + (nI 1)) (upd may_26 ((v2_26).toNatClampNeg) (vp_nar .boolean y2_50)))))))
def wl_X12_walks_26 (p1 : Int32) (k_s : Nat → Int32) (k_next : Nat → Int32) (k_could : Nat → Int32) (k_couldNight : Nat → Int32) (k_night : Int32) (Q : (Nat → Int32) → (Nat → Int32) → (Nat → Int32) → (Nat → Int32) → Prop) : Nat → Int32 → (Nat → Int32) → Prop
  | 0, _, _ => False
  | n + 1, v2_26, may_26 => wb_X12_walks_26 p1 k_s k_next k_could k_couldNight k_night Q (wl_X12_walks_26 p1 k_s k_next k_could k_couldNight k_night Q n) v2_26 may_26
def wp_X12_walks (p1 : Int32) (k_s : Nat → Int32) (k_may : Nat → Int32) (k_next : Nat → Int32) (k_could : Nat → Int32) (k_couldNight : Nat → Int32) (k_night : Int32) (Q : (Nat → Int32) → (Nat → Int32) → (Nat → Int32) → (Nat → Int32) → Prop) : Prop := (vp_in p1 8 ∧ ((¬ (k_couldNight (p1).toNatClampNeg) = k_night → (vp_in p1 8 ∧ (∃ n, wl_X12_walks_26 p1 k_s k_next k_could k_couldNight k_night Q n (nI 0) k_may))) ∧ ((k_couldNight (p1).toNatClampNeg) = k_night → (Q k_may k_next k_could k_couldNight))))
set_option maxHeartbeats 4000000 in
set_option maxRecDepth 100000 in
theorem c_X12_walks {l : Launch} {D : va_G} {cI cZ cJ : ClassId} {h : Nat} {ad : Nat → Nat} {sz : Nat} {k_thrown : Int32} {k_s : Nat → Int32} {k_image : Nat → Int32} {k_hasImage : Int32} {k_steps : Nat → Int32} {k_read : Int32} {k_spot : Int32} {k_isWrong : Int32} {k_open : Int32} {k_act : Int32} {k_letBy : Nat → Int32} {k_letStamp : Nat → Int32} {k_stamp : Int32} {k_fallen : Nat → Int32} {k_held : Nat → Int32} {k_stands : Nat → Int32} {k_falling : Nat → Int32} {k_away : Nat → Int32} {k_round : Nat → Int32} {k_rests : Nat → Int64} {k_may : Nat → Int32} {k_next : Nat → Int32} {k_could : Nat → Int32} {k_couldNight : Nat → Int32} {k_night : Int32} {k_seats : Nat → Int32} {p1 : Int32} {Q : (Nat → Int32) → (Nat → Int32) → (Nat → Int32) → (Nat → Int32) → Prop} (hw : wp_X12_walks p1 k_s k_may k_next k_could k_couldNight k_night Q) : Met l yX12_walks (Cond.code yX12_walks cX12_walks 9 none :: wsG) ({ frames := 2, cells := 0, slots := 0, locals := 42 } : Room) (preW D (tyM cI cZ cJ) (wM cI cZ cJ h ad k_thrown k_s k_image k_hasImage k_steps k_read k_spot k_isWrong k_open k_act k_letBy k_letStamp k_stamp k_fallen k_held k_stands k_falling k_away k_round k_rests k_may k_next k_could k_couldNight k_night k_seats) sz [.ref h, .int p1]) (qv4 D (tyM cI cZ cJ) (va_A (wM cI cZ cJ h ad k_thrown k_s k_image k_hasImage k_steps k_read k_spot k_isWrong k_open k_act k_letBy k_letStamp k_stamp k_fallen k_held k_stands k_falling k_away k_round k_rests k_may k_next k_could k_couldNight k_night k_seats) sz) Q (fun k_may' k_next' k_could' k_couldNight' => (wM cI cZ cJ h ad k_thrown k_s k_image k_hasImage k_steps k_read k_spot k_isWrong k_open k_act k_letBy k_letStamp k_stamp k_fallen k_held k_stands k_falling k_away k_round k_rests k_may' k_next' k_could' k_couldNight' k_night k_seats))) 0 0 (va_A (wM cI cZ cJ h ad k_thrown k_s k_image k_hasImage k_steps k_read k_spot k_isWrong k_open k_act k_letBy k_letStamp k_stamp k_fallen k_held k_stands k_falling k_away k_round k_rests k_may k_next k_could k_couldNight k_night k_seats) sz) := by
  refine st_met (cc := cX12_walks) (maxL := 9) (ret := none) (lv := [(0, .ref h), (1, .int p1)]) (Qc := fun A => qv4 D (tyM cI cZ cJ) A Q (fun k_may' k_next' k_could' k_couldNight' => (wM cI cZ cJ h ad k_thrown k_s k_image k_hasImage k_steps k_read k_spot k_isWrong k_open k_act k_letBy k_letStamp k_stamp k_fallen k_held k_stands k_falling k_away k_round k_rests k_may' k_next' k_could' k_couldNight' k_night k_seats))) (by decide) rfl (Nat.le_of_ble_eq_true rfl) rfl ?_
  intro p e s m below meth c ls A R args QQ H locs C hr hlk hnm hK hX hsz hl hO hR hQQ
  have hx := C.1
  have hb := C.2.1
  have hown := C.2.2.2.1
  have hts := C.2.2.2.2
  have hin : ∀ w ∈ u_ws RX12 TX12 26, w ∈ (Cond.code yX12_walks cX12_walks 9 none :: wsG) := fun w h9 => List.mem_cons_of_mem _ (inG12 w h9)
  have lk_couldNight := hts (Cond.fieldLink RX12 62 "FreeCityModel" "couldNight" "[I") (List.mem_cons_of_mem _ qw5_229)
  have lk_night := hts (Cond.fieldLink RX12 65 "FreeCityModel" "night" "I") (List.mem_cons_of_mem _ qw5_230)
  have lk_may := hts (Cond.fieldLink RX12 53 "FreeCityModel" "may" "[Z") (List.mem_cons_of_mem _ qw5_226)
  have lk_s := hts (Cond.fieldLink RX12 7 "FreeCityModel" "s" "[I") (List.mem_cons_of_mem _ qw5_207)
  have lk_next := hts (Cond.fieldLink RX12 56 "FreeCityModel" "next" "[Z") (List.mem_cons_of_mem _ qw5_227)
  unfold wp_X12_walks at hw
  refine lv_aload_n hx hb dX12_walks_0 rfl (lv_at hl 0 rfl) ?_
  refine gM_couldNight C hin hK lk_couldNight hO dX12_walks_1 ?_
  refine lv_iload_n hx hb dX12_walks_4 rfl (lv_at hl 1 rfl) ?_
  obtain ⟨o_5, hw⟩ := hw
  refine ldM_couldNight C hK hO o_5 rfl dX12_walks_5 ?_
  refine lv_aload_n hx hb dX12_walks_6 rfl (lv_at hl 0 rfl) ?_
  refine gM_night C hin hK lk_night hO dX12_walks_7 ?_
  refine lv_icmp_ne (tgt := 14) hx hb dX12_walks_10 (by decide) (fun q_10 => ?_) (fun q_10 => ?_)
  · have hw := hw.1 q_10
    refine lv_aload_n hx hb dX12_walks_14 rfl (lv_at hl 0 rfl) ?_
    refine gM_couldNight C hin hK lk_couldNight hO dX12_walks_15 ?_
    refine lv_iload_n hx hb dX12_walks_18 rfl (lv_at hl 1 rfl) ?_
    refine lv_aload_n hx hb dX12_walks_19 rfl (lv_at hl 0 rfl) ?_
    refine gM_night C hin hK lk_night hO dX12_walks_20 ?_
    obtain ⟨o_23, hw⟩ := hw
    refine stM_couldNight C hK hO o_23 rfl dX12_walks_23 (fun H locs hO => ?_)
    refine lv_iconst (v := (nI 0)) hx hb dX12_walks_24 (by decide) ?_
    refine lv_istore_n (lv' := [(2, .int (nI 0)), (0, .ref h), (1, .int p1)]) hx hb dX12_walks_25 rfl hl (by decide) rfl (fun ls hl => ?_)
    obtain ⟨n_26, hw⟩ := hw
    have b_26 : ∀ (L_26 : Int32 → (Nat → Int32) → Prop) (ih_26 : ∀ (v2_26 : Int32) (may_26 : Nat → Int32) (H : Heap) (locs : List Loc) (ls : Array Slot), okW D A s.heap H locs (wM cI cZ cJ h ad k_thrown k_s k_image k_hasImage k_steps k_read k_spot k_isWrong k_open k_act k_letBy k_letStamp k_stamp k_fallen k_held k_stands k_falling k_away k_round k_rests may_26 k_next k_could (upd k_couldNight ((p1).toNatClampNeg) k_night) k_night k_seats) → lv_has ls 9 [(0, .ref h), (1, .int p1), (2, .int v2_26)] → L_26 v2_26 may_26 → W p l e R s m args below meth c H locs 0 0 QQ (F0 m 26 ls [])) (v2_26 : Int32) (may_26 : Nat → Int32) (H : Heap) (locs : List Loc) (ls : Array Slot), okW D A s.heap H locs (wM cI cZ cJ h ad k_thrown k_s k_image k_hasImage k_steps k_read k_spot k_isWrong k_open k_act k_letBy k_letStamp k_stamp k_fallen k_held k_stands k_falling k_away k_round k_rests may_26 k_next k_could (upd k_couldNight ((p1).toNatClampNeg) k_night) k_night k_seats) → lv_has ls 9 [(0, .ref h), (1, .int p1), (2, .int v2_26)] → wb_X12_walks_26 p1 k_s k_next k_could k_couldNight k_night Q L_26 v2_26 may_26 → W p l e R s m args below meth c H locs 0 0 QQ (F0 m 26 ls []) := by
      intro L_26 ih_26 v2_26 may_26 H locs ls hO hl hw
      unfold wb_X12_walks_26 at hw
      refine lv_iload_n hx hb dX12_walks_26 rfl (lv_at hl 2 rfl) ?_
      refine lv_sipush (v := (nI 1920)) hx hb dX12_walks_27 (by decide) ?_
      refine lv_icmp_ge (tgt := 57) hx hb dX12_walks_30 (by decide) (fun q_30 => ?_) (fun q_30 => ?_)
      · have hw := hw.1 q_30
        refine lv_iconst (v := (nI 0)) hx hb dX12_walks_57 (by decide) ?_
        refine lv_istore_n (lv' := [(2, .int (nI 0)), (0, .ref h), (1, .int p1)]) hx hb dX12_walks_58 rfl hl (by decide) rfl (fun ls hl => ?_)
        obtain ⟨n_59, hw⟩ := hw
        have b_59 : ∀ (L_59 : Int32 → (Nat → Int32) → (Nat → Int32) → Prop) (ih_59 : ∀ (v2_59 : Int32) (may_59 : Nat → Int32) (next_59 : Nat → Int32) (H : Heap) (locs : List Loc) (ls : Array Slot), okW D A s.heap H locs (wM cI cZ cJ h ad k_thrown k_s k_image k_hasImage k_steps k_read k_spot k_isWrong k_open k_act k_letBy k_letStamp k_stamp k_fallen k_held k_stands k_falling k_away k_round k_rests may_59 next_59 k_could (upd k_couldNight ((p1).toNatClampNeg) k_night) k_night k_seats) → lv_has ls 9 [(0, .ref h), (1, .int p1), (2, .int v2_59)] → L_59 v2_59 may_59 next_59 → W p l e R s m args below meth c H locs 0 0 QQ (F0 m 59 ls [])) (v2_59 : Int32) (may_59 : Nat → Int32) (next_59 : Nat → Int32) (H : Heap) (locs : List Loc) (ls : Array Slot), okW D A s.heap H locs (wM cI cZ cJ h ad k_thrown k_s k_image k_hasImage k_steps k_read k_spot k_isWrong k_open k_act k_letBy k_letStamp k_stamp k_fallen k_held k_stands k_falling k_away k_round k_rests may_59 next_59 k_could (upd k_couldNight ((p1).toNatClampNeg) k_night) k_night k_seats) → lv_has ls 9 [(0, .ref h), (1, .int p1), (2, .int v2_59)] → wb_X12_walks_59 p1 k_s k_could k_couldNight k_night Q L_59 v2_59 may_59 next_59 → W p l e R s m args below meth c H locs 0 0 QQ (F0 m 59 ls []) := by
          intro L_59 ih_59 v2_59 may_59 next_59 H locs ls hO hl hw
          unfold wb_X12_walks_59 at hw
          refine lv_iload_n hx hb dX12_walks_59 rfl (lv_at hl 2 rfl) ?_
          refine lv_bipush (v := (nI 24)) hx hb dX12_walks_60 (by decide) ?_
          refine lv_icmp_ge (tgt := 445) hx hb dX12_walks_62 (by decide) (fun q_62 => ?_) (fun q_62 => ?_)
          · have hw := hw.1 q_62
            refine lv_iconst (v := (nI 0)) hx hb dX12_walks_445 (by decide) ?_
            refine lv_istore_n (lv' := [(2, .int (nI 0)), (0, .ref h), (1, .int p1)]) hx hb dX12_walks_446 rfl hl (by decide) rfl (fun ls hl => ?_)
            obtain ⟨n_447, hw⟩ := hw
            have b_447 : ∀ (L_447 : Int32 → (Nat → Int32) → Prop) (ih_447 : ∀ (v2_447 : Int32) (could_447 : Nat → Int32) (H : Heap) (locs : List Loc) (ls : Array Slot), okW D A s.heap H locs (wM cI cZ cJ h ad k_thrown k_s k_image k_hasImage k_steps k_read k_spot k_isWrong k_open k_act k_letBy k_letStamp k_stamp k_fallen k_held k_stands k_falling k_away k_round k_rests may_59 next_59 could_447 (upd k_couldNight ((p1).toNatClampNeg) k_night) k_night k_seats) → lv_has ls 9 [(0, .ref h), (1, .int p1), (2, .int v2_447)] → L_447 v2_447 could_447 → W p l e R s m args below meth c H locs 0 0 QQ (F0 m 447 ls [])) (v2_447 : Int32) (could_447 : Nat → Int32) (H : Heap) (locs : List Loc) (ls : Array Slot), okW D A s.heap H locs (wM cI cZ cJ h ad k_thrown k_s k_image k_hasImage k_steps k_read k_spot k_isWrong k_open k_act k_letBy k_letStamp k_stamp k_fallen k_held k_stands k_falling k_away k_round k_rests may_59 next_59 could_447 (upd k_couldNight ((p1).toNatClampNeg) k_night) k_night k_seats) → lv_has ls 9 [(0, .ref h), (1, .int p1), (2, .int v2_447)] → wb_X12_walks_447 p1 k_couldNight k_night Q may_59 next_59 L_447 v2_447 could_447 → W p l e R s m args below meth c H locs 0 0 QQ (F0 m 447 ls []) := by
              intro L_447 ih_447 v2_447 could_447 H locs ls hO hl hw
              unfold wb_X12_walks_447 at hw
              refine lv_iload_n hx hb dX12_walks_447 rfl (lv_at hl 2 rfl) ?_
              refine lv_bipush (v := (nI 64)) hx hb dX12_walks_448 (by decide) ?_
              refine lv_icmp_ge (tgt := 465) hx hb dX12_walks_450 (by decide) (fun q_450 => ?_) (fun q_450 => ?_)
              · have hw := hw.1 q_450
                exact rv4 hQQ hx hb hr hlk hK hO hw dX12_walks_465
              · have hw := hw.2 q_450
                refine lv_aload_n hx hb dX12_walks_453 rfl (lv_at hl 0 rfl) ?_
                refine lv_iload_n hx hb dX12_walks_454 rfl (lv_at hl 1 rfl) ?_
                refine lv_iload_n hx hb dX12_walks_455 rfl (lv_at hl 2 rfl) ?_
                refine cVv1 (As := [.int p1, .int v2_447]) (rest := []) C hK hX hO (c_X12_finds_ (l := l) hw) (cwV 2 hts gd_X12_237 rfl rfl rfl hd_X12_finds_ (rok hR (Nat.le_of_ble_eq_true rfl) (Nat.le_of_ble_eq_true rfl))) (ci := 12) (q0 := 0) rfl rfl rfl rfl hl.1 rfl (Nat.le_of_ble_eq_true rfl) dX12_walks_456 ⟨Nat.zero_le _, Nat.zero_le _⟩ (fun could_456 H locs hw hO => ?_)
                refine lv_iinc (v := (v2_447 + (nI 1))) (lv' := [(2, .int (v2_447 + (nI 1))), (0, .ref h), (1, .int p1)]) hx hb dX12_walks_459 hl (k := 2) rfl (iinc_1 _) (by decide) rfl (fun ls hl => ?_)
                refine lv_goto (tgt := 447) hx hb dX12_walks_462 (by decide) ?_
                exact ih_447 (v2_447 + (nI 1)) could_456 _ _ _ hO (lv_sub hl [1, 2, 0] rfl) hw
            have l_447 : ∀ (n : Nat) (v2_447 : Int32) (could_447 : Nat → Int32) (H : Heap) (locs : List Loc) (ls : Array Slot), okW D A s.heap H locs (wM cI cZ cJ h ad k_thrown k_s k_image k_hasImage k_steps k_read k_spot k_isWrong k_open k_act k_letBy k_letStamp k_stamp k_fallen k_held k_stands k_falling k_away k_round k_rests may_59 next_59 could_447 (upd k_couldNight ((p1).toNatClampNeg) k_night) k_night k_seats) → lv_has ls 9 [(0, .ref h), (1, .int p1), (2, .int v2_447)] → wl_X12_walks_447 p1 k_couldNight k_night Q may_59 next_59 n v2_447 could_447 → W p l e R s m args below meth c H locs 0 0 QQ (F0 m 447 ls []) := by
              intro n
              induction n with
              | zero => intro v2_447 could_447 H locs ls hO hl hw; exact False.elim hw
              | succ n ih => exact b_447 _ ih
            exact l_447 n_447 (nI 0) k_could _ _ _ hO (lv_sub hl [1, 2, 0] rfl) hw
          · have hw := hw.2 q_62
            refine lv_iconst (v := (nI 0)) hx hb dX12_walks_65 (by decide) ?_
            refine lv_istore_n (lv' := [(3, .int (nI 0)), (0, .ref h), (1, .int p1), (2, .int v2_59)]) hx hb dX12_walks_66 rfl hl (by decide) rfl (fun ls hl => ?_)
            obtain ⟨n_67, hw⟩ := hw
            have b_67 : ∀ (L_67 : Int32 → (Nat → Int32) → Prop) (ih_67 : ∀ (v3_67 : Int32) (next_67 : Nat → Int32) (H : Heap) (locs : List Loc) (ls : Array Slot), okW D A s.heap H locs (wM cI cZ cJ h ad k_thrown k_s k_image k_hasImage k_steps k_read k_spot k_isWrong k_open k_act k_letBy k_letStamp k_stamp k_fallen k_held k_stands k_falling k_away k_round k_rests may_59 next_67 k_could (upd k_couldNight ((p1).toNatClampNeg) k_night) k_night k_seats) → lv_has ls 9 [(0, .ref h), (1, .int p1), (2, .int v2_59), (3, .int v3_67)] → L_67 v3_67 next_67 → W p l e R s m args below meth c H locs 0 0 QQ (F0 m 67 ls [])) (v3_67 : Int32) (next_67 : Nat → Int32) (H : Heap) (locs : List Loc) (ls : Array Slot), okW D A s.heap H locs (wM cI cZ cJ h ad k_thrown k_s k_image k_hasImage k_steps k_read k_spot k_isWrong k_open k_act k_letBy k_letStamp k_stamp k_fallen k_held k_stands k_falling k_away k_round k_rests may_59 next_67 k_could (upd k_couldNight ((p1).toNatClampNeg) k_night) k_night k_seats) → lv_has ls 9 [(0, .ref h), (1, .int p1), (2, .int v2_59), (3, .int v3_67)] → wb_X12_walks_67 p1 k_s v2_59 may_59 L_59 L_67 v3_67 next_67 → W p l e R s m args below meth c H locs 0 0 QQ (F0 m 67 ls []) := by
              intro L_67 ih_67 v3_67 next_67 H locs ls hO hl hw
              unfold wb_X12_walks_67 at hw
              refine lv_iload_n hx hb dX12_walks_67 rfl (lv_at hl 3 rfl) ?_
              refine lv_bipush (v := (nI 30)) hx hb dX12_walks_68 (by decide) ?_
              refine lv_icmp_ge (tgt := 252) hx hb dX12_walks_70 (by decide) (fun q_70 => ?_) (fun q_70 => ?_)
              · have hw := hw.1 q_70
                refine lv_iconst (v := (nI 0)) hx hb dX12_walks_252 (by decide) ?_
                refine lv_istore_n (lv' := [(3, .int (nI 0)), (0, .ref h), (1, .int p1), (2, .int v2_59)]) hx hb dX12_walks_253 rfl hl (by decide) rfl (fun ls hl => ?_)
                obtain ⟨n_254, hw⟩ := hw
                have b_254 : ∀ (L_254 : Int32 → (Nat → Int32) → Prop) (ih_254 : ∀ (v3_254 : Int32) (may_254 : Nat → Int32) (H : Heap) (locs : List Loc) (ls : Array Slot), okW D A s.heap H locs (wM cI cZ cJ h ad k_thrown k_s k_image k_hasImage k_steps k_read k_spot k_isWrong k_open k_act k_letBy k_letStamp k_stamp k_fallen k_held k_stands k_falling k_away k_round k_rests may_254 next_67 k_could (upd k_couldNight ((p1).toNatClampNeg) k_night) k_night k_seats) → lv_has ls 9 [(0, .ref h), (1, .int p1), (2, .int v2_59), (3, .int v3_254)] → L_254 v3_254 may_254 → W p l e R s m args below meth c H locs 0 0 QQ (F0 m 254 ls [])) (v3_254 : Int32) (may_254 : Nat → Int32) (H : Heap) (locs : List Loc) (ls : Array Slot), okW D A s.heap H locs (wM cI cZ cJ h ad k_thrown k_s k_image k_hasImage k_steps k_read k_spot k_isWrong k_open k_act k_letBy k_letStamp k_stamp k_fallen k_held k_stands k_falling k_away k_round k_rests may_254 next_67 k_could (upd k_couldNight ((p1).toNatClampNeg) k_night) k_night k_seats) → lv_has ls 9 [(0, .ref h), (1, .int p1), (2, .int v2_59), (3, .int v3_254)] → wb_X12_walks_254 k_s v2_59 L_59 next_67 L_254 v3_254 may_254 → W p l e R s m args below meth c H locs 0 0 QQ (F0 m 254 ls []) := by
                  intro L_254 ih_254 v3_254 may_254 H locs ls hO hl hw
                  unfold wb_X12_walks_254 at hw
                  refine lv_iload_n hx hb dX12_walks_254 rfl (lv_at hl 3 rfl) ?_
                  refine lv_bipush (v := (nI 30)) hx hb dX12_walks_255 (by decide) ?_
                  refine lv_icmp_ge (tgt := 439) hx hb dX12_walks_257 (by decide) (fun q_257 => ?_) (fun q_257 => ?_)
                  · have hw := hw.1 q_257
                    refine lv_iinc (v := (v2_59 + (nI 1))) (lv' := [(2, .int (v2_59 + (nI 1))), (0, .ref h), (1, .int p1), (3, .int v3_254)]) hx hb dX12_walks_439 hl (k := 2) rfl (iinc_1 _) (by decide) rfl (fun ls hl => ?_)
                    refine lv_goto (tgt := 59) hx hb dX12_walks_442 (by decide) ?_
                    exact ih_59 (v2_59 + (nI 1)) may_254 next_67 _ _ _ hO (lv_sub hl [1, 2, 0] rfl) hw
                  · have hw := hw.2 q_257
                    refine lv_iconst (v := (nI 0)) hx hb dX12_walks_260 (by decide) ?_
                    refine lv_istore (lv' := [(4, .int (nI 0)), (0, .ref h), (1, .int p1), (2, .int v2_59), (3, .int v3_254)]) hx hb dX12_walks_261 hl (by decide) rfl (fun ls hl => ?_)
                    obtain ⟨n_263, hw⟩ := hw
                    have b_263 : ∀ (L_263 : Int32 → (Nat → Int32) → Prop) (ih_263 : ∀ (v4_263 : Int32) (may_263 : Nat → Int32) (H : Heap) (locs : List Loc) (ls : Array Slot), okW D A s.heap H locs (wM cI cZ cJ h ad k_thrown k_s k_image k_hasImage k_steps k_read k_spot k_isWrong k_open k_act k_letBy k_letStamp k_stamp k_fallen k_held k_stands k_falling k_away k_round k_rests may_263 next_67 k_could (upd k_couldNight ((p1).toNatClampNeg) k_night) k_night k_seats) → lv_has ls 9 [(0, .ref h), (1, .int p1), (2, .int v2_59), (3, .int v3_254), (4, .int v4_263)] → L_263 v4_263 may_263 → W p l e R s m args below meth c H locs 0 0 QQ (F0 m 263 ls [])) (v4_263 : Int32) (may_263 : Nat → Int32) (H : Heap) (locs : List Loc) (ls : Array Slot), okW D A s.heap H locs (wM cI cZ cJ h ad k_thrown k_s k_image k_hasImage k_steps k_read k_spot k_isWrong k_open k_act k_letBy k_letStamp k_stamp k_fallen k_held k_stands k_falling k_away k_round k_rests may_263 next_67 k_could (upd k_couldNight ((p1).toNatClampNeg) k_night) k_night k_seats) → lv_has ls 9 [(0, .ref h), (1, .int p1), (2, .int v2_59), (3, .int v3_254), (4, .int v4_263)] → wb_X12_walks_263 k_s v2_59 next_67 v3_254 L_254 L_263 v4_263 may_263 → W p l e R s m args below meth c H locs 0 0 QQ (F0 m 263 ls []) := by
                      intro L_263 ih_263 v4_263 may_263 H locs ls hO hl hw
                      unfold wb_X12_walks_263 at hw
                      refine lv_iload hx hb dX12_walks_263 (lv_at hl 4 rfl) ?_
                      refine lv_iconst (v := (nI 1)) hx hb dX12_walks_265 (by decide) ?_
                      refine lv_aload_n hx hb dX12_walks_266 rfl (lv_at hl 0 rfl) ?_
                      refine gM_s C hin hK lk_s hO dX12_walks_267 ?_
                      refine lv_bipush (v := (nI 6)) hx hb dX12_walks_270 (by decide) ?_
                      refine ldM_s C hK hO (inK 6 6700 (by decide) (by decide)) (clK 6 (by decide)) dX12_walks_272 ?_
                      refine lv_ishl hx hb dX12_walks_273 ?_
                      refine lv_icmp_ge (tgt := 433) hx hb dX12_walks_274 (by decide) (fun q_274 => ?_) (fun q_274 => ?_)
                      · have hw := hw.1 q_274
                        refine lv_iinc (v := (v3_254 + (nI 1))) (lv' := [(3, .int (v3_254 + (nI 1))), (0, .ref h), (1, .int p1), (2, .int v2_59), (4, .int v4_263)]) hx hb dX12_walks_433 hl (k := 3) rfl (iinc_1 _) (by decide) rfl (fun ls hl => ?_)
                        refine lv_goto (tgt := 254) hx hb dX12_walks_436 (by decide) ?_
                        exact ih_254 (v3_254 + (nI 1)) may_263 _ _ _ hO (lv_sub hl [1, 2, 3, 0] rfl) hw
                      · have hw := hw.2 q_274
                        refine lv_aload_n hx hb dX12_walks_277 rfl (lv_at hl 0 rfl) ?_
                        refine gM_next C hin hK lk_next hO dX12_walks_278 ?_
                        refine lv_bipush (v := (nI 64)) hx hb dX12_walks_281 (by decide) ?_
                        refine lv_iload_n hx hb dX12_walks_283 rfl (lv_at hl 3 rfl) ?_
                        refine lv_imul hx hb dX12_walks_284 ?_
                        refine lv_iload hx hb dX12_walks_285 (lv_at hl 4 rfl) ?_
                        refine lv_iadd hx hb dX12_walks_287 ?_
                        obtain ⟨o_288, hw⟩ := hw
                        refine ldM_next C hK hO o_288 rfl dX12_walks_288 ?_
                        refine lv_topi (fun x_288 ex_288 => ?_)
                        have hw := hw x_288 ex_288
                        refine lv_istore (lv' := [(5, .int x_288), (0, .ref h), (1, .int p1), (2, .int v2_59), (3, .int v3_254), (4, .int v4_263)]) hx hb dX12_walks_289 hl (by decide) rfl (fun ls hl => ?_)
                        refine lv_iconst (v := (nI 0)) hx hb dX12_walks_291 (by decide) ?_
                        refine lv_istore (lv' := [(6, .int (nI 0)), (5, .int x_288), (0, .ref h), (1, .int p1), (2, .int v2_59), (3, .int v3_254), (4, .int v4_263)]) hx hb dX12_walks_292 hl (by decide) rfl (fun ls hl => ?_)
                        obtain ⟨n_294, hw⟩ := hw
                        have b_294 : ∀ (L_294 : Int32 → Int32 → Prop) (ih_294 : ∀ (v5_294 : Int32) (v6_294 : Int32) (H : Heap) (locs : List Loc) (ls : Array Slot), okW D A s.heap H locs (wM cI cZ cJ h ad k_thrown k_s k_image k_hasImage k_steps k_read k_spot k_isWrong k_open k_act k_letBy k_letStamp k_stamp k_fallen k_held k_stands k_falling k_away k_round k_rests may_263 next_67 k_could (upd k_couldNight ((p1).toNatClampNeg) k_night) k_night k_seats) → lv_has ls 9 [(0, .ref h), (1, .int p1), (2, .int v2_59), (3, .int v3_254), (4, .int v4_263), (5, .int v5_294), (6, .int v6_294)] → L_294 v5_294 v6_294 → W p l e R s m args below meth c H locs 0 0 QQ (F0 m 294 ls [])) (v5_294 : Int32) (v6_294 : Int32) (H : Heap) (locs : List Loc) (ls : Array Slot), okW D A s.heap H locs (wM cI cZ cJ h ad k_thrown k_s k_image k_hasImage k_steps k_read k_spot k_isWrong k_open k_act k_letBy k_letStamp k_stamp k_fallen k_held k_stands k_falling k_away k_round k_rests may_263 next_67 k_could (upd k_couldNight ((p1).toNatClampNeg) k_night) k_night k_seats) → lv_has ls 9 [(0, .ref h), (1, .int p1), (2, .int v2_59), (3, .int v3_254), (4, .int v4_263), (5, .int v5_294), (6, .int v6_294)] → wb_X12_walks_294 k_s v2_59 next_67 v3_254 v4_263 may_263 L_263 L_294 v5_294 v6_294 → W p l e R s m args below meth c H locs 0 0 QQ (F0 m 294 ls []) := by
                          intro L_294 ih_294 v5_294 v6_294 H locs ls hO hl hw
                          unfold wb_X12_walks_294 at hw
                          refine lv_iload hx hb dX12_walks_294 (lv_at hl 6 rfl) ?_
                          refine lv_aload_n hx hb dX12_walks_296 rfl (lv_at hl 0 rfl) ?_
                          refine gM_s C hin hK lk_s hO dX12_walks_297 ?_
                          refine lv_bipush (v := (nI 6)) hx hb dX12_walks_300 (by decide) ?_
                          refine ldM_s C hK hO (inK 6 6700 (by decide) (by decide)) (clK 6 (by decide)) dX12_walks_302 ?_
                          have a_311 : (¬ (k_s 6) ≤ v6_294 ∧ v5_294 = 0) → ∀ (H : Heap) (locs : List Loc) (ls : Array Slot), okW D A s.heap H locs (wM cI cZ cJ h ad k_thrown k_s k_image k_hasImage k_steps k_read k_spot k_isWrong k_open k_act k_letBy k_letStamp k_stamp k_fallen k_held k_stands k_falling k_away k_round k_rests may_263 next_67 k_could (upd k_couldNight ((p1).toNatClampNeg) k_night) k_night k_seats) → lv_has ls 9 [(0, .ref h), (1, .int p1), (2, .int v2_59), (3, .int v3_254), (4, .int v4_263), (6, .int v6_294)] → W p l e R s m args below meth c H locs 0 0 QQ (F0 m 311 ls []) := by
                            intro cf H locs ls hO hl
                            have hw := hw.1 cf
                            refine lv_iload hx hb dX12_walks_311 (lv_at hl 4 rfl) ?_
                            refine lv_iload hx hb dX12_walks_313 (lv_at hl 5 rfl) ?_
                            refine lv_ishr hx hb dX12_walks_315 ?_
                            refine lv_iconst (v := (nI 1)) hx hb dX12_walks_316 (by decide) ?_
                            refine lv_iand hx hb dX12_walks_317 ?_
                            refine lv_iconst (v := (nI 1)) hx hb dX12_walks_318 (by decide) ?_
                            obtain ⟨hs, hw⟩ := hw
                            have m_371 : ∀ (y0_371 : Int32) (H : Heap) (locs : List Loc) (ls : Array Slot), y0_371 = (if ((v4_263 >>> (v6_294 &&& 31)) &&& (nI 1)) = (nI 1) then (if (k_s (((nI 230) + v6_294)).toNatClampNeg) = v3_254 then (if (f_X12_in v2_59 (k_s (((nI 236) + v6_294)).toNatClampNeg) (k_s (((nI 242) + v6_294)).toNatClampNeg)) = 0 then (nI 0) else (nI 1)) else (nI 0)) else (nI 0)) → okW D A s.heap H locs (wM cI cZ cJ h ad k_thrown k_s k_image k_hasImage k_steps k_read k_spot k_isWrong k_open k_act k_letBy k_letStamp k_stamp k_fallen k_held k_stands k_falling k_away k_round k_rests may_263 next_67 k_could (upd k_couldNight ((p1).toNatClampNeg) k_night) k_night k_seats) → lv_has ls 9 [(0, .ref h), (1, .int p1), (2, .int v2_59), (3, .int v3_254), (4, .int v4_263), (6, .int v6_294)] → W p l e R s m args below meth c H locs 0 0 QQ (F0 m 371 ls [.int y0_371]) := by
                              intro y0_371 H locs ls ey0_371 hO hl
                              have hw := hw y0_371 ey0_371
                              refine lv_istore (lv' := [(7, .int y0_371), (0, .ref h), (1, .int p1), (2, .int v2_59), (3, .int v3_254), (4, .int v4_263), (6, .int v6_294)]) hx hb dX12_walks_371 hl (by decide) rfl (fun ls hl => ?_)
                              refine lv_iload hx hb dX12_walks_373 (lv_at hl 0 rfl) ?_
                              obtain ⟨hs, hw⟩ := hw
                              have m_405 : ∀ (y0_405 : Int32) (H : Heap) (locs : List Loc) (ls : Array Slot), y0_405 = (if y0_371 = 0 then (nI 0) else (if (next_67 ((((nI 64) * v3_254) + (v4_263 &&& (((nI 1) <<< (v6_294 &&& 31)) ^^^ (-1))))).toNatClampNeg) = 0 then (nI 0) else (nI 1))) → okW D A s.heap H locs (wM cI cZ cJ h ad k_thrown k_s k_image k_hasImage k_steps k_read k_spot k_isWrong k_open k_act k_letBy k_letStamp k_stamp k_fallen k_held k_stands k_falling k_away k_round k_rests may_263 next_67 k_could (upd k_couldNight ((p1).toNatClampNeg) k_night) k_night k_seats) → lv_has ls 9 [(0, .ref h), (1, .int p1), (2, .int v2_59), (3, .int v3_254), (4, .int v4_263), (6, .int v6_294)] → W p l e R s m args below meth c H locs 0 0 QQ (F0 m 405 ls [.int y0_405]) := by
                                intro y0_405 H locs ls ey0_405 hO hl
                                have hw := hw y0_405 ey0_405
                                refine lv_istore (lv' := [(5, .int y0_405), (0, .ref h), (1, .int p1), (2, .int v2_59), (3, .int v3_254), (4, .int v4_263), (6, .int v6_294)]) hx hb dX12_walks_405 hl (by decide) rfl (fun ls hl => ?_)
                                refine lv_iinc (v := (v6_294 + (nI 1))) (lv' := [(6, .int (v6_294 + (nI 1))), (5, .int y0_405), (0, .ref h), (1, .int p1), (2, .int v2_59), (3, .int v3_254), (4, .int v4_263)]) hx hb dX12_walks_407 hl (k := 6) rfl (iinc_1 _) (by decide) rfl (fun ls hl => ?_)
                                refine lv_goto (tgt := 294) hx hb dX12_walks_410 (by decide) ?_
                                exact ih_294 y0_405 (v6_294 + (nI 1)) _ _ _ hO (lv_sub hl [2, 3, 4, 5, 6, 1, 0] rfl) hw
                              refine lv_if_eq (tgt := 404) hx hb dX12_walks_375 (by decide) (fun q_375 => ?_) (fun q_375 => ?_)
                              · refine lv_iconst (v := (nI 0)) hx hb dX12_walks_404 (by decide) ?_
                                have hl := lv_sub hl [1, 2, 3, 4, 5, 6] rfl (l' := [(0, .ref h), (1, .int p1), (2, .int v2_59), (3, .int v3_254), (4, .int v4_263), (6, .int v6_294)])
                                exact m_405 _ _ _ _ (by rw [if_pos q_375]) hO hl
                              · have hs := hs q_375
                                have o_396 := hs
                                refine lv_aload_n hx hb dX12_walks_378 rfl (lv_at hl 1 rfl) ?_
                                refine gM_next C hin hK lk_next hO dX12_walks_379 ?_
                                refine lv_bipush (v := (nI 64)) hx hb dX12_walks_382 (by decide) ?_
                                refine lv_iload_n hx hb dX12_walks_384 rfl (lv_at hl 4 rfl) ?_
                                refine lv_imul hx hb dX12_walks_385 ?_
                                refine lv_iload hx hb dX12_walks_386 (lv_at hl 5 rfl) ?_
                                refine lv_iconst (v := (nI 1)) hx hb dX12_walks_388 (by decide) ?_
                                refine lv_iload hx hb dX12_walks_389 (lv_at hl 6 rfl) ?_
                                refine lv_ishl hx hb dX12_walks_391 ?_
                                refine lv_iconst (v := (-1)) hx hb dX12_walks_392 (by decide) ?_
                                refine lv_ixor hx hb dX12_walks_393 ?_
                                refine lv_iand hx hb dX12_walks_394 ?_
                                refine lv_iadd hx hb dX12_walks_395 ?_
                                refine ldM_next C hK hO o_396 rfl dX12_walks_396 ?_
                                refine lv_if_eq (tgt := 404) hx hb dX12_walks_397 (by decide) (fun q_397 => ?_) (fun q_397 => ?_)
                                · refine lv_iconst (v := (nI 0)) hx hb dX12_walks_404 (by decide) ?_
                                  have hl := lv_sub hl [1, 2, 3, 4, 5, 6] rfl (l' := [(0, .ref h), (1, .int p1), (2, .int v2_59), (3, .int v3_254), (4, .int v4_263), (6, .int v6_294)])
                                  exact m_405 _ _ _ _ (by rw [if_neg q_375, if_pos q_397]) hO hl
                                · refine lv_iconst (v := (nI 1)) hx hb dX12_walks_400 (by decide) ?_
                                  refine lv_goto (tgt := 405) hx hb dX12_walks_401 (by decide) ?_
                                  have hl := lv_sub hl [1, 2, 3, 4, 5, 6] rfl (l' := [(0, .ref h), (1, .int p1), (2, .int v2_59), (3, .int v3_254), (4, .int v4_263), (6, .int v6_294)])
                                  exact m_405 _ _ _ _ (by rw [if_neg q_375, if_neg q_397]) hO hl
                            refine lv_icmp_ne (tgt := 370) hx hb dX12_walks_319 (by decide) (fun q_319 => ?_) (fun q_319 => ?_)
                            · refine lv_iconst (v := (nI 0)) hx hb dX12_walks_370 (by decide) ?_
                              have hl := lv_sub hl [0, 1, 2, 3, 4, 5] rfl (l' := [(0, .ref h), (1, .int p1), (2, .int v2_59), (3, .int v3_254), (4, .int v4_263), (6, .int v6_294)])
                              exact m_371 _ _ _ _ (by rw [if_neg q_319]) hO hl
                            · have hs := hs q_319
                              obtain ⟨o_332, hs⟩ := hs
                              refine lv_aload_n hx hb dX12_walks_322 rfl (lv_at hl 0 rfl) ?_
                              refine gM_s C hin hK lk_s hO dX12_walks_323 ?_
                              refine lv_sipush (v := (nI 230)) hx hb dX12_walks_326 (by decide) ?_
                              refine lv_iload hx hb dX12_walks_329 (lv_at hl 5 rfl) ?_
                              refine lv_iadd hx hb dX12_walks_331 ?_
                              refine ldM_s C hK hO o_332 rfl dX12_walks_332 ?_
                              refine lv_iload_n hx hb dX12_walks_333 rfl (lv_at hl 3 rfl) ?_
                              refine lv_icmp_ne (tgt := 370) hx hb dX12_walks_334 (by decide) (fun q_334 => ?_) (fun q_334 => ?_)
                              · refine lv_iconst (v := (nI 0)) hx hb dX12_walks_370 (by decide) ?_
                                have hl := lv_sub hl [0, 1, 2, 3, 4, 5] rfl (l' := [(0, .ref h), (1, .int p1), (2, .int v2_59), (3, .int v3_254), (4, .int v4_263), (6, .int v6_294)])
                                exact m_371 _ _ _ _ (by rw [if_pos q_319, if_neg q_334]) hO hl
                              · have hs := hs q_334
                                obtain ⟨o_348, o_359⟩ := hs
                                refine lv_iload_n hx hb dX12_walks_337 rfl (lv_at hl 2 rfl) ?_
                                refine lv_aload_n hx hb dX12_walks_338 rfl (lv_at hl 0 rfl) ?_
                                refine gM_s C hin hK lk_s hO dX12_walks_339 ?_
                                refine lv_sipush (v := (nI 236)) hx hb dX12_walks_342 (by decide) ?_
                                refine lv_iload hx hb dX12_walks_345 (lv_at hl 5 rfl) ?_
                                refine lv_iadd hx hb dX12_walks_347 ?_
                                refine ldM_s C hK hO o_348 rfl dX12_walks_348 ?_
                                refine lv_aload_n hx hb dX12_walks_349 rfl (lv_at hl 0 rfl) ?_
                                refine gM_s C hin hK lk_s hO dX12_walks_350 ?_
                                refine lv_sipush (v := (nI 242)) hx hb dX12_walks_353 (by decide) ?_
                                refine lv_iload hx hb dX12_walks_356 (lv_at hl 5 rfl) ?_
                                refine lv_iadd hx hb dX12_walks_358 ?_
                                refine ldM_s C hK hO o_359 rfl dX12_walks_359 ?_
                                refine cSi0 (As := [.int v2_59, .int (k_s (((nI 236) + v6_294)).toNatClampNeg), .int (k_s (((nI 242) + v6_294)).toNatClampNeg)]) (rest := []) C hK hX hO (c_X12_in (l := l)) (va_cwS 3 hts gd_X12_74 rfl rfl rfl hd_X12_in (rok hR (Nat.le_of_ble_eq_true rfl) (Nat.le_of_ble_eq_true rfl))) rfl hl.1 rfl (Nat.le_of_ble_eq_true rfl) dX12_walks_360 ⟨Nat.zero_le _, Nat.zero_le _⟩ (fun r_360 H locs e_360 hO => ?_)
                                subst e_360
                                refine lv_if_eq (tgt := 370) hx hb dX12_walks_363 (by decide) (fun q_363 => ?_) (fun q_363 => ?_)
                                · refine lv_iconst (v := (nI 0)) hx hb dX12_walks_370 (by decide) ?_
                                  have hl := lv_sub hl [0, 1, 2, 3, 4, 5] rfl (l' := [(0, .ref h), (1, .int p1), (2, .int v2_59), (3, .int v3_254), (4, .int v4_263), (6, .int v6_294)])
                                  exact m_371 _ _ _ _ (by rw [if_pos q_319, if_pos q_334, if_pos q_363]) hO hl
                                · refine lv_iconst (v := (nI 1)) hx hb dX12_walks_366 (by decide) ?_
                                  refine lv_goto (tgt := 371) hx hb dX12_walks_367 (by decide) ?_
                                  have hl := lv_sub hl [0, 1, 2, 3, 4, 5] rfl (l' := [(0, .ref h), (1, .int p1), (2, .int v2_59), (3, .int v3_254), (4, .int v4_263), (6, .int v6_294)])
                                  exact m_371 _ _ _ _ (by rw [if_pos q_319, if_pos q_334, if_neg q_363]) hO hl
                          have a_413 : ¬ ((¬ (k_s 6) ≤ v6_294 ∧ v5_294 = 0)) → ∀ (H : Heap) (locs : List Loc) (ls : Array Slot), okW D A s.heap H locs (wM cI cZ cJ h ad k_thrown k_s k_image k_hasImage k_steps k_read k_spot k_isWrong k_open k_act k_letBy k_letStamp k_stamp k_fallen k_held k_stands k_falling k_away k_round k_rests may_263 next_67 k_could (upd k_couldNight ((p1).toNatClampNeg) k_night) k_night k_seats) → lv_has ls 9 [(0, .ref h), (1, .int p1), (2, .int v2_59), (3, .int v3_254), (4, .int v4_263), (5, .int v5_294)] → W p l e R s m args below meth c H locs 0 0 QQ (F0 m 413 ls []) := by
                            intro cf H locs ls hO hl
                            have hw := hw.2 cf
                            refine lv_aload_n hx hb dX12_walks_413 rfl (lv_at hl 0 rfl) ?_
                            refine gM_may C hin hK lk_may hO dX12_walks_414 ?_
                            refine lv_bipush (v := (nI 64)) hx hb dX12_walks_417 (by decide) ?_
                            refine lv_iload_n hx hb dX12_walks_419 rfl (lv_at hl 3 rfl) ?_
                            refine lv_imul hx hb dX12_walks_420 ?_
                            refine lv_iload hx hb dX12_walks_421 (lv_at hl 4 rfl) ?_
                            refine lv_iadd hx hb dX12_walks_423 ?_
                            refine lv_iload hx hb dX12_walks_424 (lv_at hl 5 rfl) ?_
                            obtain ⟨o_426, hw⟩ := hw
                            refine stM_may C hK hO o_426 rfl dX12_walks_426 (fun H locs hO => ?_)
                            refine lv_iinc (v := (v4_263 + (nI 1))) (lv' := [(4, .int (v4_263 + (nI 1))), (0, .ref h), (1, .int p1), (2, .int v2_59), (3, .int v3_254), (5, .int v5_294)]) hx hb dX12_walks_427 hl (k := 4) rfl (iinc_1 _) (by decide) rfl (fun ls hl => ?_)
                            refine lv_goto (tgt := 263) hx hb dX12_walks_430 (by decide) ?_
                            exact ih_263 (v4_263 + (nI 1)) (upd may_263 (((((nI 64) * v3_254) + v4_263)).toNatClampNeg) (vp_nar .boolean v5_294)) _ _ _ hO (lv_sub hl [1, 2, 3, 4, 0] rfl) hw
                          refine lv_icmp_ge (tgt := 413) hx hb dX12_walks_303 (by decide) (fun q_303 => ?_) (fun q_303 => ?_)
                          · have hl := lv_sub hl [0, 1, 2, 3, 4, 5] rfl (l' := [(0, .ref h), (1, .int p1), (2, .int v2_59), (3, .int v3_254), (4, .int v4_263), (5, .int v5_294)])
                            exact a_413 (fun h => h.1 q_303) _ _ _ hO hl
                          · refine lv_iload hx hb dX12_walks_306 (lv_at hl 5 rfl) ?_
                            refine lv_if_ne (tgt := 413) hx hb dX12_walks_308 (by decide) (fun q_308 => ?_) (fun q_308 => ?_)
                            · have hl := lv_sub hl [0, 1, 2, 3, 4, 5] rfl (l' := [(0, .ref h), (1, .int p1), (2, .int v2_59), (3, .int v3_254), (4, .int v4_263), (5, .int v5_294)])
                              exact a_413 (fun h => (q_308) h.2) _ _ _ hO hl
                            · have hl := lv_sub hl [0, 1, 2, 3, 4, 6] rfl (l' := [(0, .ref h), (1, .int p1), (2, .int v2_59), (3, .int v3_254), (4, .int v4_263), (6, .int v6_294)])
                              exact a_311 ⟨q_303, q_308⟩ _ _ _ hO hl
                        have l_294 : ∀ (n : Nat) (v5_294 : Int32) (v6_294 : Int32) (H : Heap) (locs : List Loc) (ls : Array Slot), okW D A s.heap H locs (wM cI cZ cJ h ad k_thrown k_s k_image k_hasImage k_steps k_read k_spot k_isWrong k_open k_act k_letBy k_letStamp k_stamp k_fallen k_held k_stands k_falling k_away k_round k_rests may_263 next_67 k_could (upd k_couldNight ((p1).toNatClampNeg) k_night) k_night k_seats) → lv_has ls 9 [(0, .ref h), (1, .int p1), (2, .int v2_59), (3, .int v3_254), (4, .int v4_263), (5, .int v5_294), (6, .int v6_294)] → wl_X12_walks_294 k_s v2_59 next_67 v3_254 v4_263 may_263 L_263 n v5_294 v6_294 → W p l e R s m args below meth c H locs 0 0 QQ (F0 m 294 ls []) := by
                          intro n
                          induction n with
                          | zero => intro v5_294 v6_294 H locs ls hO hl hw; exact False.elim hw
                          | succ n ih => exact b_294 _ ih
                        exact l_294 n_294 x_288 (nI 0) _ _ _ hO (lv_sub hl [2, 3, 4, 5, 6, 1, 0] rfl) hw
                    have l_263 : ∀ (n : Nat) (v4_263 : Int32) (may_263 : Nat → Int32) (H : Heap) (locs : List Loc) (ls : Array Slot), okW D A s.heap H locs (wM cI cZ cJ h ad k_thrown k_s k_image k_hasImage k_steps k_read k_spot k_isWrong k_open k_act k_letBy k_letStamp k_stamp k_fallen k_held k_stands k_falling k_away k_round k_rests may_263 next_67 k_could (upd k_couldNight ((p1).toNatClampNeg) k_night) k_night k_seats) → lv_has ls 9 [(0, .ref h), (1, .int p1), (2, .int v2_59), (3, .int v3_254), (4, .int v4_263)] → wl_X12_walks_263 k_s v2_59 next_67 v3_254 L_254 n v4_263 may_263 → W p l e R s m args below meth c H locs 0 0 QQ (F0 m 263 ls []) := by
                      intro n
                      induction n with
                      | zero => intro v4_263 may_263 H locs ls hO hl hw; exact False.elim hw
                      | succ n ih => exact b_263 _ ih
                    exact l_263 n_263 (nI 0) may_254 _ _ _ hO (lv_sub hl [1, 2, 3, 4, 0] rfl) hw
                have l_254 : ∀ (n : Nat) (v3_254 : Int32) (may_254 : Nat → Int32) (H : Heap) (locs : List Loc) (ls : Array Slot), okW D A s.heap H locs (wM cI cZ cJ h ad k_thrown k_s k_image k_hasImage k_steps k_read k_spot k_isWrong k_open k_act k_letBy k_letStamp k_stamp k_fallen k_held k_stands k_falling k_away k_round k_rests may_254 next_67 k_could (upd k_couldNight ((p1).toNatClampNeg) k_night) k_night k_seats) → lv_has ls 9 [(0, .ref h), (1, .int p1), (2, .int v2_59), (3, .int v3_254)] → wl_X12_walks_254 k_s v2_59 L_59 next_67 n v3_254 may_254 → W p l e R s m args below meth c H locs 0 0 QQ (F0 m 254 ls []) := by
                  intro n
                  induction n with
                  | zero => intro v3_254 may_254 H locs ls hO hl hw; exact False.elim hw
                  | succ n ih => exact b_254 _ ih
                exact l_254 n_254 (nI 0) may_59 _ _ _ hO (lv_sub hl [1, 2, 3, 0] rfl) hw
              · have hw := hw.2 q_70
                refine lv_aload_n hx hb dX12_walks_73 rfl (lv_at hl 0 rfl) ?_
                refine lv_iload_n hx hb dX12_walks_74 rfl (lv_at hl 1 rfl) ?_
                refine lv_iload_n hx hb dX12_walks_75 rfl (lv_at hl 3 rfl) ?_
                refine lv_iload_n hx hb dX12_walks_76 rfl (lv_at hl 2 rfl) ?_
                refine cVi0 (As := [.int p1, .int v3_67, .int v2_59]) (rest := []) C hK hX hO (c_X12_canBe (l := l) hw) (cwV 3 hts gd_X12_234 rfl rfl rfl hd_X12_canBe (rok hR (Nat.le_of_ble_eq_true rfl) (Nat.le_of_ble_eq_true rfl))) (ci := 12) (q0 := 0) rfl rfl rfl rfl hl.1 rfl (Nat.le_of_ble_eq_true rfl) dX12_walks_77 ⟨Nat.zero_le _, Nat.zero_le _⟩ (fun r_77 H locs hw hO => ?_)
                refine lv_istore (lv' := [(4, .int r_77), (0, .ref h), (1, .int p1), (2, .int v2_59), (3, .int v3_67)]) hx hb dX12_walks_80 hl (by decide) rfl (fun ls hl => ?_)
                refine lv_iconst (v := (nI 0)) hx hb dX12_walks_82 (by decide) ?_
                refine lv_istore (lv' := [(5, .int (nI 0)), (4, .int r_77), (0, .ref h), (1, .int p1), (2, .int v2_59), (3, .int v3_67)]) hx hb dX12_walks_83 hl (by decide) rfl (fun ls hl => ?_)
                obtain ⟨n_85, hw⟩ := hw
                have b_85 : ∀ (L_85 : Int32 → (Nat → Int32) → Prop) (ih_85 : ∀ (v5_85 : Int32) (next_85 : Nat → Int32) (H : Heap) (locs : List Loc) (ls : Array Slot), okW D A s.heap H locs (wM cI cZ cJ h ad k_thrown k_s k_image k_hasImage k_steps k_read k_spot k_isWrong k_open k_act k_letBy k_letStamp k_stamp k_fallen k_held k_stands k_falling k_away k_round k_rests may_59 next_85 k_could (upd k_couldNight ((p1).toNatClampNeg) k_night) k_night k_seats) → lv_has ls 9 [(0, .ref h), (1, .int p1), (2, .int v2_59), (3, .int v3_67), (4, .int r_77), (5, .int v5_85)] → L_85 v5_85 next_85 → W p l e R s m args below meth c H locs 0 0 QQ (F0 m 85 ls [])) (v5_85 : Int32) (next_85 : Nat → Int32) (H : Heap) (locs : List Loc) (ls : Array Slot), okW D A s.heap H locs (wM cI cZ cJ h ad k_thrown k_s k_image k_hasImage k_steps k_read k_spot k_isWrong k_open k_act k_letBy k_letStamp k_stamp k_fallen k_held k_stands k_falling k_away k_round k_rests may_59 next_85 k_could (upd k_couldNight ((p1).toNatClampNeg) k_night) k_night k_seats) → lv_has ls 9 [(0, .ref h), (1, .int p1), (2, .int v2_59), (3, .int v3_67), (4, .int r_77), (5, .int v5_85)] → wb_X12_walks_85 k_s v2_59 may_59 v3_67 L_67 r_77 L_85 v5_85 next_85 → W p l e R s m args below meth c H locs 0 0 QQ (F0 m 85 ls []) := by
                  intro L_85 ih_85 v5_85 next_85 H locs ls hO hl hw
                  unfold wb_X12_walks_85 at hw
                  refine lv_iload hx hb dX12_walks_85 (lv_at hl 5 rfl) ?_
                  refine lv_iconst (v := (nI 1)) hx hb dX12_walks_87 (by decide) ?_
                  refine lv_aload_n hx hb dX12_walks_88 rfl (lv_at hl 0 rfl) ?_
                  refine gM_s C hin hK lk_s hO dX12_walks_89 ?_
                  refine lv_bipush (v := (nI 6)) hx hb dX12_walks_92 (by decide) ?_
                  refine ldM_s C hK hO (inK 6 6700 (by decide) (by decide)) (clK 6 (by decide)) dX12_walks_94 ?_
                  refine lv_ishl hx hb dX12_walks_95 ?_
                  refine lv_icmp_ge (tgt := 246) hx hb dX12_walks_96 (by decide) (fun q_96 => ?_) (fun q_96 => ?_)
                  · have hw := hw.1 q_96
                    refine lv_iinc (v := (v3_67 + (nI 1))) (lv' := [(3, .int (v3_67 + (nI 1))), (0, .ref h), (1, .int p1), (2, .int v2_59), (4, .int r_77), (5, .int v5_85)]) hx hb dX12_walks_246 hl (k := 3) rfl (iinc_1 _) (by decide) rfl (fun ls hl => ?_)
                    refine lv_goto (tgt := 67) hx hb dX12_walks_249 (by decide) ?_
                    exact ih_67 (v3_67 + (nI 1)) next_85 _ _ _ hO (lv_sub hl [1, 2, 3, 0] rfl) hw
                  · have hw := hw.2 q_96
                    refine lv_aload_n hx hb dX12_walks_99 rfl (lv_at hl 0 rfl) ?_
                    refine gM_may C hin hK lk_may hO dX12_walks_100 ?_
                    refine lv_bipush (v := (nI 64)) hx hb dX12_walks_103 (by decide) ?_
                    refine lv_iload_n hx hb dX12_walks_105 rfl (lv_at hl 3 rfl) ?_
                    refine lv_imul hx hb dX12_walks_106 ?_
                    refine lv_iload hx hb dX12_walks_107 (lv_at hl 5 rfl) ?_
                    refine lv_iadd hx hb dX12_walks_109 ?_
                    obtain ⟨o_110, hw⟩ := hw
                    refine ldM_may C hK hO o_110 rfl dX12_walks_110 ?_
                    refine lv_topi (fun x_110 ex_110 => ?_)
                    have hw := hw x_110 ex_110
                    refine lv_istore (lv' := [(6, .int x_110), (0, .ref h), (1, .int p1), (2, .int v2_59), (3, .int v3_67), (4, .int r_77), (5, .int v5_85)]) hx hb dX12_walks_111 hl (by decide) rfl (fun ls hl => ?_)
                    refine lv_iconst (v := (nI 0)) hx hb dX12_walks_113 (by decide) ?_
                    refine lv_istore (lv' := [(7, .int (nI 0)), (6, .int x_110), (0, .ref h), (1, .int p1), (2, .int v2_59), (3, .int v3_67), (4, .int r_77), (5, .int v5_85)]) hx hb dX12_walks_114 hl (by decide) rfl (fun ls hl => ?_)
                    obtain ⟨n_116, hw⟩ := hw
                    have b_116 : ∀ (L_116 : Int32 → Int32 → Prop) (ih_116 : ∀ (v6_116 : Int32) (v7_116 : Int32) (H : Heap) (locs : List Loc) (ls : Array Slot), okW D A s.heap H locs (wM cI cZ cJ h ad k_thrown k_s k_image k_hasImage k_steps k_read k_spot k_isWrong k_open k_act k_letBy k_letStamp k_stamp k_fallen k_held k_stands k_falling k_away k_round k_rests may_59 next_85 k_could (upd k_couldNight ((p1).toNatClampNeg) k_night) k_night k_seats) → lv_has ls 9 [(0, .ref h), (1, .int p1), (2, .int v2_59), (3, .int v3_67), (4, .int r_77), (5, .int v5_85), (6, .int v6_116), (7, .int v7_116)] → L_116 v6_116 v7_116 → W p l e R s m args below meth c H locs 0 0 QQ (F0 m 116 ls [])) (v6_116 : Int32) (v7_116 : Int32) (H : Heap) (locs : List Loc) (ls : Array Slot), okW D A s.heap H locs (wM cI cZ cJ h ad k_thrown k_s k_image k_hasImage k_steps k_read k_spot k_isWrong k_open k_act k_letBy k_letStamp k_stamp k_fallen k_held k_stands k_falling k_away k_round k_rests may_59 next_85 k_could (upd k_couldNight ((p1).toNatClampNeg) k_night) k_night k_seats) → lv_has ls 9 [(0, .ref h), (1, .int p1), (2, .int v2_59), (3, .int v3_67), (4, .int r_77), (5, .int v5_85), (6, .int v6_116), (7, .int v7_116)] → wb_X12_walks_116 v2_59 may_59 v3_67 r_77 v5_85 next_85 L_85 L_116 v6_116 v7_116 → W p l e R s m args below meth c H locs 0 0 QQ (F0 m 116 ls []) := by
                      intro L_116 ih_116 v6_116 v7_116 H locs ls hO hl hw
                      unfold wb_X12_walks_116 at hw
                      refine lv_iload hx hb dX12_walks_116 (lv_at hl 7 rfl) ?_
                      refine lv_iconst (v := (nI 4)) hx hb dX12_walks_118 (by decide) ?_
                      have a_131 : (¬ (nI 4) ≤ v7_116 ∧ (¬ v2_59 ≤ 0 ∧ v6_116 = 0)) → ∀ (H : Heap) (locs : List Loc) (ls : Array Slot), okW D A s.heap H locs (wM cI cZ cJ h ad k_thrown k_s k_image k_hasImage k_steps k_read k_spot k_isWrong k_open k_act k_letBy k_letStamp k_stamp k_fallen k_held k_stands k_falling k_away k_round k_rests may_59 next_85 k_could (upd k_couldNight ((p1).toNatClampNeg) k_night) k_night k_seats) → lv_has ls 9 [(0, .ref h), (1, .int p1), (2, .int v2_59), (3, .int v3_67), (4, .int r_77), (5, .int v5_85), (7, .int v7_116)] → W p l e R s m args below meth c H locs 0 0 QQ (F0 m 131 ls []) := by
                        intro cf H locs ls hO hl
                        have hw := hw.1 cf
                        refine lv_iload_n hx hb dX12_walks_131 rfl (lv_at hl 3 rfl) ?_
                        refine lv_iload hx hb dX12_walks_132 (lv_at hl 6 rfl) ?_
                        have m_164 : ∀ (y1_164 : Int32) (H : Heap) (locs : List Loc) (ls : Array Slot), y1_164 = (if v7_116 = 0 then (nI 1) else (if v7_116 = (nI 1) then (-1) else (if v7_116 = (nI 2) then (nI 6) else (-6)))) → okW D A s.heap H locs (wM cI cZ cJ h ad k_thrown k_s k_image k_hasImage k_steps k_read k_spot k_isWrong k_open k_act k_letBy k_letStamp k_stamp k_fallen k_held k_stands k_falling k_away k_round k_rests may_59 next_85 k_could (upd k_couldNight ((p1).toNatClampNeg) k_night) k_night k_seats) → lv_has ls 9 [(0, .ref h), (1, .int p1), (2, .int v2_59), (3, .int v3_67), (4, .int r_77), (5, .int v5_85), (7, .int v7_116)] → W p l e R s m args below meth c H locs 0 0 QQ (F0 m 164 ls [.int y1_164, .int v3_67]) := by
                          intro y1_164 H locs ls ey1_164 hO hl
                          have hw := hw y1_164 ey1_164
                          refine lv_iadd hx hb dX12_walks_164 ?_
                          refine lv_istore (lv' := [(8, .int (v3_67 + y1_164)), (0, .ref h), (1, .int p1), (2, .int v2_59), (3, .int v3_67), (4, .int r_77), (5, .int v5_85), (7, .int v7_116)]) hx hb dX12_walks_165 hl (by decide) rfl (fun ls hl => ?_)
                          refine lv_iload hx hb dX12_walks_167 (lv_at hl 0 rfl) ?_
                          refine cSi0 (As := [.int (v3_67 + y1_164)]) (rest := []) C hK hX hO (c_X12_isSpot (l := l)) (va_cwS 1 hts gd_X12_78 rfl rfl rfl hd_X12_isSpot (rok hR (Nat.le_of_ble_eq_true rfl) (Nat.le_of_ble_eq_true rfl))) rfl hl.1 rfl (Nat.le_of_ble_eq_true rfl) dX12_walks_169 ⟨Nat.zero_le _, Nat.zero_le _⟩ (fun r_169 H locs e_169 hO => ?_)
                          subst e_169
                          obtain ⟨hs, hw⟩ := hw
                          have m_205 : ∀ (y0_205 : Int32) (H : Heap) (locs : List Loc) (ls : Array Slot), y0_205 = (if (f_X12_isSpot (v3_67 + y1_164)) = 0 then (nI 0) else (if (f_X12_areBeside v3_67 (v3_67 + y1_164)) = 0 then (nI 0) else (if (may_59 ((((nI 64) * (v3_67 + y1_164)) + v5_85)).toNatClampNeg) = 0 then (nI 0) else (nI 1)))) → okW D A s.heap H locs (wM cI cZ cJ h ad k_thrown k_s k_image k_hasImage k_steps k_read k_spot k_isWrong k_open k_act k_letBy k_letStamp k_stamp k_fallen k_held k_stands k_falling k_away k_round k_rests may_59 next_85 k_could (upd k_couldNight ((p1).toNatClampNeg) k_night) k_night k_seats) → lv_has ls 9 [(0, .ref h), (1, .int p1), (2, .int v2_59), (3, .int v3_67), (4, .int r_77), (5, .int v5_85), (7, .int v7_116)] → W p l e R s m args below meth c H locs 0 0 QQ (F0 m 205 ls [.int y0_205]) := by
                            intro y0_205 H locs ls ey0_205 hO hl
                            have hw := hw y0_205 ey0_205
                            refine lv_istore (lv' := [(6, .int y0_205), (0, .ref h), (1, .int p1), (2, .int v2_59), (3, .int v3_67), (4, .int r_77), (5, .int v5_85), (7, .int v7_116)]) hx hb dX12_walks_205 hl (by decide) rfl (fun ls hl => ?_)
                            refine lv_iinc (v := (v7_116 + (nI 1))) (lv' := [(7, .int (v7_116 + (nI 1))), (6, .int y0_205), (0, .ref h), (1, .int p1), (2, .int v2_59), (3, .int v3_67), (4, .int r_77), (5, .int v5_85)]) hx hb dX12_walks_207 hl (k := 7) rfl (iinc_1 _) (by decide) rfl (fun ls hl => ?_)
                            refine lv_goto (tgt := 116) hx hb dX12_walks_210 (by decide) ?_
                            exact ih_116 y0_205 (v7_116 + (nI 1)) _ _ _ hO (lv_sub hl [2, 3, 4, 5, 6, 7, 1, 0] rfl) hw
                          refine lv_if_eq (tgt := 204) hx hb dX12_walks_172 (by decide) (fun q_172 => ?_) (fun q_172 => ?_)
                          · refine lv_iconst (v := (nI 0)) hx hb dX12_walks_204 (by decide) ?_
                            have hl := lv_sub hl [1, 2, 3, 4, 5, 6, 7] rfl (l' := [(0, .ref h), (1, .int p1), (2, .int v2_59), (3, .int v3_67), (4, .int r_77), (5, .int v5_85), (7, .int v7_116)])
                            exact m_205 _ _ _ _ (by rw [if_pos q_172]) hO hl
                          · have hs := hs q_172
                            refine lv_iload_n hx hb dX12_walks_175 rfl (lv_at hl 4 rfl) ?_
                            refine lv_iload hx hb dX12_walks_176 (lv_at hl 0 rfl) ?_
                            refine cSi0 (As := [.int v3_67, .int (v3_67 + y1_164)]) (rest := []) C hK hX hO (c_X12_areBeside (l := l)) (va_cwS 2 hts gd_X12_82 rfl rfl rfl hd_X12_areBeside (rok hR (Nat.le_of_ble_eq_true rfl) (Nat.le_of_ble_eq_true rfl))) rfl hl.1 rfl (Nat.le_of_ble_eq_true rfl) dX12_walks_178 ⟨Nat.zero_le _, Nat.zero_le _⟩ (fun r_178 H locs e_178 hO => ?_)
                            subst e_178
                            refine lv_if_eq (tgt := 204) hx hb dX12_walks_181 (by decide) (fun q_181 => ?_) (fun q_181 => ?_)
                            · refine lv_iconst (v := (nI 0)) hx hb dX12_walks_204 (by decide) ?_
                              have hl := lv_sub hl [1, 2, 3, 4, 5, 6, 7] rfl (l' := [(0, .ref h), (1, .int p1), (2, .int v2_59), (3, .int v3_67), (4, .int r_77), (5, .int v5_85), (7, .int v7_116)])
                              exact m_205 _ _ _ _ (by rw [if_neg q_172, if_pos q_181]) hO hl
                            · have hs := hs q_181
                              have o_196 := hs
                              refine lv_aload_n hx hb dX12_walks_184 rfl (lv_at hl 1 rfl) ?_
                              refine gM_may C hin hK lk_may hO dX12_walks_185 ?_
                              refine lv_bipush (v := (nI 64)) hx hb dX12_walks_188 (by decide) ?_
                              refine lv_iload hx hb dX12_walks_190 (lv_at hl 0 rfl) ?_
                              refine lv_imul hx hb dX12_walks_192 ?_
                              refine lv_iload hx hb dX12_walks_193 (lv_at hl 6 rfl) ?_
                              refine lv_iadd hx hb dX12_walks_195 ?_
                              refine ldM_may C hK hO o_196 rfl dX12_walks_196 ?_
                              refine lv_if_eq (tgt := 204) hx hb dX12_walks_197 (by decide) (fun q_197 => ?_) (fun q_197 => ?_)
                              · refine lv_iconst (v := (nI 0)) hx hb dX12_walks_204 (by decide) ?_
                                have hl := lv_sub hl [1, 2, 3, 4, 5, 6, 7] rfl (l' := [(0, .ref h), (1, .int p1), (2, .int v2_59), (3, .int v3_67), (4, .int r_77), (5, .int v5_85), (7, .int v7_116)])
                                exact m_205 _ _ _ _ (by rw [if_neg q_172, if_neg q_181, if_pos q_197]) hO hl
                              · refine lv_iconst (v := (nI 1)) hx hb dX12_walks_200 (by decide) ?_
                                refine lv_goto (tgt := 205) hx hb dX12_walks_201 (by decide) ?_
                                have hl := lv_sub hl [1, 2, 3, 4, 5, 6, 7] rfl (l' := [(0, .ref h), (1, .int p1), (2, .int v2_59), (3, .int v3_67), (4, .int r_77), (5, .int v5_85), (7, .int v7_116)])
                                exact m_205 _ _ _ _ (by rw [if_neg q_172, if_neg q_181, if_neg q_197]) hO hl
                        refine lv_if_ne (tgt := 141) hx hb dX12_walks_134 (by decide) (fun q_134 => ?_) (fun q_134 => ?_)
                        · refine lv_iload hx hb dX12_walks_141 (lv_at hl 6 rfl) ?_
                          refine lv_iconst (v := (nI 1)) hx hb dX12_walks_143 (by decide) ?_
                          refine lv_icmp_ne (tgt := 151) hx hb dX12_walks_144 (by decide) (fun q_144 => ?_) (fun q_144 => ?_)
                          · refine lv_iload hx hb dX12_walks_151 (lv_at hl 6 rfl) ?_
                            refine lv_iconst (v := (nI 2)) hx hb dX12_walks_153 (by decide) ?_
                            refine lv_icmp_ne (tgt := 162) hx hb dX12_walks_154 (by decide) (fun q_154 => ?_) (fun q_154 => ?_)
                            · refine lv_bipush (v := (-6)) hx hb dX12_walks_162 (by decide) ?_
                              have hl := lv_sub hl [0, 1, 2, 3, 4, 5, 6] rfl (l' := [(0, .ref h), (1, .int p1), (2, .int v2_59), (3, .int v3_67), (4, .int r_77), (5, .int v5_85), (7, .int v7_116)])
                              exact m_164 _ _ _ _ (by rw [if_neg q_134, if_neg q_144, if_neg q_154]) hO hl
                            · refine lv_bipush (v := (nI 6)) hx hb dX12_walks_157 (by decide) ?_
                              refine lv_goto (tgt := 164) hx hb dX12_walks_159 (by decide) ?_
                              have hl := lv_sub hl [0, 1, 2, 3, 4, 5, 6] rfl (l' := [(0, .ref h), (1, .int p1), (2, .int v2_59), (3, .int v3_67), (4, .int r_77), (5, .int v5_85), (7, .int v7_116)])
                              exact m_164 _ _ _ _ (by rw [if_neg q_134, if_neg q_144, if_pos q_154]) hO hl
                          · refine lv_iconst (v := (-1)) hx hb dX12_walks_147 (by decide) ?_
                            refine lv_goto (tgt := 164) hx hb dX12_walks_148 (by decide) ?_
                            have hl := lv_sub hl [0, 1, 2, 3, 4, 5, 6] rfl (l' := [(0, .ref h), (1, .int p1), (2, .int v2_59), (3, .int v3_67), (4, .int r_77), (5, .int v5_85), (7, .int v7_116)])
                            exact m_164 _ _ _ _ (by rw [if_neg q_134, if_pos q_144]) hO hl
                        · refine lv_iconst (v := (nI 1)) hx hb dX12_walks_137 (by decide) ?_
                          refine lv_goto (tgt := 164) hx hb dX12_walks_138 (by decide) ?_
                          have hl := lv_sub hl [0, 1, 2, 3, 4, 5, 6] rfl (l' := [(0, .ref h), (1, .int p1), (2, .int v2_59), (3, .int v3_67), (4, .int r_77), (5, .int v5_85), (7, .int v7_116)])
                          exact m_164 _ _ _ _ (by rw [if_pos q_134]) hO hl
                      have a_213 : ¬ ((¬ (nI 4) ≤ v7_116 ∧ (¬ v2_59 ≤ 0 ∧ v6_116 = 0))) → ∀ (H : Heap) (locs : List Loc) (ls : Array Slot), okW D A s.heap H locs (wM cI cZ cJ h ad k_thrown k_s k_image k_hasImage k_steps k_read k_spot k_isWrong k_open k_act k_letBy k_letStamp k_stamp k_fallen k_held k_stands k_falling k_away k_round k_rests may_59 next_85 k_could (upd k_couldNight ((p1).toNatClampNeg) k_night) k_night k_seats) → lv_has ls 9 [(0, .ref h), (1, .int p1), (2, .int v2_59), (3, .int v3_67), (4, .int r_77), (5, .int v5_85), (6, .int v6_116)] → W p l e R s m args below meth c H locs 0 0 QQ (F0 m 213 ls []) := by
                        intro cf H locs ls hO hl
                        have hw := hw.2 cf
                        refine lv_aload_n hx hb dX12_walks_213 rfl (lv_at hl 0 rfl) ?_
                        refine gM_next C hin hK lk_next hO dX12_walks_214 ?_
                        refine lv_bipush (v := (nI 64)) hx hb dX12_walks_217 (by decide) ?_
                        refine lv_iload_n hx hb dX12_walks_219 rfl (lv_at hl 3 rfl) ?_
                        refine lv_imul hx hb dX12_walks_220 ?_
                        refine lv_iload hx hb dX12_walks_221 (lv_at hl 5 rfl) ?_
                        refine lv_iadd hx hb dX12_walks_223 ?_
                        refine lv_iload hx hb dX12_walks_224 (lv_at hl 6 rfl) ?_
                        have m_239 : ∀ (y2_239 : Int32) (H : Heap) (locs : List Loc) (ls : Array Slot), y2_239 = (if v6_116 = 0 then (nI 0) else (if r_77 = 0 then (nI 0) else (nI 1))) → okW D A s.heap H locs (wM cI cZ cJ h ad k_thrown k_s k_image k_hasImage k_steps k_read k_spot k_isWrong k_open k_act k_letBy k_letStamp k_stamp k_fallen k_held k_stands k_falling k_away k_round k_rests may_59 next_85 k_could (upd k_couldNight ((p1).toNatClampNeg) k_night) k_night k_seats) → lv_has ls 9 [(0, .ref h), (1, .int p1), (2, .int v2_59), (3, .int v3_67), (4, .int r_77), (5, .int v5_85)] → W p l e R s m args below meth c H locs 0 0 QQ (F0 m 239 ls [.int y2_239, .int (((nI 64) * v3_67) + v5_85), .ref (ad 21)]) := by
                          intro y2_239 H locs ls ey2_239 hO hl
                          have hw := hw y2_239 ey2_239
                          obtain ⟨o_239, hw⟩ := hw
                          refine stM_next C hK hO o_239 rfl dX12_walks_239 (fun H locs hO => ?_)
                          refine lv_iinc (v := (v5_85 + (nI 1))) (lv' := [(5, .int (v5_85 + (nI 1))), (0, .ref h), (1, .int p1), (2, .int v2_59), (3, .int v3_67), (4, .int r_77)]) hx hb dX12_walks_240 hl (k := 5) rfl (iinc_1 _) (by decide) rfl (fun ls hl => ?_)
                          refine lv_goto (tgt := 85) hx hb dX12_walks_243 (by decide) ?_
                          exact ih_85 (v5_85 + (nI 1)) (upd next_85 (((((nI 64) * v3_67) + v5_85)).toNatClampNeg) (vp_nar .boolean y2_239)) _ _ _ hO (lv_sub hl [1, 2, 3, 4, 5, 0] rfl) hw
                        refine lv_if_eq (tgt := 238) hx hb dX12_walks_226 (by decide) (fun q_226 => ?_) (fun q_226 => ?_)
                        · refine lv_iconst (v := (nI 0)) hx hb dX12_walks_238 (by decide) ?_
                          have hl := lv_sub hl [0, 1, 2, 3, 4, 5] rfl (l' := [(0, .ref h), (1, .int p1), (2, .int v2_59), (3, .int v3_67), (4, .int r_77), (5, .int v5_85)])
                          exact m_239 _ _ _ _ (by rw [if_pos q_226]) hO hl
                        · refine lv_iload hx hb dX12_walks_229 (lv_at hl 4 rfl) ?_
                          refine lv_if_eq (tgt := 238) hx hb dX12_walks_231 (by decide) (fun q_231 => ?_) (fun q_231 => ?_)
                          · refine lv_iconst (v := (nI 0)) hx hb dX12_walks_238 (by decide) ?_
                            have hl := lv_sub hl [0, 1, 2, 3, 4, 5] rfl (l' := [(0, .ref h), (1, .int p1), (2, .int v2_59), (3, .int v3_67), (4, .int r_77), (5, .int v5_85)])
                            exact m_239 _ _ _ _ (by rw [if_neg q_226, if_pos q_231]) hO hl
                          · refine lv_iconst (v := (nI 1)) hx hb dX12_walks_234 (by decide) ?_
                            refine lv_goto (tgt := 239) hx hb dX12_walks_235 (by decide) ?_
                            have hl := lv_sub hl [0, 1, 2, 3, 4, 5] rfl (l' := [(0, .ref h), (1, .int p1), (2, .int v2_59), (3, .int v3_67), (4, .int r_77), (5, .int v5_85)])
                            exact m_239 _ _ _ _ (by rw [if_neg q_226, if_neg q_231]) hO hl
                      refine lv_icmp_ge (tgt := 213) hx hb dX12_walks_119 (by decide) (fun q_119 => ?_) (fun q_119 => ?_)
                      · have hl := lv_sub hl [0, 1, 2, 3, 4, 5, 6] rfl (l' := [(0, .ref h), (1, .int p1), (2, .int v2_59), (3, .int v3_67), (4, .int r_77), (5, .int v5_85), (6, .int v6_116)])
                        exact a_213 (fun h => h.1 q_119) _ _ _ hO hl
                      · refine lv_iload_n hx hb dX12_walks_122 rfl (lv_at hl 2 rfl) ?_
                        refine lv_if_le (tgt := 213) hx hb dX12_walks_123 (by decide) (fun q_123 => ?_) (fun q_123 => ?_)
                        · have hl := lv_sub hl [0, 1, 2, 3, 4, 5, 6] rfl (l' := [(0, .ref h), (1, .int p1), (2, .int v2_59), (3, .int v3_67), (4, .int r_77), (5, .int v5_85), (6, .int v6_116)])
                          exact a_213 (fun h => ((fun h => h.1 q_123)) h.2) _ _ _ hO hl
                        · refine lv_iload hx hb dX12_walks_126 (lv_at hl 6 rfl) ?_
                          refine lv_if_ne (tgt := 213) hx hb dX12_walks_128 (by decide) (fun q_128 => ?_) (fun q_128 => ?_)
                          · have hl := lv_sub hl [0, 1, 2, 3, 4, 5, 6] rfl (l' := [(0, .ref h), (1, .int p1), (2, .int v2_59), (3, .int v3_67), (4, .int r_77), (5, .int v5_85), (6, .int v6_116)])
                            exact a_213 (fun h => ((fun h => (q_128) h.2)) h.2) _ _ _ hO hl
                          · have hl := lv_sub hl [0, 1, 2, 3, 4, 5, 7] rfl (l' := [(0, .ref h), (1, .int p1), (2, .int v2_59), (3, .int v3_67), (4, .int r_77), (5, .int v5_85), (7, .int v7_116)])
                            exact a_131 ⟨q_119, ⟨q_123, q_128⟩⟩ _ _ _ hO hl
                    have l_116 : ∀ (n : Nat) (v6_116 : Int32) (v7_116 : Int32) (H : Heap) (locs : List Loc) (ls : Array Slot), okW D A s.heap H locs (wM cI cZ cJ h ad k_thrown k_s k_image k_hasImage k_steps k_read k_spot k_isWrong k_open k_act k_letBy k_letStamp k_stamp k_fallen k_held k_stands k_falling k_away k_round k_rests may_59 next_85 k_could (upd k_couldNight ((p1).toNatClampNeg) k_night) k_night k_seats) → lv_has ls 9 [(0, .ref h), (1, .int p1), (2, .int v2_59), (3, .int v3_67), (4, .int r_77), (5, .int v5_85), (6, .int v6_116), (7, .int v7_116)] → wl_X12_walks_116 v2_59 may_59 v3_67 r_77 v5_85 next_85 L_85 n v6_116 v7_116 → W p l e R s m args below meth c H locs 0 0 QQ (F0 m 116 ls []) := by
                      intro n
                      induction n with
                      | zero => intro v6_116 v7_116 H locs ls hO hl hw; exact False.elim hw
                      | succ n ih => exact b_116 _ ih
                    exact l_116 n_116 x_110 (nI 0) _ _ _ hO (lv_sub hl [2, 3, 4, 5, 6, 7, 1, 0] rfl) hw
                have l_85 : ∀ (n : Nat) (v5_85 : Int32) (next_85 : Nat → Int32) (H : Heap) (locs : List Loc) (ls : Array Slot), okW D A s.heap H locs (wM cI cZ cJ h ad k_thrown k_s k_image k_hasImage k_steps k_read k_spot k_isWrong k_open k_act k_letBy k_letStamp k_stamp k_fallen k_held k_stands k_falling k_away k_round k_rests may_59 next_85 k_could (upd k_couldNight ((p1).toNatClampNeg) k_night) k_night k_seats) → lv_has ls 9 [(0, .ref h), (1, .int p1), (2, .int v2_59), (3, .int v3_67), (4, .int r_77), (5, .int v5_85)] → wl_X12_walks_85 k_s v2_59 may_59 v3_67 L_67 r_77 n v5_85 next_85 → W p l e R s m args below meth c H locs 0 0 QQ (F0 m 85 ls []) := by
                  intro n
                  induction n with
                  | zero => intro v5_85 next_85 H locs ls hO hl hw; exact False.elim hw
                  | succ n ih => exact b_85 _ ih
                exact l_85 n_85 (nI 0) next_67 _ _ _ hO (lv_sub hl [2, 3, 4, 5, 1, 0] rfl) hw
            have l_67 : ∀ (n : Nat) (v3_67 : Int32) (next_67 : Nat → Int32) (H : Heap) (locs : List Loc) (ls : Array Slot), okW D A s.heap H locs (wM cI cZ cJ h ad k_thrown k_s k_image k_hasImage k_steps k_read k_spot k_isWrong k_open k_act k_letBy k_letStamp k_stamp k_fallen k_held k_stands k_falling k_away k_round k_rests may_59 next_67 k_could (upd k_couldNight ((p1).toNatClampNeg) k_night) k_night k_seats) → lv_has ls 9 [(0, .ref h), (1, .int p1), (2, .int v2_59), (3, .int v3_67)] → wl_X12_walks_67 p1 k_s v2_59 may_59 L_59 n v3_67 next_67 → W p l e R s m args below meth c H locs 0 0 QQ (F0 m 67 ls []) := by
              intro n
              induction n with
              | zero => intro v3_67 next_67 H locs ls hO hl hw; exact False.elim hw
              | succ n ih => exact b_67 _ ih
            exact l_67 n_67 (nI 0) next_59 _ _ _ hO (lv_sub hl [1, 2, 3, 0] rfl) hw
        have l_59 : ∀ (n : Nat) (v2_59 : Int32) (may_59 : Nat → Int32) (next_59 : Nat → Int32) (H : Heap) (locs : List Loc) (ls : Array Slot), okW D A s.heap H locs (wM cI cZ cJ h ad k_thrown k_s k_image k_hasImage k_steps k_read k_spot k_isWrong k_open k_act k_letBy k_letStamp k_stamp k_fallen k_held k_stands k_falling k_away k_round k_rests may_59 next_59 k_could (upd k_couldNight ((p1).toNatClampNeg) k_night) k_night k_seats) → lv_has ls 9 [(0, .ref h), (1, .int p1), (2, .int v2_59)] → wl_X12_walks_59 p1 k_s k_could k_couldNight k_night Q n v2_59 may_59 next_59 → W p l e R s m args below meth c H locs 0 0 QQ (F0 m 59 ls []) := by
          intro n
          induction n with
          | zero => intro v2_59 may_59 next_59 H locs ls hO hl hw; exact False.elim hw
          | succ n ih => exact b_59 _ ih
        exact l_59 n_59 (nI 0) may_26 k_next _ _ _ hO (lv_sub hl [1, 2, 0] rfl) hw
      · have hw := hw.2 q_30
        refine lv_aload_n hx hb dX12_walks_33 rfl (lv_at hl 0 rfl) ?_
        refine gM_may C hin hK lk_may hO dX12_walks_34 ?_
        refine lv_iload_n hx hb dX12_walks_37 rfl (lv_at hl 2 rfl) ?_
        refine lv_iload_n hx hb dX12_walks_38 rfl (lv_at hl 2 rfl) ?_
        refine lv_bipush (v := (nI 64)) hx hb dX12_walks_39 (by decide) ?_
        refine lv_irem hx hb dX12_walks_41 (by decide) ?_
        have m_50 : ∀ (y2_50 : Int32) (H : Heap) (locs : List Loc) (ls : Array Slot), y2_50 = (if (v2_26 - v2_26 / (nI 64) * (nI 64)) = 0 then (nI 1) else (nI 0)) → okW D A s.heap H locs (wM cI cZ cJ h ad k_thrown k_s k_image k_hasImage k_steps k_read k_spot k_isWrong k_open k_act k_letBy k_letStamp k_stamp k_fallen k_held k_stands k_falling k_away k_round k_rests may_26 k_next k_could (upd k_couldNight ((p1).toNatClampNeg) k_night) k_night k_seats) → lv_has ls 9 [(0, .ref h), (1, .int p1), (2, .int v2_26)] → W p l e R s m args below meth c H locs 0 0 QQ (F0 m 50 ls [.int y2_50, .int v2_26, .ref (ad 20)]) := by
          intro y2_50 H locs ls ey2_50 hO hl
          have hw := hw y2_50 ey2_50
          obtain ⟨o_50, hw⟩ := hw
          refine stM_may C hK hO o_50 rfl dX12_walks_50 (fun H locs hO => ?_)
          refine lv_iinc (v := (v2_26 + (nI 1))) (lv' := [(2, .int (v2_26 + (nI 1))), (0, .ref h), (1, .int p1)]) hx hb dX12_walks_51 hl (k := 2) rfl (iinc_1 _) (by decide) rfl (fun ls hl => ?_)
          refine lv_goto (tgt := 26) hx hb dX12_walks_54 (by decide) ?_
          exact ih_26 (v2_26 + (nI 1)) (upd may_26 ((v2_26).toNatClampNeg) (vp_nar .boolean y2_50)) _ _ _ hO (lv_sub hl [1, 2, 0] rfl) hw
        refine lv_if_ne (tgt := 49) hx hb dX12_walks_42 (by decide) (fun q_42 => ?_) (fun q_42 => ?_)
        · refine lv_iconst (v := (nI 0)) hx hb dX12_walks_49 (by decide) ?_
          have hl := lv_sub hl [0, 1, 2] rfl (l' := [(0, .ref h), (1, .int p1), (2, .int v2_26)])
          exact m_50 _ _ _ _ (by rw [if_neg q_42]) hO hl
        · refine lv_iconst (v := (nI 1)) hx hb dX12_walks_45 (by decide) ?_
          refine lv_goto (tgt := 50) hx hb dX12_walks_46 (by decide) ?_
          have hl := lv_sub hl [0, 1, 2] rfl (l' := [(0, .ref h), (1, .int p1), (2, .int v2_26)])
          exact m_50 _ _ _ _ (by rw [if_pos q_42]) hO hl
    have l_26 : ∀ (n : Nat) (v2_26 : Int32) (may_26 : Nat → Int32) (H : Heap) (locs : List Loc) (ls : Array Slot), okW D A s.heap H locs (wM cI cZ cJ h ad k_thrown k_s k_image k_hasImage k_steps k_read k_spot k_isWrong k_open k_act k_letBy k_letStamp k_stamp k_fallen k_held k_stands k_falling k_away k_round k_rests may_26 k_next k_could (upd k_couldNight ((p1).toNatClampNeg) k_night) k_night k_seats) → lv_has ls 9 [(0, .ref h), (1, .int p1), (2, .int v2_26)] → wl_X12_walks_26 p1 k_s k_next k_could k_couldNight k_night Q n v2_26 may_26 → W p l e R s m args below meth c H locs 0 0 QQ (F0 m 26 ls []) := by
      intro n
      induction n with
      | zero => intro v2_26 may_26 H locs ls hO hl hw; exact False.elim hw
      | succ n ih => exact b_26 _ ih
    exact l_26 n_26 (nI 0) k_may _ _ _ hO (lv_sub hl [1, 2, 0] rfl) hw
  · have hw := hw.2 q_10
    exact rv4 hQQ hx hb hr hlk hK hO hw dX12_walks_13
theorem gd_X12_240 {a : Cond} : GoodIn (a :: wsG) (wsV RX12 240 RX12 yX12_walks (Cond.code yX12_walks cX12_walks 9 none :: wsG)) := gdV qw7_97 qw7_99 qs_65 qw1_12 qw7_100
theorem hd_X12_walks : yX12_walks.cls = RX12 ∧ yX12_walks.cls ≠ "java/lang/invoke/MethodHandle" ∧ yX12_walks.cls ≠ "java/lang/invoke/VarHandle" ∧ (parseMethodDescriptor yX12_walks.desc).map (fun d => d.parameters.length) = some 1 := by decide +kernel
def wp_X12_who (p1 : Int32) (p2 : Int32) (k_s : Nat → Int32) (k_may : Nat → Int32) (k_next : Nat → Int32) (k_could : Nat → Int32) (k_couldNight : Nat → Int32) (k_night : Int32) (Q : Int32 → (Nat → Int32) → (Nat → Int32) → (Nat → Int32) → (Nat → Int32) → Prop) : Prop := ((¬ (f_X12_isPerson p1) = 0 → ((¬ (f_X12_in p2 (nI 0) (((nI 1) <<< ((k_s 6) &&& 31)) - (nI 1))) = 0 → (wp_X12_walks p1 k_s k_may k_next k_could k_couldNight k_night (fun (may_33 : Nat → Int32) (next_33 : Nat → Int32) (could_33 : Nat → Int32) (couldNight_33 : Nat → Int32) => (vp_in (((nI 64) * p1) + p2) 512 ∧ (∀ y0_55 : Int32, y0_55 = (if (could_33 ((((nI 64) * p1) + p2)).toNatClampNeg) = 0 then (nI 0) else (nI 1)) → (Q y0_55 may_33 next_33 could_33 couldNight_33)))))) ∧ ((f_X12_in p2 (nI 0) (((nI 1) <<< ((k_s 6) &&& 31)) - (nI 1))) = 0 → (Q (-2) k_may k_next k_could k_couldNight)))) ∧ ((f_X12_isPerson p1) = 0 → (Q (-1) k_may k_next k_could k_couldNight)))
set_option maxHeartbeats 4000000 in
set_option maxRecDepth 100000 in
theorem c_X12_who {l : Launch} {D : va_G} {cI cZ cJ : ClassId} {h : Nat} {ad : Nat → Nat} {sz : Nat} {k_thrown : Int32} {k_s : Nat → Int32} {k_image : Nat → Int32} {k_hasImage : Int32} {k_steps : Nat → Int32} {k_read : Int32} {k_spot : Int32} {k_isWrong : Int32} {k_open : Int32} {k_act : Int32} {k_letBy : Nat → Int32} {k_letStamp : Nat → Int32} {k_stamp : Int32} {k_fallen : Nat → Int32} {k_held : Nat → Int32} {k_stands : Nat → Int32} {k_falling : Nat → Int32} {k_away : Nat → Int32} {k_round : Nat → Int32} {k_rests : Nat → Int64} {k_may : Nat → Int32} {k_next : Nat → Int32} {k_could : Nat → Int32} {k_couldNight : Nat → Int32} {k_night : Int32} {k_seats : Nat → Int32} {p1 : Int32} {p2 : Int32} {Q : Int32 → (Nat → Int32) → (Nat → Int32) → (Nat → Int32) → (Nat → Int32) → Prop} (hw : wp_X12_who p1 p2 k_s k_may k_next k_could k_couldNight k_night Q) : Met l yX12_who (Cond.code yX12_who cX12_who 3 (some .int) :: wsG) ({ frames := 3, cells := 0, slots := 0, locals := 70 } : Room) (preW D (tyM cI cZ cJ) (wM cI cZ cJ h ad k_thrown k_s k_image k_hasImage k_steps k_read k_spot k_isWrong k_open k_act k_letBy k_letStamp k_stamp k_fallen k_held k_stands k_falling k_away k_round k_rests k_may k_next k_could k_couldNight k_night k_seats) sz [.ref h, .int p1, .int p2]) (qi4 D (tyM cI cZ cJ) (va_A (wM cI cZ cJ h ad k_thrown k_s k_image k_hasImage k_steps k_read k_spot k_isWrong k_open k_act k_letBy k_letStamp k_stamp k_fallen k_held k_stands k_falling k_away k_round k_rests k_may k_next k_could k_couldNight k_night k_seats) sz) Q (fun k_may' k_next' k_could' k_couldNight' => (wM cI cZ cJ h ad k_thrown k_s k_image k_hasImage k_steps k_read k_spot k_isWrong k_open k_act k_letBy k_letStamp k_stamp k_fallen k_held k_stands k_falling k_away k_round k_rests k_may' k_next' k_could' k_couldNight' k_night k_seats))) 0 0 (va_A (wM cI cZ cJ h ad k_thrown k_s k_image k_hasImage k_steps k_read k_spot k_isWrong k_open k_act k_letBy k_letStamp k_stamp k_fallen k_held k_stands k_falling k_away k_round k_rests k_may k_next k_could k_couldNight k_night k_seats) sz) := by
  refine st_met (cc := cX12_who) (maxL := 3) (ret := (some .int)) (lv := [(0, .ref h), (1, .int p1), (2, .int p2)]) (Qc := fun A => qi4 D (tyM cI cZ cJ) A Q (fun k_may' k_next' k_could' k_couldNight' => (wM cI cZ cJ h ad k_thrown k_s k_image k_hasImage k_steps k_read k_spot k_isWrong k_open k_act k_letBy k_letStamp k_stamp k_fallen k_held k_stands k_falling k_away k_round k_rests k_may' k_next' k_could' k_couldNight' k_night k_seats))) (by decide) rfl (Nat.le_of_ble_eq_true rfl) rfl ?_
  intro p e s m below meth c ls A R args QQ H locs C hr hlk hnm hK hX hsz hl hO hR hQQ
  have hx := C.1
  have hb := C.2.1
  have hown := C.2.2.2.1
  have hts := C.2.2.2.2
  have hin : ∀ w ∈ u_ws RX12 TX12 26, w ∈ (Cond.code yX12_who cX12_who 3 (some .int) :: wsG) := fun w h9 => List.mem_cons_of_mem _ (inG12 w h9)
  have lk_s := hts (Cond.fieldLink RX12 7 "FreeCityModel" "s" "[I") (List.mem_cons_of_mem _ qw5_207)
  have lk_could := hts (Cond.fieldLink RX12 59 "FreeCityModel" "could" "[Z") (List.mem_cons_of_mem _ qw5_228)
  unfold wp_X12_who at hw
  refine lv_iload_n hx hb dX12_who_0 rfl (lv_at hl 1 rfl) ?_
  refine cSi0 (As := [.int p1]) (rest := []) C hK hX hO (c_X12_isPerson (l := l)) (va_cwS 1 hts gd_X12_231 rfl rfl rfl hd_X12_isPerson (rok hR (Nat.le_of_ble_eq_true rfl) (Nat.le_of_ble_eq_true rfl))) rfl hl.1 rfl (Nat.le_of_ble_eq_true rfl) dX12_who_1 ⟨Nat.zero_le _, Nat.zero_le _⟩ (fun r_1 H locs e_1 hO => ?_)
  subst e_1
  refine lv_if_ne (tgt := 9) hx hb dX12_who_4 (by decide) (fun q_4 => ?_) (fun q_4 => ?_)
  · have hw := hw.1 q_4
    refine lv_iload_n hx hb dX12_who_9 rfl (lv_at hl 2 rfl) ?_
    refine lv_iconst (v := (nI 0)) hx hb dX12_who_10 (by decide) ?_
    refine lv_iconst (v := (nI 1)) hx hb dX12_who_11 (by decide) ?_
    refine lv_aload_n hx hb dX12_who_12 rfl (lv_at hl 0 rfl) ?_
    refine gM_s C hin hK lk_s hO dX12_who_13 ?_
    refine lv_bipush (v := (nI 6)) hx hb dX12_who_16 (by decide) ?_
    refine ldM_s C hK hO (inK 6 6700 (by decide) (by decide)) (clK 6 (by decide)) dX12_who_18 ?_
    refine lv_ishl hx hb dX12_who_19 ?_
    refine lv_iconst (v := (nI 1)) hx hb dX12_who_20 (by decide) ?_
    refine lv_isub hx hb dX12_who_21 ?_
    refine cSi0 (As := [.int p2, .int (nI 0), .int (((nI 1) <<< ((k_s 6) &&& 31)) - (nI 1))]) (rest := []) C hK hX hO (c_X12_in (l := l)) (va_cwS 3 hts gd_X12_74 rfl rfl rfl hd_X12_in (rok hR (Nat.le_of_ble_eq_true rfl) (Nat.le_of_ble_eq_true rfl))) rfl hl.1 rfl (Nat.le_of_ble_eq_true rfl) dX12_who_22 ⟨Nat.zero_le _, Nat.zero_le _⟩ (fun r_22 H locs e_22 hO => ?_)
    subst e_22
    refine lv_if_ne (tgt := 31) hx hb dX12_who_25 (by decide) (fun q_25 => ?_) (fun q_25 => ?_)
    · have hw := hw.1 q_25
      refine lv_aload_n hx hb dX12_who_31 rfl (lv_at hl 0 rfl) ?_
      refine lv_iload_n hx hb dX12_who_32 rfl (lv_at hl 1 rfl) ?_
      refine cVv4 (As := [.int p1]) (rest := []) C hK hX hO (c_X12_walks (l := l) hw) (cwV 1 hts gd_X12_240 rfl rfl rfl hd_X12_walks (rok hR (Nat.le_of_ble_eq_true rfl) (Nat.le_of_ble_eq_true rfl))) (ci := 12) (q0 := 0) rfl rfl rfl rfl hl.1 rfl (Nat.le_of_ble_eq_true rfl) dX12_who_33 ⟨Nat.zero_le _, Nat.zero_le _⟩ (fun may_33 next_33 could_33 couldNight_33 H locs hw hO => ?_)
      refine lv_aload_n hx hb dX12_who_36 rfl (lv_at hl 0 rfl) ?_
      refine gM_could C hin hK lk_could hO dX12_who_37 ?_
      refine lv_bipush (v := (nI 64)) hx hb dX12_who_40 (by decide) ?_
      refine lv_iload_n hx hb dX12_who_42 rfl (lv_at hl 1 rfl) ?_
      refine lv_imul hx hb dX12_who_43 ?_
      refine lv_iload_n hx hb dX12_who_44 rfl (lv_at hl 2 rfl) ?_
      refine lv_iadd hx hb dX12_who_45 ?_
      obtain ⟨o_46, hw⟩ := hw
      refine ldM_could C hK hO o_46 rfl dX12_who_46 ?_
      have m_55 : ∀ (y0_55 : Int32) (H : Heap) (locs : List Loc) (ls : Array Slot), y0_55 = (if (could_33 ((((nI 64) * p1) + p2)).toNatClampNeg) = 0 then (nI 0) else (nI 1)) → okW D A s.heap H locs (wM cI cZ cJ h ad k_thrown k_s k_image k_hasImage k_steps k_read k_spot k_isWrong k_open k_act k_letBy k_letStamp k_stamp k_fallen k_held k_stands k_falling k_away k_round k_rests may_33 next_33 could_33 couldNight_33 k_night k_seats) → lv_has ls 3 [] → W p l e R s m args below meth c H locs 0 0 QQ (F0 m 55 ls [.int y0_55]) := by
        intro y0_55 H locs ls ey0_55 hO hl
        have hw := hw y0_55 ey0_55
        exact ri4 hQQ hx hb hr hlk hK hO hw dX12_who_55
      refine lv_if_eq (tgt := 54) hx hb dX12_who_47 (by decide) (fun q_47 => ?_) (fun q_47 => ?_)
      · refine lv_iconst (v := (nI 0)) hx hb dX12_who_54 (by decide) ?_
        have hl := lv_sub hl [] rfl (l' := [])
        exact m_55 _ _ _ _ (by rw [if_pos q_47]) hO hl
      · refine lv_iconst (v := (nI 1)) hx hb dX12_who_50 (by decide) ?_
        refine lv_goto (tgt := 55) hx hb dX12_who_51 (by decide) ?_
        have hl := lv_sub hl [] rfl (l' := [])
        exact m_55 _ _ _ _ (by rw [if_neg q_47]) hO hl
    · have hw := hw.2 q_25
      refine lv_bipush (v := (-2)) hx hb dX12_who_28 (by decide) ?_
      exact ri4 hQQ hx hb hr hlk hK hO hw dX12_who_30
  · have hw := hw.2 q_4
    refine lv_iconst (v := (-1)) hx hb dX12_who_7 (by decide) ?_
    exact ri4 hQQ hx hb hr hlk hK hO hw dX12_who_8
def wb_X12_many_4 (p1 : Int32) (Q : Int32 → Prop) (L_4 : Int32 → Int32 → Prop) (v1_4 : Int32) (v2_4 : Int32) : Prop := (((nI 20) ≤ v2_4 → (Q v1_4)) ∧ (¬ (nI 20) ≤ v2_4 → (∀ x_16 : Int32, x_16 = (v1_4 + ((p1 >>> (v2_4 &&& 31)) &&& (nI 1))) → (L_4 x_16 (v2_4 + (nI 1))))))
def wl_X12_many_4 (p1 : Int32) (Q : Int32 → Prop) : Nat → Int32 → Int32 → Prop
  | 0, _, _ => False
  | n + 1, v1_4, v2_4 => wb_X12_many_4 p1 Q (wl_X12_many_4 p1 Q n) v1_4 v2_4
def wp_X12_many (p1 : Int32)  (Q : Int32 → Prop) : Prop := (∃ n, wl_X12_many_4 p1 Q n (nI 0) (nI 0))
set_option maxHeartbeats 4000000 in
set_option maxRecDepth 100000 in
theorem c_X12_many {l : Launch} {D : va_G} {cI cZ cJ : ClassId} {h : Nat} {ad : Nat → Nat} {sz : Nat} {k_thrown : Int32} {k_s : Nat → Int32} {k_image : Nat → Int32} {k_hasImage : Int32} {k_steps : Nat → Int32} {k_read : Int32} {k_spot : Int32} {k_isWrong : Int32} {k_open : Int32} {k_act : Int32} {k_letBy : Nat → Int32} {k_letStamp : Nat → Int32} {k_stamp : Int32} {k_fallen : Nat → Int32} {k_held : Nat → Int32} {k_stands : Nat → Int32} {k_falling : Nat → Int32} {k_away : Nat → Int32} {k_round : Nat → Int32} {k_rests : Nat → Int64} {k_may : Nat → Int32} {k_next : Nat → Int32} {k_could : Nat → Int32} {k_couldNight : Nat → Int32} {k_night : Int32} {k_seats : Nat → Int32} {p1 : Int32} {Q : Int32 → Prop} (hw : wp_X12_many p1 Q) : Met l yX12_many (Cond.code yX12_many cX12_many 3 (some .int) :: wsG) ({ frames := 0, cells := 0, slots := 0, locals := 0 } : Room) (preW D (tyM cI cZ cJ) (wM cI cZ cJ h ad k_thrown k_s k_image k_hasImage k_steps k_read k_spot k_isWrong k_open k_act k_letBy k_letStamp k_stamp k_fallen k_held k_stands k_falling k_away k_round k_rests k_may k_next k_could k_couldNight k_night k_seats) sz [.int p1]) (qi0 D (tyM cI cZ cJ) (va_A (wM cI cZ cJ h ad k_thrown k_s k_image k_hasImage k_steps k_read k_spot k_isWrong k_open k_act k_letBy k_letStamp k_stamp k_fallen k_held k_stands k_falling k_away k_round k_rests k_may k_next k_could k_couldNight k_night k_seats) sz) Q (wM cI cZ cJ h ad k_thrown k_s k_image k_hasImage k_steps k_read k_spot k_isWrong k_open k_act k_letBy k_letStamp k_stamp k_fallen k_held k_stands k_falling k_away k_round k_rests k_may k_next k_could k_couldNight k_night k_seats)) 0 0 (va_A (wM cI cZ cJ h ad k_thrown k_s k_image k_hasImage k_steps k_read k_spot k_isWrong k_open k_act k_letBy k_letStamp k_stamp k_fallen k_held k_stands k_falling k_away k_round k_rests k_may k_next k_could k_couldNight k_night k_seats) sz) := by
  refine st_met (cc := cX12_many) (maxL := 3) (ret := (some .int)) (lv := [(0, .int p1)]) (Qc := fun A => qi0 D (tyM cI cZ cJ) A Q (wM cI cZ cJ h ad k_thrown k_s k_image k_hasImage k_steps k_read k_spot k_isWrong k_open k_act k_letBy k_letStamp k_stamp k_fallen k_held k_stands k_falling k_away k_round k_rests k_may k_next k_could k_couldNight k_night k_seats)) (by decide) rfl (Nat.le_of_ble_eq_true rfl) rfl ?_
  intro p e s m below meth c ls A R args QQ H locs C hr hlk hnm hK hX hsz hl hO hR hQQ
  have hx := C.1
  have hb := C.2.1
  have hown := C.2.2.2.1
  have hts := C.2.2.2.2
  unfold wp_X12_many at hw
  refine lv_iconst (v := (nI 0)) hx hb dX12_many_0 (by decide) ?_
  refine lv_istore_n (lv' := [(1, .int (nI 0)), (0, .int p1)]) hx hb dX12_many_1 rfl hl (by decide) rfl (fun ls hl => ?_)
  refine lv_iconst (v := (nI 0)) hx hb dX12_many_2 (by decide) ?_
  refine lv_istore_n (lv' := [(2, .int (nI 0)), (1, .int (nI 0)), (0, .int p1)]) hx hb dX12_many_3 rfl hl (by decide) rfl (fun ls hl => ?_)
  obtain ⟨n_4, hw⟩ := hw
  have b_4 : ∀ (L_4 : Int32 → Int32 → Prop) (ih_4 : ∀ (v1_4 : Int32) (v2_4 : Int32) (H : Heap) (locs : List Loc) (ls : Array Slot), okW D A s.heap H locs (wM cI cZ cJ h ad k_thrown k_s k_image k_hasImage k_steps k_read k_spot k_isWrong k_open k_act k_letBy k_letStamp k_stamp k_fallen k_held k_stands k_falling k_away k_round k_rests k_may k_next k_could k_couldNight k_night k_seats) → lv_has ls 3 [(0, .int p1), (1, .int v1_4), (2, .int v2_4)] → L_4 v1_4 v2_4 → W p l e R s m args below meth c H locs 0 0 QQ (F0 m 4 ls [])) (v1_4 : Int32) (v2_4 : Int32) (H : Heap) (locs : List Loc) (ls : Array Slot), okW D A s.heap H locs (wM cI cZ cJ h ad k_thrown k_s k_image k_hasImage k_steps k_read k_spot k_isWrong k_open k_act k_letBy k_letStamp k_stamp k_fallen k_held k_stands k_falling k_away k_round k_rests k_may k_next k_could k_couldNight k_night k_seats) → lv_has ls 3 [(0, .int p1), (1, .int v1_4), (2, .int v2_4)] → wb_X12_many_4 p1 Q L_4 v1_4 v2_4 → W p l e R s m args below meth c H locs 0 0 QQ (F0 m 4 ls []) := by
    intro L_4 ih_4 v1_4 v2_4 H locs ls hO hl hw
    unfold wb_X12_many_4 at hw
    refine lv_iload_n hx hb dX12_many_4 rfl (lv_at hl 2 rfl) ?_
    refine lv_bipush (v := (nI 20)) hx hb dX12_many_5 (by decide) ?_
    refine lv_icmp_ge (tgt := 24) hx hb dX12_many_7 (by decide) (fun q_7 => ?_) (fun q_7 => ?_)
    · have hw := hw.1 q_7
      refine lv_iload_n hx hb dX12_many_24 rfl (lv_at hl 1 rfl) ?_
      exact ri0 hQQ hx hb hr hlk hK hO hw dX12_many_25
    · have hw := hw.2 q_7
      refine lv_iload_n hx hb dX12_many_10 rfl (lv_at hl 1 rfl) ?_
      refine lv_iload_n hx hb dX12_many_11 rfl (lv_at hl 0 rfl) ?_
      refine lv_iload_n hx hb dX12_many_12 rfl (lv_at hl 2 rfl) ?_
      refine lv_ishr hx hb dX12_many_13 ?_
      refine lv_iconst (v := (nI 1)) hx hb dX12_many_14 (by decide) ?_
      refine lv_iand hx hb dX12_many_15 ?_
      refine lv_iadd hx hb dX12_many_16 ?_
      refine lv_topi (fun x_16 ex_16 => ?_)
      have hw := hw x_16 ex_16
      refine lv_istore_n (lv' := [(1, .int x_16), (0, .int p1), (2, .int v2_4)]) hx hb dX12_many_17 rfl hl (by decide) rfl (fun ls hl => ?_)
      refine lv_iinc (v := (v2_4 + (nI 1))) (lv' := [(2, .int (v2_4 + (nI 1))), (1, .int x_16), (0, .int p1)]) hx hb dX12_many_18 hl (k := 2) rfl (iinc_1 _) (by decide) rfl (fun ls hl => ?_)
      refine lv_goto (tgt := 4) hx hb dX12_many_21 (by decide) ?_
      exact ih_4 x_16 (v2_4 + (nI 1)) _ _ _ hO (lv_sub hl [2, 1, 0] rfl) hw
  have l_4 : ∀ (n : Nat) (v1_4 : Int32) (v2_4 : Int32) (H : Heap) (locs : List Loc) (ls : Array Slot), okW D A s.heap H locs (wM cI cZ cJ h ad k_thrown k_s k_image k_hasImage k_steps k_read k_spot k_isWrong k_open k_act k_letBy k_letStamp k_stamp k_fallen k_held k_stands k_falling k_away k_round k_rests k_may k_next k_could k_couldNight k_night k_seats) → lv_has ls 3 [(0, .int p1), (1, .int v1_4), (2, .int v2_4)] → wl_X12_many_4 p1 Q n v1_4 v2_4 → W p l e R s m args below meth c H locs 0 0 QQ (F0 m 4 ls []) := by
    intro n
    induction n with
    | zero => intro v1_4 v2_4 H locs ls hO hl hw; exact False.elim hw
    | succ n ih => exact b_4 _ ih
  exact l_4 n_4 (nI 0) (nI 0) _ _ _ hO (lv_sub hl [2, 1, 0] rfl) hw
theorem gd_X12_243 {a : Cond} : GoodIn (a :: wsG) (va_wsS RX12 243 yX12_many (Cond.code yX12_many cX12_many 3 (some .int) :: wsG)) := gdS qw7_113 qw7_114 qw1_12 qw7_115
theorem hd_X12_many : yX12_many.cls ≠ "java/lang/invoke/MethodHandle" ∧ yX12_many.cls ≠ "java/lang/invoke/VarHandle" ∧ (parseMethodDescriptor yX12_many.desc).map (fun d => d.parameters.length) = some 1 := by decide +kernel
def wk_X12_night_75 (v4_28 : Int32) (L_28 : Int32 → Int32 → Prop) (t0_75 : Int32) : Prop := (L_28 t0_75 (v4_28 + (nI 1)))
def wk_X12_night_74 (v3_28 : Int32) (v4_28 : Int32) (L_28 : Int32 → Int32 → Prop)  : Prop := (wk_X12_night_75 v4_28 L_28 v3_28)
def wb_X12_night_28 (p1 : Int32) (p2 : Int32) (k_s : Nat → Int32) (Q : Int32 → (Nat → Int32) → (Nat → Int32) → (Nat → Int32) → (Nat → Int32) → Prop) (may_20 : Nat → Int32) (next_20 : Nat → Int32) (could_20 : Nat → Int32) (couldNight_20 : Nat → Int32) (L_28 : Int32 → Int32 → Prop) (v3_28 : Int32) (v4_28 : Int32) : Prop := ((((nI 1) <<< ((k_s 6) &&& 31)) ≤ v4_28 → ((¬ p2 = 0 → (Q v3_28 may_20 next_20 could_20 couldNight_20)) ∧ (p2 = 0 → (wp_X12_many v3_28 (fun (r_87 : Int32) => (Q r_87 may_20 next_20 could_20 couldNight_20)))))) ∧ (¬ ((nI 1) <<< ((k_s 6) &&& 31)) ≤ v4_28 → (vp_in (((nI 64) * p1) + v4_28) 512 ∧ (((could_20 ((((nI 64) * p1) + v4_28)).toNatClampNeg) = 0 → (wk_X12_night_74 v3_28 v4_28 L_28)) ∧ (¬ (could_20 ((((nI 64) * p1) + v4_28)).toNatClampNeg) = 0 → (wp_X12_many v4_28 (fun (r_59 : Int32) => (wp_X12_many v3_28 (fun (r_63 : Int32) => (∀ y0_75 : Int32, y0_75 = (if r_59 ≤ r_63 then v3_28 else v4_28) → (wk_X12_night_75 v4_28 L_28 y0_75)))))))))))
def wl_X12_night_28 (p1 : Int32) (p2 : Int32) (k_s : Nat → Int32) (Q : Int32 → (Nat → Int32) → (Nat → Int32) → (Nat → Int32) → (Nat → Int32) → Prop) (may_20 : Nat → Int32) (next_20 : Nat → Int32) (could_20 : Nat → Int32) (couldNight_20 : Nat → Int32) : Nat → Int32 → Int32 → Prop
  | 0, _, _ => False
  | n + 1, v3_28, v4_28 => wb_X12_night_28 p1 p2 k_s Q may_20 next_20 could_20 couldNight_20 (wl_X12_night_28 p1 p2 k_s Q may_20 next_20 could_20 couldNight_20 n) v3_28 v4_28
def wp_X12_night (p1 : Int32) (p2 : Int32) (k_s : Nat → Int32) (k_may : Nat → Int32) (k_next : Nat → Int32) (k_could : Nat → Int32) (k_couldNight : Nat → Int32) (k_night : Int32) (Q : Int32 → (Nat → Int32) → (Nat → Int32) → (Nat → Int32) → (Nat → Int32) → Prop) : Prop := ((((f_X12_isPerson p1) = 0 ∨ (f_X12_in p2 (nI 0) (nI 1)) = 0) → (Q (-1) k_may k_next k_could k_couldNight)) ∧ (¬ (((f_X12_isPerson p1) = 0 ∨ (f_X12_in p2 (nI 0) (nI 1)) = 0)) → (wp_X12_walks p1 k_s k_may k_next k_could k_couldNight k_night (fun (may_20 : Nat → Int32) (next_20 : Nat → Int32) (could_20 : Nat → Int32) (couldNight_20 : Nat → Int32) => (∃ n, wl_X12_night_28 p1 p2 k_s Q may_20 next_20 could_20 couldNight_20 n (nI 0) (nI 0))))))
set_option maxHeartbeats 4000000 in
set_option maxRecDepth 100000 in
theorem c_X12_night {l : Launch} {D : va_G} {cI cZ cJ : ClassId} {h : Nat} {ad : Nat → Nat} {sz : Nat} {k_thrown : Int32} {k_s : Nat → Int32} {k_image : Nat → Int32} {k_hasImage : Int32} {k_steps : Nat → Int32} {k_read : Int32} {k_spot : Int32} {k_isWrong : Int32} {k_open : Int32} {k_act : Int32} {k_letBy : Nat → Int32} {k_letStamp : Nat → Int32} {k_stamp : Int32} {k_fallen : Nat → Int32} {k_held : Nat → Int32} {k_stands : Nat → Int32} {k_falling : Nat → Int32} {k_away : Nat → Int32} {k_round : Nat → Int32} {k_rests : Nat → Int64} {k_may : Nat → Int32} {k_next : Nat → Int32} {k_could : Nat → Int32} {k_couldNight : Nat → Int32} {k_night : Int32} {k_seats : Nat → Int32} {p1 : Int32} {p2 : Int32} {Q : Int32 → (Nat → Int32) → (Nat → Int32) → (Nat → Int32) → (Nat → Int32) → Prop} (hw : wp_X12_night p1 p2 k_s k_may k_next k_could k_couldNight k_night Q) : Met l yX12_night (Cond.code yX12_night cX12_night 5 (some .int) :: wsG) ({ frames := 3, cells := 0, slots := 0, locals := 70 } : Room) (preW D (tyM cI cZ cJ) (wM cI cZ cJ h ad k_thrown k_s k_image k_hasImage k_steps k_read k_spot k_isWrong k_open k_act k_letBy k_letStamp k_stamp k_fallen k_held k_stands k_falling k_away k_round k_rests k_may k_next k_could k_couldNight k_night k_seats) sz [.ref h, .int p1, .int p2]) (qi4 D (tyM cI cZ cJ) (va_A (wM cI cZ cJ h ad k_thrown k_s k_image k_hasImage k_steps k_read k_spot k_isWrong k_open k_act k_letBy k_letStamp k_stamp k_fallen k_held k_stands k_falling k_away k_round k_rests k_may k_next k_could k_couldNight k_night k_seats) sz) Q (fun k_may' k_next' k_could' k_couldNight' => (wM cI cZ cJ h ad k_thrown k_s k_image k_hasImage k_steps k_read k_spot k_isWrong k_open k_act k_letBy k_letStamp k_stamp k_fallen k_held k_stands k_falling k_away k_round k_rests k_may' k_next' k_could' k_couldNight' k_night k_seats))) 0 0 (va_A (wM cI cZ cJ h ad k_thrown k_s k_image k_hasImage k_steps k_read k_spot k_isWrong k_open k_act k_letBy k_letStamp k_stamp k_fallen k_held k_stands k_falling k_away k_round k_rests k_may k_next k_could k_couldNight k_night k_seats) sz) := by
  refine st_met (cc := cX12_night) (maxL := 5) (ret := (some .int)) (lv := [(0, .ref h), (1, .int p1), (2, .int p2)]) (Qc := fun A => qi4 D (tyM cI cZ cJ) A Q (fun k_may' k_next' k_could' k_couldNight' => (wM cI cZ cJ h ad k_thrown k_s k_image k_hasImage k_steps k_read k_spot k_isWrong k_open k_act k_letBy k_letStamp k_stamp k_fallen k_held k_stands k_falling k_away k_round k_rests k_may' k_next' k_could' k_couldNight' k_night k_seats))) (by decide) rfl (Nat.le_of_ble_eq_true rfl) rfl ?_
  intro p e s m below meth c ls A R args QQ H locs C hr hlk hnm hK hX hsz hl hO hR hQQ
  have hx := C.1
  have hb := C.2.1
  have hown := C.2.2.2.1
  have hts := C.2.2.2.2
  have hin : ∀ w ∈ u_ws RX12 TX12 26, w ∈ (Cond.code yX12_night cX12_night 5 (some .int) :: wsG) := fun w h9 => List.mem_cons_of_mem _ (inG12 w h9)
  have lk_s := hts (Cond.fieldLink RX12 7 "FreeCityModel" "s" "[I") (List.mem_cons_of_mem _ qw5_207)
  have lk_could := hts (Cond.fieldLink RX12 59 "FreeCityModel" "could" "[Z") (List.mem_cons_of_mem _ qw5_228)
  unfold wp_X12_night at hw
  refine lv_iload_n hx hb dX12_night_0 rfl (lv_at hl 1 rfl) ?_
  refine cSi0 (As := [.int p1]) (rest := []) C hK hX hO (c_X12_isPerson (l := l)) (va_cwS 1 hts gd_X12_231 rfl rfl rfl hd_X12_isPerson (rok hR (Nat.le_of_ble_eq_true rfl) (Nat.le_of_ble_eq_true rfl))) rfl hl.1 rfl (Nat.le_of_ble_eq_true rfl) dX12_night_1 ⟨Nat.zero_le _, Nat.zero_le _⟩ (fun r_1 H locs e_1 hO => ?_)
  subst e_1
  have a_16 : ((f_X12_isPerson p1) = 0 ∨ (f_X12_in p2 (nI 0) (nI 1)) = 0) → ∀ (H : Heap) (locs : List Loc) (ls : Array Slot), okW D A s.heap H locs (wM cI cZ cJ h ad k_thrown k_s k_image k_hasImage k_steps k_read k_spot k_isWrong k_open k_act k_letBy k_letStamp k_stamp k_fallen k_held k_stands k_falling k_away k_round k_rests k_may k_next k_could k_couldNight k_night k_seats) → lv_has ls 5 [] → W p l e R s m args below meth c H locs 0 0 QQ (F0 m 16 ls []) := by
    intro cf H locs ls hO hl
    have hw := hw.1 cf
    refine lv_iconst (v := (-1)) hx hb dX12_night_16 (by decide) ?_
    exact ri4 hQQ hx hb hr hlk hK hO hw dX12_night_17
  have a_18 : ¬ (((f_X12_isPerson p1) = 0 ∨ (f_X12_in p2 (nI 0) (nI 1)) = 0)) → ∀ (H : Heap) (locs : List Loc) (ls : Array Slot), okW D A s.heap H locs (wM cI cZ cJ h ad k_thrown k_s k_image k_hasImage k_steps k_read k_spot k_isWrong k_open k_act k_letBy k_letStamp k_stamp k_fallen k_held k_stands k_falling k_away k_round k_rests k_may k_next k_could k_couldNight k_night k_seats) → lv_has ls 5 [(0, .ref h), (1, .int p1), (2, .int p2)] → W p l e R s m args below meth c H locs 0 0 QQ (F0 m 18 ls []) := by
    intro cf H locs ls hO hl
    have hw := hw.2 cf
    refine lv_aload_n hx hb dX12_night_18 rfl (lv_at hl 0 rfl) ?_
    refine lv_iload_n hx hb dX12_night_19 rfl (lv_at hl 1 rfl) ?_
    refine cVv4 (As := [.int p1]) (rest := []) C hK hX hO (c_X12_walks (l := l) hw) (cwV 1 hts gd_X12_240 rfl rfl rfl hd_X12_walks (rok hR (Nat.le_of_ble_eq_true rfl) (Nat.le_of_ble_eq_true rfl))) (ci := 12) (q0 := 0) rfl rfl rfl rfl hl.1 rfl (Nat.le_of_ble_eq_true rfl) dX12_night_20 ⟨Nat.zero_le _, Nat.zero_le _⟩ (fun may_20 next_20 could_20 couldNight_20 H locs hw hO => ?_)
    refine lv_iconst (v := (nI 0)) hx hb dX12_night_23 (by decide) ?_
    refine lv_istore_n (lv' := [(3, .int (nI 0)), (0, .ref h), (1, .int p1), (2, .int p2)]) hx hb dX12_night_24 rfl hl (by decide) rfl (fun ls hl => ?_)
    refine lv_iconst (v := (nI 0)) hx hb dX12_night_25 (by decide) ?_
    refine lv_istore (lv' := [(4, .int (nI 0)), (3, .int (nI 0)), (0, .ref h), (1, .int p1), (2, .int p2)]) hx hb dX12_night_26 hl (by decide) rfl (fun ls hl => ?_)
    obtain ⟨n_28, hw⟩ := hw
    have b_28 : ∀ (L_28 : Int32 → Int32 → Prop) (ih_28 : ∀ (v3_28 : Int32) (v4_28 : Int32) (H : Heap) (locs : List Loc) (ls : Array Slot), okW D A s.heap H locs (wM cI cZ cJ h ad k_thrown k_s k_image k_hasImage k_steps k_read k_spot k_isWrong k_open k_act k_letBy k_letStamp k_stamp k_fallen k_held k_stands k_falling k_away k_round k_rests may_20 next_20 could_20 couldNight_20 k_night k_seats) → lv_has ls 5 [(0, .ref h), (1, .int p1), (2, .int p2), (3, .int v3_28), (4, .int v4_28)] → L_28 v3_28 v4_28 → W p l e R s m args below meth c H locs 0 0 QQ (F0 m 28 ls [])) (v3_28 : Int32) (v4_28 : Int32) (H : Heap) (locs : List Loc) (ls : Array Slot), okW D A s.heap H locs (wM cI cZ cJ h ad k_thrown k_s k_image k_hasImage k_steps k_read k_spot k_isWrong k_open k_act k_letBy k_letStamp k_stamp k_fallen k_held k_stands k_falling k_away k_round k_rests may_20 next_20 could_20 couldNight_20 k_night k_seats) → lv_has ls 5 [(0, .ref h), (1, .int p1), (2, .int p2), (3, .int v3_28), (4, .int v4_28)] → wb_X12_night_28 p1 p2 k_s Q may_20 next_20 could_20 couldNight_20 L_28 v3_28 v4_28 → W p l e R s m args below meth c H locs 0 0 QQ (F0 m 28 ls []) := by
      intro L_28 ih_28 v3_28 v4_28 H locs ls hO hl hw
      unfold wb_X12_night_28 at hw
      refine lv_iload hx hb dX12_night_28 (lv_at hl 4 rfl) ?_
      refine lv_iconst (v := (nI 1)) hx hb dX12_night_30 (by decide) ?_
      refine lv_aload_n hx hb dX12_night_31 rfl (lv_at hl 0 rfl) ?_
      refine gM_s C hin hK lk_s hO dX12_night_32 ?_
      refine lv_bipush (v := (nI 6)) hx hb dX12_night_35 (by decide) ?_
      refine ldM_s C hK hO (inK 6 6700 (by decide) (by decide)) (clK 6 (by decide)) dX12_night_37 ?_
      refine lv_ishl hx hb dX12_night_38 ?_
      refine lv_icmp_ge (tgt := 82) hx hb dX12_night_39 (by decide) (fun q_39 => ?_) (fun q_39 => ?_)
      · have hw := hw.1 q_39
        refine lv_iload_n hx hb dX12_night_82 rfl (lv_at hl 2 rfl) ?_
        refine lv_if_ne (tgt := 93) hx hb dX12_night_83 (by decide) (fun q_83 => ?_) (fun q_83 => ?_)
        · have hw := hw.1 q_83
          refine lv_iload_n hx hb dX12_night_93 rfl (lv_at hl 3 rfl) ?_
          exact ri4 hQQ hx hb hr hlk hK hO hw dX12_night_94
        · have hw := hw.2 q_83
          refine lv_iload_n hx hb dX12_night_86 rfl (lv_at hl 3 rfl) ?_
          refine cSi0 (As := [.int v3_28]) (rest := []) C hK hX hO (c_X12_many (l := l) hw) (va_cwS 1 hts gd_X12_243 rfl rfl rfl hd_X12_many (rok hR (Nat.le_of_ble_eq_true rfl) (Nat.le_of_ble_eq_true rfl))) rfl hl.1 rfl (Nat.le_of_ble_eq_true rfl) dX12_night_87 ⟨Nat.zero_le _, Nat.zero_le _⟩ (fun r_87 H locs hw hO => ?_)
          refine lv_goto (tgt := 94) hx hb dX12_night_90 (by decide) ?_
          exact ri4 hQQ hx hb hr hlk hK hO hw dX12_night_94
      · have hw := hw.2 q_39
        refine lv_aload_n hx hb dX12_night_42 rfl (lv_at hl 0 rfl) ?_
        refine gM_could C hin hK lk_could hO dX12_night_43 ?_
        refine lv_bipush (v := (nI 64)) hx hb dX12_night_46 (by decide) ?_
        refine lv_iload_n hx hb dX12_night_48 rfl (lv_at hl 1 rfl) ?_
        refine lv_imul hx hb dX12_night_49 ?_
        refine lv_iload hx hb dX12_night_50 (lv_at hl 4 rfl) ?_
        refine lv_iadd hx hb dX12_night_52 ?_
        obtain ⟨o_53, hw⟩ := hw
        refine ldM_could C hK hO o_53 rfl dX12_night_53 ?_
        have j_75 : ∀ (t0_75 : Int32) (H : Heap) (locs : List Loc) (ls : Array Slot), okW D A s.heap H locs (wM cI cZ cJ h ad k_thrown k_s k_image k_hasImage k_steps k_read k_spot k_isWrong k_open k_act k_letBy k_letStamp k_stamp k_fallen k_held k_stands k_falling k_away k_round k_rests may_20 next_20 could_20 couldNight_20 k_night k_seats) → lv_has ls 5 [(0, .ref h), (1, .int p1), (2, .int p2), (4, .int v4_28)] → wk_X12_night_75 v4_28 L_28 t0_75 → W p l e R s m args below meth c H locs 0 0 QQ (F0 m 75 ls [.int t0_75]) := by
          intro t0_75 H locs ls hO hl hw
          unfold wk_X12_night_75 at hw
          refine lv_istore_n (lv' := [(3, .int t0_75), (0, .ref h), (1, .int p1), (2, .int p2), (4, .int v4_28)]) hx hb dX12_night_75 rfl hl (by decide) rfl (fun ls hl => ?_)
          refine lv_iinc (v := (v4_28 + (nI 1))) (lv' := [(4, .int (v4_28 + (nI 1))), (3, .int t0_75), (0, .ref h), (1, .int p1), (2, .int p2)]) hx hb dX12_night_76 hl (k := 4) rfl (iinc_1 _) (by decide) rfl (fun ls hl => ?_)
          refine lv_goto (tgt := 28) hx hb dX12_night_79 (by decide) ?_
          exact ih_28 t0_75 (v4_28 + (nI 1)) _ _ _ hO (lv_sub hl [2, 3, 4, 1, 0] rfl) hw
        have j_74 : ∀  (H : Heap) (locs : List Loc) (ls : Array Slot), okW D A s.heap H locs (wM cI cZ cJ h ad k_thrown k_s k_image k_hasImage k_steps k_read k_spot k_isWrong k_open k_act k_letBy k_letStamp k_stamp k_fallen k_held k_stands k_falling k_away k_round k_rests may_20 next_20 could_20 couldNight_20 k_night k_seats) → lv_has ls 5 [(0, .ref h), (1, .int p1), (2, .int p2), (3, .int v3_28), (4, .int v4_28)] → wk_X12_night_74 v3_28 v4_28 L_28  → W p l e R s m args below meth c H locs 0 0 QQ (F0 m 74 ls []) := by
          intro  H locs ls hO hl hw
          unfold wk_X12_night_74 at hw
          refine lv_iload_n hx hb dX12_night_74 rfl (lv_at hl 3 rfl) ?_
          exact j_75 v3_28 _ _ _ hO (lv_sub hl [0, 1, 2, 4] rfl) hw
        refine lv_if_eq (tgt := 74) hx hb dX12_night_54 (by decide) (fun q_54 => ?_) (fun q_54 => ?_)
        · have hw := hw.1 q_54
          exact j_74  _ _ _ hO (lv_sub hl [0, 1, 2, 3, 4] rfl) hw
        · have hw := hw.2 q_54
          refine lv_iload hx hb dX12_night_57 (lv_at hl 4 rfl) ?_
          refine cSi0 (As := [.int v4_28]) (rest := []) C hK hX hO (c_X12_many (l := l) hw) (va_cwS 1 hts gd_X12_243 rfl rfl rfl hd_X12_many (rok hR (Nat.le_of_ble_eq_true rfl) (Nat.le_of_ble_eq_true rfl))) rfl hl.1 rfl (Nat.le_of_ble_eq_true rfl) dX12_night_59 ⟨Nat.zero_le _, Nat.zero_le _⟩ (fun r_59 H locs hw hO => ?_)
          refine lv_iload_n hx hb dX12_night_62 rfl (lv_at hl 3 rfl) ?_
          refine cSi0 (As := [.int v3_28]) (rest := [.int r_59]) C hK hX hO (c_X12_many (l := l) hw) (va_cwS 1 hts gd_X12_243 rfl rfl rfl hd_X12_many (rok hR (Nat.le_of_ble_eq_true rfl) (Nat.le_of_ble_eq_true rfl))) rfl hl.1 rfl (Nat.le_of_ble_eq_true rfl) dX12_night_63 ⟨Nat.zero_le _, Nat.zero_le _⟩ (fun r_63 H locs hw hO => ?_)
          have m_75 : ∀ (y0_75 : Int32) (H : Heap) (locs : List Loc) (ls : Array Slot), y0_75 = (if r_59 ≤ r_63 then v3_28 else v4_28) → okW D A s.heap H locs (wM cI cZ cJ h ad k_thrown k_s k_image k_hasImage k_steps k_read k_spot k_isWrong k_open k_act k_letBy k_letStamp k_stamp k_fallen k_held k_stands k_falling k_away k_round k_rests may_20 next_20 could_20 couldNight_20 k_night k_seats) → lv_has ls 5 [(0, .ref h), (1, .int p1), (2, .int p2), (4, .int v4_28)] → W p l e R s m args below meth c H locs 0 0 QQ (F0 m 75 ls [.int y0_75]) := by
            intro y0_75 H locs ls ey0_75 hO hl
            have hw := hw y0_75 ey0_75
            exact j_75 y0_75 _ _ _ hO (lv_sub hl [0, 1, 2, 3] rfl) hw
          refine lv_icmp_le (tgt := 74) hx hb dX12_night_66 (by decide) (fun q_66 => ?_) (fun q_66 => ?_)
          · refine lv_iload_n hx hb dX12_night_74 rfl (lv_at hl 3 rfl) ?_
            have hl := lv_sub hl [0, 1, 2, 4] rfl (l' := [(0, .ref h), (1, .int p1), (2, .int p2), (4, .int v4_28)])
            exact m_75 _ _ _ _ (by rw [if_pos q_66]) hO hl
          · refine lv_iload hx hb dX12_night_69 (lv_at hl 4 rfl) ?_
            refine lv_goto (tgt := 75) hx hb dX12_night_71 (by decide) ?_
            have hl := lv_sub hl [0, 1, 2, 4] rfl (l' := [(0, .ref h), (1, .int p1), (2, .int p2), (4, .int v4_28)])
            exact m_75 _ _ _ _ (by rw [if_neg q_66]) hO hl
    have l_28 : ∀ (n : Nat) (v3_28 : Int32) (v4_28 : Int32) (H : Heap) (locs : List Loc) (ls : Array Slot), okW D A s.heap H locs (wM cI cZ cJ h ad k_thrown k_s k_image k_hasImage k_steps k_read k_spot k_isWrong k_open k_act k_letBy k_letStamp k_stamp k_fallen k_held k_stands k_falling k_away k_round k_rests may_20 next_20 could_20 couldNight_20 k_night k_seats) → lv_has ls 5 [(0, .ref h), (1, .int p1), (2, .int p2), (3, .int v3_28), (4, .int v4_28)] → wl_X12_night_28 p1 p2 k_s Q may_20 next_20 could_20 couldNight_20 n v3_28 v4_28 → W p l e R s m args below meth c H locs 0 0 QQ (F0 m 28 ls []) := by
      intro n
      induction n with
      | zero => intro v3_28 v4_28 H locs ls hO hl hw; exact False.elim hw
      | succ n ih => exact b_28 _ ih
    exact l_28 n_28 (nI 0) (nI 0) _ _ _ hO (lv_sub hl [2, 3, 4, 1, 0] rfl) hw
  refine lv_if_eq (tgt := 16) hx hb dX12_night_4 (by decide) (fun q_4 => ?_) (fun q_4 => ?_)
  · have hl := lv_sub hl [] rfl (l' := [])
    exact a_16 (Or.inl q_4) _ _ _ hO hl
  · refine lv_iload_n hx hb dX12_night_7 rfl (lv_at hl 2 rfl) ?_
    refine lv_iconst (v := (nI 0)) hx hb dX12_night_8 (by decide) ?_
    refine lv_iconst (v := (nI 1)) hx hb dX12_night_9 (by decide) ?_
    refine cSi0 (As := [.int p2, .int (nI 0), .int (nI 1)]) (rest := []) C hK hX hO (c_X12_in (l := l)) (va_cwS 3 hts gd_X12_74 rfl rfl rfl hd_X12_in (rok hR (Nat.le_of_ble_eq_true rfl) (Nat.le_of_ble_eq_true rfl))) rfl hl.1 rfl (Nat.le_of_ble_eq_true rfl) dX12_night_10 ⟨Nat.zero_le _, Nat.zero_le _⟩ (fun r_10 H locs e_10 hO => ?_)
    subst e_10
    refine lv_if_ne (tgt := 18) hx hb dX12_night_13 (by decide) (fun q_13 => ?_) (fun q_13 => ?_)
    · have hl := lv_sub hl [0, 1, 2] rfl (l' := [(0, .ref h), (1, .int p1), (2, .int p2)])
      exact a_18 (fun h => h.elim q_4 q_13) _ _ _ hO hl
    · have hl := lv_sub hl [] rfl (l' := [])
      exact a_16 (Or.inr q_13) _ _ _ hO hl
