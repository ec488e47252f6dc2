def wb_X11_wantedLet_4 (g_ld_grounds : Nat → Int32) (g_co_rights : Nat → Option Nat) (g_co_count : Int32) (g_be_wanted : Nat → Int32) (g_be_wantedCount : Int32) (g_la_ruling : Nat → Option Nat) (g_la_standing : Int64) (g_R_L : List Nat) (g_R_n : Nat → Int32) (g_R_cell : Nat → Int32) (g_T_L : List Nat) (g_T_code : Nat → Option Nat) (g_C_L : List Nat) (g_C_len : Nat → Nat) (g_C_row : Nat → Nat → Int32) (Q : Int32 → (Nat → Int32) → (Int32) → (Nat → Int32) → (Nat → Int32) → (Int32) → Prop) (L_4 : Int32 → Int32 → (Nat → Int32) → Int32 → (Nat → Int32) → (Nat → Int32) → Int32 → Prop) (v1_4 : Int32) (v2_4 : Int32) (la_stack_4 : Nat → Int32) (la_top_4 : Int32) (la_holds_4 : Nat → Int32) (la_lets_4 : Nat → Int32) (la_clauses_4 : Int32) : Prop := ((g_be_wantedCount ≤ v2_4 → (Q v1_4 la_stack_4 la_top_4 la_holds_4 la_lets_4 la_clauses_4)) ∧ (¬ g_be_wantedCount ≤ v2_4 → (vp_in v2_4 10 ∧ (wp_X5_cityLets (g_be_wanted (v2_4).toNatClampNeg) g_ld_grounds g_co_rights g_co_count g_la_ruling g_la_standing la_stack_4 la_top_4 la_holds_4 la_lets_4 la_clauses_4 g_R_L g_R_n g_R_cell g_T_L g_T_code g_C_L g_C_len g_C_row (fun (r_34 : Int32) (la_stack_34 : Nat → Int32) (la_top_34 : Int32) (la_holds_34 : Nat → Int32) (la_lets_34 : Nat → Int32) (la_clauses_34 : Int32) => (∀ x1_43 : Int32, x1_43 = (if r_34 = 0 then v1_4 else (v1_4 + (nI 1))) → (L_4 x1_43 (v2_4 + (nI 1)) la_stack_34 la_top_34 la_holds_34 la_lets_34 la_clauses_34)))))))
def wl_X11_wantedLet_4 (g_ld_grounds : Nat → Int32) (g_co_rights : Nat → Option Nat) (g_co_count : Int32) (g_be_wanted : Nat → Int32) (g_be_wantedCount : Int32) (g_la_ruling : Nat → Option Nat) (g_la_standing : Int64) (g_R_L : List Nat) (g_R_n : Nat → Int32) (g_R_cell : Nat → Int32) (g_T_L : List Nat) (g_T_code : Nat → Option Nat) (g_C_L : List Nat) (g_C_len : Nat → Nat) (g_C_row : Nat → Nat → Int32) (Q : Int32 → (Nat → Int32) → (Int32) → (Nat → Int32) → (Nat → Int32) → (Int32) → Prop) : Nat → Int32 → Int32 → (Nat → Int32) → Int32 → (Nat → Int32) → (Nat → Int32) → Int32 → Prop
  | 0, _, _, _, _, _, _, _ => False
  | n + 1, v1_4, v2_4, la_stack_4, la_top_4, la_holds_4, la_lets_4, la_clauses_4 => wb_X11_wantedLet_4 g_ld_grounds g_co_rights g_co_count g_be_wanted g_be_wantedCount g_la_ruling g_la_standing g_R_L g_R_n g_R_cell g_T_L g_T_code g_C_L g_C_len g_C_row Q (wl_X11_wantedLet_4 g_ld_grounds g_co_rights g_co_count g_be_wanted g_be_wantedCount g_la_ruling g_la_standing g_R_L g_R_n g_R_cell g_T_L g_T_code g_C_L g_C_len g_C_row Q n) v1_4 v2_4 la_stack_4 la_top_4 la_holds_4 la_lets_4 la_clauses_4
def wp_X11_wantedLet  (g_ld_grounds : Nat → Int32) (g_co_rights : Nat → Option Nat) (g_co_count : Int32) (g_be_wanted : Nat → Int32) (g_be_wantedCount : Int32) (g_la_ruling : Nat → Option Nat) (g_la_standing : Int64) (g_la_stack : Nat → Int32) (g_la_top : Int32) (g_la_holds : Nat → Int32) (g_la_lets : Nat → Int32) (g_la_clauses : Int32) (g_R_L : List Nat) (g_R_n : Nat → Int32) (g_R_cell : Nat → Int32) (g_T_L : List Nat) (g_T_code : Nat → Option Nat) (g_C_L : List Nat) (g_C_len : Nat → Nat) (g_C_row : Nat → Nat → Int32) (Q : Int32 → (Nat → Int32) → (Int32) → (Nat → Int32) → (Nat → Int32) → (Int32) → Prop) : Prop := (∃ n, wl_X11_wantedLet_4 g_ld_grounds g_co_rights g_co_count g_be_wanted g_be_wantedCount g_la_ruling g_la_standing g_R_L g_R_n g_R_cell g_T_L g_T_code g_C_L g_C_len g_C_row Q n (nI 0) (nI 0) g_la_stack g_la_top g_la_holds g_la_lets g_la_clauses)
set_option maxHeartbeats 4000000 in
set_option maxRecDepth 100000 in
theorem c_X11_wantedLet {l : Launch} {D : va_G} {cI cZ cJ cB cR cT : ClassId} {ad : Nat → Nat} {sz : Nat} {g_fc_kept : Nat} {g_fc_hasImage : Int32} {g_fc_ringRow : Nat → Int32} {g_fc_seats : Nat → Int32} {g_ld_grounds : Nat → Int32} {g_ld_today : Int32} {g_ld_tape : Nat → Int32} {g_ld_bytes : Int32} {g_ld_texts : Nat → Option Nat} {g_ld_textCount : Int32} {g_co_rights : Nat → Option Nat} {g_co_count : Int32} {g_co_leans : Nat → Int64} {g_co_heardOn : Nat → Int32} {g_co_overruled : Int64} {g_co_termDays : Int32} {g_co_step : Int32} {g_po_shipGoods : Nat → Int32} {g_po_aboard : Nat → Int32} {g_po_places : Nat → Int32} {g_po_shipCount : Int32} {g_po_bond : Nat → Int32} {g_po_sold : Nat → Int32} {g_po_passed : Nat → Int32} {g_po_tariffs : Nat → Int32} {g_po_parts : Nat → Int32} {g_po_purses : Nat → Int32} {g_po_chest : Int32} {g_po_firmSides : Nat → Int32} {g_po_owners : Nat → Int32} {g_po_firmCount : Int32} {g_po_useFirms : Nat → Int32} {g_po_useTons : Nat → Int32} {g_po_useCount : Int32} {g_po_quotas : Nat → Int32} {g_ni_doorSpots : Nat → Int32} {g_ni_firstHours : Nat → Int32} {g_ni_lastHours : Nat → Int32} {g_ni_doorCount : Int32} {g_ni_sights : Nat → Int32} {g_ni_whereabouts : Nat → Int32} {g_ha_votes : Nat → Int32} {g_ha_sayingDays : Nat → Int32} {g_ha_saidSo : Nat → Int32} {g_ha_saidNot : Nat → Int32} {g_ha_sayingCount : Int32} {g_be_cells : Nat → Int32} {g_be_fallingIfLet : Nat → Int64} {g_be_fallingIfNot : Nat → Int64} {g_be_questionCount : Int32} {g_be_wanted : Nat → Int32} {g_be_wantedCount : Int32} {g_re_code : Nat → Int32} {g_re_written : Int32} {g_re_tape : Nat} {g_re_end : Int32} {g_re_at : Int32} {g_la_ruling : Nat → Option Nat} {g_la_standing : Int64} {g_la_stack : Nat → Int32} {g_la_top : Int32} {g_la_holds : Nat → Int32} {g_la_lets : Nat → Int32} {g_la_clauses : Int32} {g_R_L : List Nat} {g_R_kind : Nat → Int32} {g_R_number : Nat → Int32} {g_R_side : Nat → Int32} {g_R_n : Nat → Int32} {g_R_cell : Nat → Int32} {g_R_day : Nat → Int32} {g_R_ruling : Nat → Int32} {g_R_share : Nat → Int32} {g_T_L : List Nat} {g_T_number : Nat → Int32} {g_T_tongue : Nat → Int32} {g_T_day : Nat → Int32} {g_T_code : Nat → Option Nat} {g_C_L : List Nat} {g_C_len : Nat → Nat} {g_C_row : Nat → Nat → Int32}  {Q : Int32 → (Nat → Int32) → (Int32) → (Nat → Int32) → (Nat → Int32) → (Int32) → Prop} (hw : wp_X11_wantedLet g_ld_grounds g_co_rights g_co_count g_be_wanted g_be_wantedCount g_la_ruling g_la_standing g_la_stack g_la_top g_la_holds g_la_lets g_la_clauses g_R_L g_R_n g_R_cell g_T_L g_T_code g_C_L g_C_len g_C_row Q) : Met l yX11_wantedLet (Cond.code yX11_wantedLet cX11_wantedLet 3 (some .int) :: wsG) ({ frames := 6, cells := 0, slots := 0, locals := 150 } : Room) (preW D (tyC cI cZ cJ cB cR cT) (wC cI cZ cJ cB cR cT ad g_fc_kept g_fc_hasImage g_fc_ringRow g_fc_seats g_ld_grounds g_ld_today g_ld_tape g_ld_bytes g_ld_texts g_ld_textCount g_co_rights g_co_count g_co_leans g_co_heardOn g_co_overruled g_co_termDays g_co_step g_po_shipGoods g_po_aboard g_po_places g_po_shipCount g_po_bond g_po_sold g_po_passed g_po_tariffs g_po_parts g_po_purses g_po_chest g_po_firmSides g_po_owners g_po_firmCount g_po_useFirms g_po_useTons g_po_useCount g_po_quotas g_ni_doorSpots g_ni_firstHours g_ni_lastHours g_ni_doorCount g_ni_sights g_ni_whereabouts g_ha_votes g_ha_sayingDays g_ha_saidSo g_ha_saidNot g_ha_sayingCount g_be_cells g_be_fallingIfLet g_be_fallingIfNot g_be_questionCount g_be_wanted g_be_wantedCount g_re_code g_re_written g_re_tape g_re_end g_re_at g_la_ruling g_la_standing g_la_stack g_la_top g_la_holds g_la_lets g_la_clauses g_R_L g_R_kind g_R_number g_R_side g_R_n g_R_cell g_R_day g_R_ruling g_R_share g_T_L g_T_number g_T_tongue g_T_day g_T_code g_C_L g_C_len g_C_row) sz [.ref (ad 0)]) (qi5 D (tyC cI cZ cJ cB cR cT) (va_A (wC cI cZ cJ cB cR cT ad g_fc_kept g_fc_hasImage g_fc_ringRow g_fc_seats g_ld_grounds g_ld_today g_ld_tape g_ld_bytes g_ld_texts g_ld_textCount g_co_rights g_co_count g_co_leans g_co_heardOn g_co_overruled g_co_termDays g_co_step g_po_shipGoods g_po_aboard g_po_places g_po_shipCount g_po_bond g_po_sold g_po_passed g_po_tariffs g_po_parts g_po_purses g_po_chest g_po_firmSides g_po_owners g_po_firmCount g_po_useFirms g_po_useTons g_po_useCount g_po_quotas g_ni_doorSpots g_ni_firstHours g_ni_lastHours g_ni_doorCount g_ni_sights g_ni_whereabouts g_ha_votes g_ha_sayingDays g_ha_saidSo g_ha_saidNot g_ha_sayingCount g_be_cells g_be_fallingIfLet g_be_fallingIfNot g_be_questionCount g_be_wanted g_be_wantedCount g_re_code g_re_written g_re_tape g_re_end g_re_at g_la_ruling g_la_standing g_la_stack g_la_top g_la_holds g_la_lets g_la_clauses g_R_L g_R_kind g_R_number g_R_side g_R_n g_R_cell g_R_day g_R_ruling g_R_share g_T_L g_T_number g_T_tongue g_T_day g_T_code g_C_L g_C_len g_C_row) sz) Q (fun g_la_stack' g_la_top' g_la_holds' g_la_lets' g_la_clauses' => (wC cI cZ cJ cB cR cT ad g_fc_kept g_fc_hasImage g_fc_ringRow g_fc_seats g_ld_grounds g_ld_today g_ld_tape g_ld_bytes g_ld_texts g_ld_textCount g_co_rights g_co_count g_co_leans g_co_heardOn g_co_overruled g_co_termDays g_co_step g_po_shipGoods g_po_aboard g_po_places g_po_shipCount g_po_bond g_po_sold g_po_passed g_po_tariffs g_po_parts g_po_purses g_po_chest g_po_firmSides g_po_owners g_po_firmCount g_po_useFirms g_po_useTons g_po_useCount g_po_quotas g_ni_doorSpots g_ni_firstHours g_ni_lastHours g_ni_doorCount g_ni_sights g_ni_whereabouts g_ha_votes g_ha_sayingDays g_ha_saidSo g_ha_saidNot g_ha_sayingCount g_be_cells g_be_fallingIfLet g_be_fallingIfNot g_be_questionCount g_be_wanted g_be_wantedCount g_re_code g_re_written g_re_tape g_re_end g_re_at g_la_ruling g_la_standing g_la_stack' g_la_top' g_la_holds' g_la_lets' g_la_clauses' g_R_L g_R_kind g_R_number g_R_side g_R_n g_R_cell g_R_day g_R_ruling g_R_share g_T_L g_T_number g_T_tongue g_T_day g_T_code g_C_L g_C_len g_C_row))) 0 0 (va_A (wC cI cZ cJ cB cR cT ad g_fc_kept g_fc_hasImage g_fc_ringRow g_fc_seats g_ld_grounds g_ld_today g_ld_tape g_ld_bytes g_ld_texts g_ld_textCount g_co_rights g_co_count g_co_leans g_co_heardOn g_co_overruled g_co_termDays g_co_step g_po_shipGoods g_po_aboard g_po_places g_po_shipCount g_po_bond g_po_sold g_po_passed g_po_tariffs g_po_parts g_po_purses g_po_chest g_po_firmSides g_po_owners g_po_firmCount g_po_useFirms g_po_useTons g_po_useCount g_po_quotas g_ni_doorSpots g_ni_firstHours g_ni_lastHours g_ni_doorCount g_ni_sights g_ni_whereabouts g_ha_votes g_ha_sayingDays g_ha_saidSo g_ha_saidNot g_ha_sayingCount g_be_cells g_be_fallingIfLet g_be_fallingIfNot g_be_questionCount g_be_wanted g_be_wantedCount g_re_code g_re_written g_re_tape g_re_end g_re_at g_la_ruling g_la_standing g_la_stack g_la_top g_la_holds g_la_lets g_la_clauses g_R_L g_R_kind g_R_number g_R_side g_R_n g_R_cell g_R_day g_R_ruling g_R_share g_T_L g_T_number g_T_tongue g_T_day g_T_code g_C_L g_C_len g_C_row) sz) := by
  refine st_met (cc := cX11_wantedLet) (maxL := 3) (ret := (some .int)) (lv := [(0, .ref (ad 0))]) (Qc := fun A => qi5 D (tyC cI cZ cJ cB cR cT) A Q (fun g_la_stack' g_la_top' g_la_holds' g_la_lets' g_la_clauses' => (wC cI cZ cJ cB cR cT ad g_fc_kept g_fc_hasImage g_fc_ringRow g_fc_seats g_ld_grounds g_ld_today g_ld_tape g_ld_bytes g_ld_texts g_ld_textCount g_co_rights g_co_count g_co_leans g_co_heardOn g_co_overruled g_co_termDays g_co_step g_po_shipGoods g_po_aboard g_po_places g_po_shipCount g_po_bond g_po_sold g_po_passed g_po_tariffs g_po_parts g_po_purses g_po_chest g_po_firmSides g_po_owners g_po_firmCount g_po_useFirms g_po_useTons g_po_useCount g_po_quotas g_ni_doorSpots g_ni_firstHours g_ni_lastHours g_ni_doorCount g_ni_sights g_ni_whereabouts g_ha_votes g_ha_sayingDays g_ha_saidSo g_ha_saidNot g_ha_sayingCount g_be_cells g_be_fallingIfLet g_be_fallingIfNot g_be_questionCount g_be_wanted g_be_wantedCount g_re_code g_re_written g_re_tape g_re_end g_re_at g_la_ruling g_la_standing g_la_stack' g_la_top' g_la_holds' g_la_lets' g_la_clauses' g_R_L g_R_kind g_R_number g_R_side g_R_n g_R_cell g_R_day g_R_ruling g_R_share g_T_L g_T_number g_T_tongue g_T_day g_T_code g_C_L g_C_len g_C_row))) (by decide) rfl (Nat.le_of_ble_eq_true rfl) rfl ?_
  intro p e s m below meth c ls A R args QQ H locs C hr hlk hnm hK hX hsz hl hO hR hQQ
  have hx := C.1
  have hb := C.2.1
  have hown := C.2.2.2.1
  have hts := C.2.2.2.2
  have hin0 : ∀ w ∈ u_ws RX0 TX0 6, w ∈ (Cond.code yX11_wantedLet cX11_wantedLet 3 (some .int) :: wsG) := fun w h9 => List.mem_cons_of_mem _ (inG0 w h9)
  have hin1 : ∀ w ∈ u_ws RX1 TX1 6, w ∈ (Cond.code yX11_wantedLet cX11_wantedLet 3 (some .int) :: wsG) := fun w h9 => List.mem_cons_of_mem _ (inG1 w h9)
  have hin11 : ∀ w ∈ u_ws RX11 TX11 7, w ∈ (Cond.code yX11_wantedLet cX11_wantedLet 3 (some .int) :: wsG) := fun w h9 => List.mem_cons_of_mem _ (inG11 w h9)
  have lk_12_city := hts (Cond.fieldLink RX11 12 "FreeCity" "city" "LFreeCity$City;") (List.mem_cons_of_mem _ qw2_105)
  have lk_403_bench := hts (Cond.fieldLink RX11 403 "FreeCity$City" "bench" "LFreeCity$Bench;") (List.mem_cons_of_mem _ qw2_33)
  have lk_419_wantedCount := hts (Cond.fieldLink RX11 419 "FreeCity$Bench" "wantedCount" "I") (List.mem_cons_of_mem _ qw2_8)
  have lk_39_law := hts (Cond.fieldLink RX11 39 "FreeCity" "law" "LFreeCity$Law;") (List.mem_cons_of_mem _ qw2_109)
  have lk_455_wanted := hts (Cond.fieldLink RX11 455 "FreeCity$Bench" "wanted" "[I") (List.mem_cons_of_mem _ qw2_6)
  unfold wp_X11_wantedLet at hw
  refine lv_iconst (v := (nI 0)) hx hb dX11_wantedLet_0 (by decide) ?_
  refine lv_istore_n (lv' := [(1, .int (nI 0)), (0, .ref (ad 0))]) hx hb dX11_wantedLet_1 rfl hl (by decide) rfl (fun ls hl => ?_)
  refine lv_iconst (v := (nI 0)) hx hb dX11_wantedLet_2 (by decide) ?_
  refine lv_istore_n (lv' := [(2, .int (nI 0)), (1, .int (nI 0)), (0, .ref (ad 0))]) hx hb dX11_wantedLet_3 rfl hl (by decide) rfl (fun ls hl => ?_)
  obtain ⟨n_4, hw⟩ := hw
  have b_4 : ∀ (L_4 : Int32 → Int32 → (Nat → Int32) → Int32 → (Nat → Int32) → (Nat → Int32) → Int32 → Prop) (ih_4 : ∀ (v1_4 : Int32) (v2_4 : Int32) (la_stack_4 : Nat → Int32) (la_top_4 : Int32) (la_holds_4 : Nat → Int32) (la_lets_4 : Nat → Int32) (la_clauses_4 : Int32) (H : Heap) (locs : List Loc) (ls : Array Slot), okW D A s.heap H locs (wC cI cZ cJ cB cR cT ad g_fc_kept g_fc_hasImage g_fc_ringRow g_fc_seats g_ld_grounds g_ld_today g_ld_tape g_ld_bytes g_ld_texts g_ld_textCount g_co_rights g_co_count g_co_leans g_co_heardOn g_co_overruled g_co_termDays g_co_step g_po_shipGoods g_po_aboard g_po_places g_po_shipCount g_po_bond g_po_sold g_po_passed g_po_tariffs g_po_parts g_po_purses g_po_chest g_po_firmSides g_po_owners g_po_firmCount g_po_useFirms g_po_useTons g_po_useCount g_po_quotas g_ni_doorSpots g_ni_firstHours g_ni_lastHours g_ni_doorCount g_ni_sights g_ni_whereabouts g_ha_votes g_ha_sayingDays g_ha_saidSo g_ha_saidNot g_ha_sayingCount g_be_cells g_be_fallingIfLet g_be_fallingIfNot g_be_questionCount g_be_wanted g_be_wantedCount g_re_code g_re_written g_re_tape g_re_end g_re_at g_la_ruling g_la_standing la_stack_4 la_top_4 la_holds_4 la_lets_4 la_clauses_4 g_R_L g_R_kind g_R_number g_R_side g_R_n g_R_cell g_R_day g_R_ruling g_R_share g_T_L g_T_number g_T_tongue g_T_day g_T_code g_C_L g_C_len g_C_row) → lv_has ls 3 [(0, .ref (ad 0)), (1, .int v1_4), (2, .int v2_4)] → L_4 v1_4 v2_4 la_stack_4 la_top_4 la_holds_4 la_lets_4 la_clauses_4 → W p l e R s m args below meth c H locs 0 0 QQ (F0 m 4 ls [])) (v1_4 : Int32) (v2_4 : Int32) (la_stack_4 : Nat → Int32) (la_top_4 : Int32) (la_holds_4 : Nat → Int32) (la_lets_4 : Nat → Int32) (la_clauses_4 : Int32) (H : Heap) (locs : List Loc) (ls : Array Slot), okW D A s.heap H locs (wC cI cZ cJ cB cR cT ad g_fc_kept g_fc_hasImage g_fc_ringRow g_fc_seats g_ld_grounds g_ld_today g_ld_tape g_ld_bytes g_ld_texts g_ld_textCount g_co_rights g_co_count g_co_leans g_co_heardOn g_co_overruled g_co_termDays g_co_step g_po_shipGoods g_po_aboard g_po_places g_po_shipCount g_po_bond g_po_sold g_po_passed g_po_tariffs g_po_parts g_po_purses g_po_chest g_po_firmSides g_po_owners g_po_firmCount g_po_useFirms g_po_useTons g_po_useCount g_po_quotas g_ni_doorSpots g_ni_firstHours g_ni_lastHours g_ni_doorCount g_ni_sights g_ni_whereabouts g_ha_votes g_ha_sayingDays g_ha_saidSo g_ha_saidNot g_ha_sayingCount g_be_cells g_be_fallingIfLet g_be_fallingIfNot g_be_questionCount g_be_wanted g_be_wantedCount g_re_code g_re_written g_re_tape g_re_end g_re_at g_la_ruling g_la_standing la_stack_4 la_top_4 la_holds_4 la_lets_4 la_clauses_4 g_R_L g_R_kind g_R_number g_R_side g_R_n g_R_cell g_R_day g_R_ruling g_R_share g_T_L g_T_number g_T_tongue g_T_day g_T_code g_C_L g_C_len g_C_row) → lv_has ls 3 [(0, .ref (ad 0)), (1, .int v1_4), (2, .int v2_4)] → wb_X11_wantedLet_4 g_ld_grounds g_co_rights g_co_count g_be_wanted g_be_wantedCount g_la_ruling g_la_standing g_R_L g_R_n g_R_cell g_T_L g_T_code g_C_L g_C_len g_C_row Q L_4 v1_4 v2_4 la_stack_4 la_top_4 la_holds_4 la_lets_4 la_clauses_4 → W p l e R s m args below meth c H locs 0 0 QQ (F0 m 4 ls []) := by
    intro L_4 ih_4 v1_4 v2_4 la_stack_4 la_top_4 la_holds_4 la_lets_4 la_clauses_4 H locs ls hO hl hw
    unfold wb_X11_wantedLet_4 at hw
    refine lv_iload_n hx hb dX11_wantedLet_4 rfl (lv_at hl 2 rfl) ?_
    refine lv_aload_n hx hb dX11_wantedLet_5 rfl (lv_at hl 0 rfl) ?_
    refine gC_FC_city C hin11 hK lk_12_city hO dX11_wantedLet_6 ?_
    refine gC_CT_bench C hin1 hK lk_403_bench hO dX11_wantedLet_9 ?_
    refine gC_BE_wantedCount C hin0 hK lk_419_wantedCount hO dX11_wantedLet_12 ?_
    refine lv_icmp_ge (tgt := 49) hx hb dX11_wantedLet_15 (by decide) (fun q_15 => ?_) (fun q_15 => ?_)
    · have hw := hw.1 q_15
      refine lv_iload_n hx hb dX11_wantedLet_49 rfl (lv_at hl 1 rfl) ?_
      exact ri5 hQQ hx hb hr hlk hK hO hw dX11_wantedLet_50
    · have hw := hw.2 q_15
      refine lv_aload_n hx hb dX11_wantedLet_18 rfl (lv_at hl 0 rfl) ?_
      refine gC_FC_law C hin11 hK lk_39_law hO dX11_wantedLet_19 ?_
      refine lv_aload_n hx hb dX11_wantedLet_22 rfl (lv_at hl 0 rfl) ?_
      refine gC_FC_city C hin11 hK lk_12_city hO dX11_wantedLet_23 ?_
      refine gC_CT_bench C hin1 hK lk_403_bench hO dX11_wantedLet_26 ?_
      refine gC_BE_wanted C hin0 hK lk_455_wanted hO dX11_wantedLet_29 ?_
      refine lv_iload_n hx hb dX11_wantedLet_32 rfl (lv_at hl 2 rfl) ?_
      obtain ⟨o_33, hw⟩ := hw
      refine ldC_be_wanted C hK hO o_33 rfl dX11_wantedLet_33 ?_
      refine cVi5 (As := [.int (g_be_wanted (v2_4).toNatClampNeg)]) (rest := []) C hK hX hO (c_X5_cityLets (l := l) hw) (cwV 1 hts gd_X11_134 rfl rfl rfl hd_X5_cityLets (rok hR (Nat.le_of_ble_eq_true rfl) (Nat.le_of_ble_eq_true rfl))) (ci := 5) (q0 := 9) rfl rfl rfl rfl hl.1 rfl (Nat.le_of_ble_eq_true rfl) dX11_wantedLet_34 ⟨Nat.zero_le _, Nat.zero_le _⟩ (fun r_34 la_stack_34 la_top_34 la_holds_34 la_lets_34 la_clauses_34 H locs hw hO => ?_)
      have m_43 : ∀ (x1_43 : Int32) (H : Heap) (locs : List Loc) (ls : Array Slot), x1_43 = (if r_34 = 0 then v1_4 else (v1_4 + (nI 1))) → okW D A s.heap H locs (wC cI cZ cJ cB cR cT ad g_fc_kept g_fc_hasImage g_fc_ringRow g_fc_seats g_ld_grounds g_ld_today g_ld_tape g_ld_bytes g_ld_texts g_ld_textCount g_co_rights g_co_count g_co_leans g_co_heardOn g_co_overruled g_co_termDays g_co_step g_po_shipGoods g_po_aboard g_po_places g_po_shipCount g_po_bond g_po_sold g_po_passed g_po_tariffs g_po_parts g_po_purses g_po_chest g_po_firmSides g_po_owners g_po_firmCount g_po_useFirms g_po_useTons g_po_useCount g_po_quotas g_ni_doorSpots g_ni_firstHours g_ni_lastHours g_ni_doorCount g_ni_sights g_ni_whereabouts g_ha_votes g_ha_sayingDays g_ha_saidSo g_ha_saidNot g_ha_sayingCount g_be_cells g_be_fallingIfLet g_be_fallingIfNot g_be_questionCount g_be_wanted g_be_wantedCount g_re_code g_re_written g_re_tape g_re_end g_re_at g_la_ruling g_la_standing la_stack_34 la_top_34 la_holds_34 la_lets_34 la_clauses_34 g_R_L g_R_kind g_R_number g_R_side g_R_n g_R_cell g_R_day g_R_ruling g_R_share g_T_L g_T_number g_T_tongue g_T_day g_T_code g_C_L g_C_len g_C_row) → lv_has ls 3 [(0, .ref (ad 0)), (1, .int x1_43), (2, .int v2_4)] → W p l e R s m args below meth c H locs 0 0 QQ (F0 m 43 ls []) := by
        intro x1_43 H locs ls ex1_43 hO hl
        have hw := hw x1_43 ex1_43
        refine lv_iinc (v := (v2_4 + (nI 1))) (lv' := [(2, .int (v2_4 + (nI 1))), (0, .ref (ad 0)), (1, .int x1_43)]) hx hb dX11_wantedLet_43 hl (k := 2) rfl (iinc_1 _) (by decide) rfl (fun ls hl => ?_)
        refine lv_goto (tgt := 4) hx hb dX11_wantedLet_46 (by decide) ?_
        exact ih_4 x1_43 (v2_4 + (nI 1)) la_stack_34 la_top_34 la_holds_34 la_lets_34 la_clauses_34 _ _ _ hO (lv_sub hl [1, 2, 0] rfl) hw
      refine lv_if_eq (tgt := 43) hx hb dX11_wantedLet_37 (by decide) (fun q_37 => ?_) (fun q_37 => ?_)
      · have hl := lv_sub hl [0, 1, 2] rfl (l' := [(0, .ref (ad 0)), (1, .int v1_4), (2, .int v2_4)])
        exact m_43 _ _ _ _ (by rw [if_pos q_37]) hO hl
      · refine lv_iinc (v := (v1_4 + (nI 1))) (lv' := [(1, .int (v1_4 + (nI 1))), (0, .ref (ad 0)), (2, .int v2_4)]) hx hb dX11_wantedLet_40 hl (k := 1) rfl (iinc_1 _) (by decide) rfl (fun ls hl => ?_)
        have hl := lv_sub hl [1, 0, 2] rfl (l' := [(0, .ref (ad 0)), (1, .int (v1_4 + (nI 1))), (2, .int v2_4)])
        exact m_43 _ _ _ _ (by rw [if_neg q_37]) hO hl
  have l_4 : ∀ (n : Nat) (v1_4 : Int32) (v2_4 : Int32) (la_stack_4 : Nat → Int32) (la_top_4 : Int32) (la_holds_4 : Nat → Int32) (la_lets_4 : Nat → Int32) (la_clauses_4 : Int32) (H : Heap) (locs : List Loc) (ls : Array Slot), okW D A s.heap H locs (wC cI cZ cJ cB cR cT ad g_fc_kept g_fc_hasImage g_fc_ringRow g_fc_seats g_ld_grounds g_ld_today g_ld_tape g_ld_bytes g_ld_texts g_ld_textCount g_co_rights g_co_count g_co_leans g_co_heardOn g_co_overruled g_co_termDays g_co_step g_po_shipGoods g_po_aboard g_po_places g_po_shipCount g_po_bond g_po_sold g_po_passed g_po_tariffs g_po_parts g_po_purses g_po_chest g_po_firmSides g_po_owners g_po_firmCount g_po_useFirms g_po_useTons g_po_useCount g_po_quotas g_ni_doorSpots g_ni_firstHours g_ni_lastHours g_ni_doorCount g_ni_sights g_ni_whereabouts g_ha_votes g_ha_sayingDays g_ha_saidSo g_ha_saidNot g_ha_sayingCount g_be_cells g_be_fallingIfLet g_be_fallingIfNot g_be_questionCount g_be_wanted g_be_wantedCount g_re_code g_re_written g_re_tape g_re_end g_re_at g_la_ruling g_la_standing la_stack_4 la_top_4 la_holds_4 la_lets_4 la_clauses_4 g_R_L g_R_kind g_R_number g_R_side g_R_n g_R_cell g_R_day g_R_ruling g_R_share g_T_L g_T_number g_T_tongue g_T_day g_T_code g_C_L g_C_len g_C_row) → lv_has ls 3 [(0, .ref (ad 0)), (1, .int v1_4), (2, .int v2_4)] → wl_X11_wantedLet_4 g_ld_grounds g_co_rights g_co_count g_be_wanted g_be_wantedCount g_la_ruling g_la_standing g_R_L g_R_n g_R_cell g_T_L g_T_code g_C_L g_C_len g_C_row Q n v1_4 v2_4 la_stack_4 la_top_4 la_holds_4 la_lets_4 la_clauses_4 → W p l e R s m args below meth c H locs 0 0 QQ (F0 m 4 ls []) := by
    intro n
    induction n with
    | zero => intro v1_4 v2_4 la_stack_4 la_top_4 la_holds_4 la_lets_4 la_clauses_4 H locs ls hO hl hw; exact False.elim hw
    | succ n ih => exact b_4 _ ih
  exact l_4 n_4 (nI 0) (nI 0) g_la_stack g_la_top g_la_holds g_la_lets g_la_clauses _ _ _ hO (lv_sub hl [2, 1, 0] rfl) hw
def wp_X11_count (p1 : Int32) (g_ld_today : Int32) (g_ld_bytes : Int32) (g_ld_textCount : Int32) (g_co_count : Int32) (g_po_shipCount : Int32) (g_po_chest : Int32) (g_po_firmCount : Int32) (g_ni_doorCount : Int32) (g_ha_sayingCount : Int32) (g_be_questionCount : Int32) (g_be_wantedCount : Int32) (Q : Int32 → Prop) : Prop := ((p1 = (nI 0) → (Q g_ld_textCount)) ∧ (p1 = (nI 1) → (Q g_co_count)) ∧ (p1 = (nI 2) → (Q g_ld_today)) ∧ (p1 = (nI 3) → (Q g_po_shipCount)) ∧ (p1 = (nI 4) → (Q g_po_chest)) ∧ (p1 = (nI 5) → (Q g_po_firmCount)) ∧ (p1 = (nI 6) → (Q g_ni_doorCount)) ∧ (p1 = (nI 7) → (Q g_ha_sayingCount)) ∧ (p1 = (nI 8) → (Q g_be_questionCount)) ∧ (p1 = (nI 9) → (Q g_be_wantedCount)) ∧ (p1 = (nI 10) → (Q g_ld_bytes)) ∧ (¬ p1 = (nI 0) → ¬ p1 = (nI 1) → ¬ p1 = (nI 2) → ¬ p1 = (nI 3) → ¬ p1 = (nI 4) → ¬ p1 = (nI 5) → ¬ p1 = (nI 6) → ¬ p1 = (nI 7) → ¬ p1 = (nI 8) → ¬ p1 = (nI 9) → ¬ p1 = (nI 10) → (Q (-1))))
set_option maxHeartbeats 4000000 in
set_option maxRecDepth 100000 in
theorem c_X11_count {l : Launch} {D : va_G} {cI cZ cJ cB cR cT : ClassId} {ad : Nat → Nat} {sz : Nat} {g_fc_kept : Nat} {g_fc_hasImage : Int32} {g_fc_ringRow : Nat → Int32} {g_fc_seats : Nat → Int32} {g_ld_grounds : Nat → Int32} {g_ld_today : Int32} {g_ld_tape : Nat → Int32} {g_ld_bytes : Int32} {g_ld_texts : Nat → Option Nat} {g_ld_textCount : Int32} {g_co_rights : Nat → Option Nat} {g_co_count : Int32} {g_co_leans : Nat → Int64} {g_co_heardOn : Nat → Int32} {g_co_overruled : Int64} {g_co_termDays : Int32} {g_co_step : Int32} {g_po_shipGoods : Nat → Int32} {g_po_aboard : Nat → Int32} {g_po_places : Nat → Int32} {g_po_shipCount : Int32} {g_po_bond : Nat → Int32} {g_po_sold : Nat → Int32} {g_po_passed : Nat → Int32} {g_po_tariffs : Nat → Int32} {g_po_parts : Nat → Int32} {g_po_purses : Nat → Int32} {g_po_chest : Int32} {g_po_firmSides : Nat → Int32} {g_po_owners : Nat → Int32} {g_po_firmCount : Int32} {g_po_useFirms : Nat → Int32} {g_po_useTons : Nat → Int32} {g_po_useCount : Int32} {g_po_quotas : Nat → Int32} {g_ni_doorSpots : Nat → Int32} {g_ni_firstHours : Nat → Int32} {g_ni_lastHours : Nat → Int32} {g_ni_doorCount : Int32} {g_ni_sights : Nat → Int32} {g_ni_whereabouts : Nat → Int32} {g_ha_votes : Nat → Int32} {g_ha_sayingDays : Nat → Int32} {g_ha_saidSo : Nat → Int32} {g_ha_saidNot : Nat → Int32} {g_ha_sayingCount : Int32} {g_be_cells : Nat → Int32} {g_be_fallingIfLet : Nat → Int64} {g_be_fallingIfNot : Nat → Int64} {g_be_questionCount : Int32} {g_be_wanted : Nat → Int32} {g_be_wantedCount : Int32} {g_re_code : Nat → Int32} {g_re_written : Int32} {g_re_tape : Nat} {g_re_end : Int32} {g_re_at : Int32} {g_la_ruling : Nat → Option Nat} {g_la_standing : Int64} {g_la_stack : Nat → Int32} {g_la_top : Int32} {g_la_holds : Nat → Int32} {g_la_lets : Nat → Int32} {g_la_clauses : Int32} {g_R_L : List Nat} {g_R_kind : Nat → Int32} {g_R_number : Nat → Int32} {g_R_side : Nat → Int32} {g_R_n : Nat → Int32} {g_R_cell : Nat → Int32} {g_R_day : Nat → Int32} {g_R_ruling : Nat → Int32} {g_R_share : Nat → Int32} {g_T_L : List Nat} {g_T_number : Nat → Int32} {g_T_tongue : Nat → Int32} {g_T_day : Nat → Int32} {g_T_code : Nat → Option Nat} {g_C_L : List Nat} {g_C_len : Nat → Nat} {g_C_row : Nat → Nat → Int32} {p1 : Int32} {Q : Int32 → Prop} (hw : wp_X11_count p1 g_ld_today g_ld_bytes g_ld_textCount g_co_count g_po_shipCount g_po_chest g_po_firmCount g_ni_doorCount g_ha_sayingCount g_be_questionCount g_be_wantedCount Q) : Met l yX11_count (Cond.code yX11_count cX11_count 2 (some .int) :: wsG) ({ frames := 0, cells := 0, slots := 0, locals := 0 } : Room) (preW D (tyC cI cZ cJ cB cR cT) (wC cI cZ cJ cB cR cT ad g_fc_kept g_fc_hasImage g_fc_ringRow g_fc_seats g_ld_grounds g_ld_today g_ld_tape g_ld_bytes g_ld_texts g_ld_textCount g_co_rights g_co_count g_co_leans g_co_heardOn g_co_overruled g_co_termDays g_co_step g_po_shipGoods g_po_aboard g_po_places g_po_shipCount g_po_bond g_po_sold g_po_passed g_po_tariffs g_po_parts g_po_purses g_po_chest g_po_firmSides g_po_owners g_po_firmCount g_po_useFirms g_po_useTons g_po_useCount g_po_quotas g_ni_doorSpots g_ni_firstHours g_ni_lastHours g_ni_doorCount g_ni_sights g_ni_whereabouts g_ha_votes g_ha_sayingDays g_ha_saidSo g_ha_saidNot g_ha_sayingCount g_be_cells g_be_fallingIfLet g_be_fallingIfNot g_be_questionCount g_be_wanted g_be_wantedCount g_re_code g_re_written g_re_tape g_re_end g_re_at g_la_ruling g_la_standing g_la_stack g_la_top g_la_holds g_la_lets g_la_clauses g_R_L g_R_kind g_R_number g_R_side g_R_n g_R_cell g_R_day g_R_ruling g_R_share g_T_L g_T_number g_T_tongue g_T_day g_T_code g_C_L g_C_len g_C_row) sz [.ref (ad 0), .int p1]) (qi0 D (tyC cI cZ cJ cB cR cT) (va_A (wC cI cZ cJ cB cR cT ad g_fc_kept g_fc_hasImage g_fc_ringRow g_fc_seats g_ld_grounds g_ld_today g_ld_tape g_ld_bytes g_ld_texts g_ld_textCount g_co_rights g_co_count g_co_leans g_co_heardOn g_co_overruled g_co_termDays g_co_step g_po_shipGoods g_po_aboard g_po_places g_po_shipCount g_po_bond g_po_sold g_po_passed g_po_tariffs g_po_parts g_po_purses g_po_chest g_po_firmSides g_po_owners g_po_firmCount g_po_useFirms g_po_useTons g_po_useCount g_po_quotas g_ni_doorSpots g_ni_firstHours g_ni_lastHours g_ni_doorCount g_ni_sights g_ni_whereabouts g_ha_votes g_ha_sayingDays g_ha_saidSo g_ha_saidNot g_ha_sayingCount g_be_cells g_be_fallingIfLet g_be_fallingIfNot g_be_questionCount g_be_wanted g_be_wantedCount g_re_code g_re_written g_re_tape g_re_end g_re_at g_la_ruling g_la_standing g_la_stack g_la_top g_la_holds g_la_lets g_la_clauses g_R_L g_R_kind g_R_number g_R_side g_R_n g_R_cell g_R_day g_R_ruling g_R_share g_T_L g_T_number g_T_tongue g_T_day g_T_code g_C_L g_C_len g_C_row) sz) Q (wC cI cZ cJ cB cR cT ad g_fc_kept g_fc_hasImage g_fc_ringRow g_fc_seats g_ld_grounds g_ld_today g_ld_tape g_ld_bytes g_ld_texts g_ld_textCount g_co_rights g_co_count g_co_leans g_co_heardOn g_co_overruled g_co_termDays g_co_step g_po_shipGoods g_po_aboard g_po_places g_po_shipCount g_po_bond g_po_sold g_po_passed g_po_tariffs g_po_parts g_po_purses g_po_chest g_po_firmSides g_po_owners g_po_firmCount g_po_useFirms g_po_useTons g_po_useCount g_po_quotas g_ni_doorSpots g_ni_firstHours g_ni_lastHours g_ni_doorCount g_ni_sights g_ni_whereabouts g_ha_votes g_ha_sayingDays g_ha_saidSo g_ha_saidNot g_ha_sayingCount g_be_cells g_be_fallingIfLet g_be_fallingIfNot g_be_questionCount g_be_wanted g_be_wantedCount g_re_code g_re_written g_re_tape g_re_end g_re_at g_la_ruling g_la_standing g_la_stack g_la_top g_la_holds g_la_lets g_la_clauses g_R_L g_R_kind g_R_number g_R_side g_R_n g_R_cell g_R_day g_R_ruling g_R_share g_T_L g_T_number g_T_tongue g_T_day g_T_code g_C_L g_C_len g_C_row)) 0 0 (va_A (wC cI cZ cJ cB cR cT ad g_fc_kept g_fc_hasImage g_fc_ringRow g_fc_seats g_ld_grounds g_ld_today g_ld_tape g_ld_bytes g_ld_texts g_ld_textCount g_co_rights g_co_count g_co_leans g_co_heardOn g_co_overruled g_co_termDays g_co_step g_po_shipGoods g_po_aboard g_po_places g_po_shipCount g_po_bond g_po_sold g_po_passed g_po_tariffs g_po_parts g_po_purses g_po_chest g_po_firmSides g_po_owners g_po_firmCount g_po_useFirms g_po_useTons g_po_useCount g_po_quotas g_ni_doorSpots g_ni_firstHours g_ni_lastHours g_ni_doorCount g_ni_sights g_ni_whereabouts g_ha_votes g_ha_sayingDays g_ha_saidSo g_ha_saidNot g_ha_sayingCount g_be_cells g_be_fallingIfLet g_be_fallingIfNot g_be_questionCount g_be_wanted g_be_wantedCount g_re_code g_re_written g_re_tape g_re_end g_re_at g_la_ruling g_la_standing g_la_stack g_la_top g_la_holds g_la_lets g_la_clauses g_R_L g_R_kind g_R_number g_R_side g_R_n g_R_cell g_R_day g_R_ruling g_R_share g_T_L g_T_number g_T_tongue g_T_day g_T_code g_C_L g_C_len g_C_row) sz) := by
  refine st_met (cc := cX11_count) (maxL := 2) (ret := (some .int)) (lv := [(0, .ref (ad 0)), (1, .int p1)]) (Qc := fun A => qi0 D (tyC cI cZ cJ cB cR cT) A Q (wC cI cZ cJ cB cR cT ad g_fc_kept g_fc_hasImage g_fc_ringRow g_fc_seats g_ld_grounds g_ld_today g_ld_tape g_ld_bytes g_ld_texts g_ld_textCount g_co_rights g_co_count g_co_leans g_co_heardOn g_co_overruled g_co_termDays g_co_step g_po_shipGoods g_po_aboard g_po_places g_po_shipCount g_po_bond g_po_sold g_po_passed g_po_tariffs g_po_parts g_po_purses g_po_chest g_po_firmSides g_po_owners g_po_firmCount g_po_useFirms g_po_useTons g_po_useCount g_po_quotas g_ni_doorSpots g_ni_firstHours g_ni_lastHours g_ni_doorCount g_ni_sights g_ni_whereabouts g_ha_votes g_ha_sayingDays g_ha_saidSo g_ha_saidNot g_ha_sayingCount g_be_cells g_be_fallingIfLet g_be_fallingIfNot g_be_questionCount g_be_wanted g_be_wantedCount g_re_code g_re_written g_re_tape g_re_end g_re_at g_la_ruling g_la_standing g_la_stack g_la_top g_la_holds g_la_lets g_la_clauses g_R_L g_R_kind g_R_number g_R_side g_R_n g_R_cell g_R_day g_R_ruling g_R_share g_T_L g_T_number g_T_tongue g_T_day g_T_code g_C_L g_C_len g_C_row)) (by decide) rfl (Nat.le_of_ble_eq_true rfl) rfl ?_
  intro p e s m below meth c ls A R args QQ H locs C hr hlk hnm hK hX hsz hl hO hR hQQ
  have hx := C.1
  have hb := C.2.1
  have hown := C.2.2.2.1
  have hts := C.2.2.2.2
  have hin0 : ∀ w ∈ u_ws RX0 TX0 6, w ∈ (Cond.code yX11_count cX11_count 2 (some .int) :: wsG) := fun w h9 => List.mem_cons_of_mem _ (inG0 w h9)
  have hin1 : ∀ w ∈ u_ws RX1 TX1 6, w ∈ (Cond.code yX11_count cX11_count 2 (some .int) :: wsG) := fun w h9 => List.mem_cons_of_mem _ (inG1 w h9)
  have hin2 : ∀ w ∈ u_ws RX2 TX2 7, w ∈ (Cond.code yX11_count cX11_count 2 (some .int) :: wsG) := fun w h9 => List.mem_cons_of_mem _ (inG2 w h9)
  have hin3 : ∀ w ∈ u_ws RX3 TX3 5, w ∈ (Cond.code yX11_count cX11_count 2 (some .int) :: wsG) := fun w h9 => List.mem_cons_of_mem _ (inG3 w h9)
  have hin4 : ∀ w ∈ u_ws RX4 TX4 6, w ∈ (Cond.code yX11_count cX11_count 2 (some .int) :: wsG) := fun w h9 => List.mem_cons_of_mem _ (inG4 w h9)
  have hin6 : ∀ w ∈ u_ws RX6 TX6 6, w ∈ (Cond.code yX11_count cX11_count 2 (some .int) :: wsG) := fun w h9 => List.mem_cons_of_mem _ (inG6 w h9)
  have hin7 : ∀ w ∈ u_ws RX7 TX7 18, w ∈ (Cond.code yX11_count cX11_count 2 (some .int) :: wsG) := fun w h9 => List.mem_cons_of_mem _ (inG7 w h9)
  have hin11 : ∀ w ∈ u_ws RX11 TX11 7, w ∈ (Cond.code yX11_count cX11_count 2 (some .int) :: wsG) := fun w h9 => List.mem_cons_of_mem _ (inG11 w h9)
  have lk_12_city := hts (Cond.fieldLink RX11 12 "FreeCity" "city" "LFreeCity$City;") (List.mem_cons_of_mem _ qw2_105)
  have lk_28_land := hts (Cond.fieldLink RX11 28 "FreeCity$City" "land" "LFreeCity$Land;") (List.mem_cons_of_mem _ qw2_23)
  have lk_108_textCount := hts (Cond.fieldLink RX11 108 "FreeCity$Land" "textCount" "I") (List.mem_cons_of_mem _ qw1_53)
  have lk_32_court := hts (Cond.fieldLink RX11 32 "FreeCity$City" "court" "LFreeCity$Court;") (List.mem_cons_of_mem _ qw2_25)
  have lk_170_count := hts (Cond.fieldLink RX11 170 "FreeCity$Court" "count" "I") (List.mem_cons_of_mem _ qw1_79)
  have lk_85_today := hts (Cond.fieldLink RX11 85 "FreeCity$Land" "today" "I") (List.mem_cons_of_mem _ qw1_45)
  have lk_58_port := hts (Cond.fieldLink RX11 58 "FreeCity$City" "port" "LFreeCity$Port;") (List.mem_cons_of_mem _ qw2_27)
  have lk_267_shipCount := hts (Cond.fieldLink RX11 267 "FreeCity$Port" "shipCount" "I") (List.mem_cons_of_mem _ qw1_120)
  have lk_291_chest := hts (Cond.fieldLink RX11 291 "FreeCity$Port" "chest" "I") (List.mem_cons_of_mem _ qw1_134)
  have lk_316_firmCount := hts (Cond.fieldLink RX11 316 "FreeCity$Port" "firmCount" "I") (List.mem_cons_of_mem _ qw1_138)
  have lk_67_night := hts (Cond.fieldLink RX11 67 "FreeCity$City" "night" "LFreeCity$Night;") (List.mem_cons_of_mem _ qw2_29)
  have lk_340_doorCount := hts (Cond.fieldLink RX11 340 "FreeCity$Night" "doorCount" "I") (List.mem_cons_of_mem _ qw1_193)
  have lk_372_hall := hts (Cond.fieldLink RX11 372 "FreeCity$City" "hall" "LFreeCity$Hall;") (List.mem_cons_of_mem _ qw2_31)
  have lk_388_sayingCount := hts (Cond.fieldLink RX11 388 "FreeCity$Hall" "sayingCount" "I") (List.mem_cons_of_mem _ qw1_222)
  have lk_403_bench := hts (Cond.fieldLink RX11 403 "FreeCity$City" "bench" "LFreeCity$Bench;") (List.mem_cons_of_mem _ qw2_33)
  have lk_407_questionCount := hts (Cond.fieldLink RX11 407 "FreeCity$Bench" "questionCount" "I") (List.mem_cons_of_mem _ qw2_4)
  have lk_419_wantedCount := hts (Cond.fieldLink RX11 419 "FreeCity$Bench" "wantedCount" "I") (List.mem_cons_of_mem _ qw2_8)
  have lk_95_bytes := hts (Cond.fieldLink RX11 95 "FreeCity$Land" "bytes" "I") (List.mem_cons_of_mem _ qw1_50)
  unfold wp_X11_count at hw
  refine lv_iload_n hx hb dX11_count_0 rfl (lv_at hl 1 rfl) ?_
  by_cases s_1_0 : p1 = (nI 0)
  · have hw := hw.1 s_1_0
    refine lv_tableIn (off := 59) (tgt := 60) hx hb dX11_count_1 (by rw [s_1_0]; decide) (by rw [s_1_0]; decide) (by rw [s_1_0]; decide) (by decide) ?_
    refine lv_aload_n hx hb dX11_count_60 rfl (lv_at hl 0 rfl) ?_
    refine gC_FC_city C hin11 hK lk_12_city hO dX11_count_61 ?_
    refine gC_CT_land C hin1 hK lk_28_land hO dX11_count_64 ?_
    refine gC_LD_textCount C hin4 hK lk_108_textCount hO dX11_count_67 ?_
    exact ri0 hQQ hx hb hr hlk hK hO hw dX11_count_70
  by_cases s_1_1 : p1 = (nI 1)
  · have hw := hw.2.1 s_1_1
    refine lv_tableIn (off := 70) (tgt := 71) hx hb dX11_count_1 (by rw [s_1_1]; decide) (by rw [s_1_1]; decide) (by rw [s_1_1]; decide) (by decide) ?_
    refine lv_aload_n hx hb dX11_count_71 rfl (lv_at hl 0 rfl) ?_
    refine gC_FC_city C hin11 hK lk_12_city hO dX11_count_72 ?_
    refine gC_CT_court C hin1 hK lk_32_court hO dX11_count_75 ?_
    refine gC_CO_count C hin2 hK lk_170_count hO dX11_count_78 ?_
    exact ri0 hQQ hx hb hr hlk hK hO hw dX11_count_81
  by_cases s_1_2 : p1 = (nI 2)
  · have hw := hw.2.2.1 s_1_2
    refine lv_tableIn (off := 81) (tgt := 82) hx hb dX11_count_1 (by rw [s_1_2]; decide) (by rw [s_1_2]; decide) (by rw [s_1_2]; decide) (by decide) ?_
    refine lv_aload_n hx hb dX11_count_82 rfl (lv_at hl 0 rfl) ?_
    refine gC_FC_city C hin11 hK lk_12_city hO dX11_count_83 ?_
    refine gC_CT_land C hin1 hK lk_28_land hO dX11_count_86 ?_
    refine gC_LD_today C hin4 hK lk_85_today hO dX11_count_89 ?_
    exact ri0 hQQ hx hb hr hlk hK hO hw dX11_count_92
  by_cases s_1_3 : p1 = (nI 3)
  · have hw := hw.2.2.2.1 s_1_3
    refine lv_tableIn (off := 92) (tgt := 93) hx hb dX11_count_1 (by rw [s_1_3]; decide) (by rw [s_1_3]; decide) (by rw [s_1_3]; decide) (by decide) ?_
    refine lv_aload_n hx hb dX11_count_93 rfl (lv_at hl 0 rfl) ?_
    refine gC_FC_city C hin11 hK lk_12_city hO dX11_count_94 ?_
    refine gC_CT_port C hin1 hK lk_58_port hO dX11_count_97 ?_
    refine gC_PO_shipCount C hin7 hK lk_267_shipCount hO dX11_count_100 ?_
    exact ri0 hQQ hx hb hr hlk hK hO hw dX11_count_103
  by_cases s_1_4 : p1 = (nI 4)
  · have hw := hw.2.2.2.2.1 s_1_4
    refine lv_tableIn (off := 103) (tgt := 104) hx hb dX11_count_1 (by rw [s_1_4]; decide) (by rw [s_1_4]; decide) (by rw [s_1_4]; decide) (by decide) ?_
    refine lv_aload_n hx hb dX11_count_104 rfl (lv_at hl 0 rfl) ?_
    refine gC_FC_city C hin11 hK lk_12_city hO dX11_count_105 ?_
    refine gC_CT_port C hin1 hK lk_58_port hO dX11_count_108 ?_
    refine gC_PO_chest C hin7 hK lk_291_chest hO dX11_count_111 ?_
    exact ri0 hQQ hx hb hr hlk hK hO hw dX11_count_114
  by_cases s_1_5 : p1 = (nI 5)
  · have hw := hw.2.2.2.2.2.1 s_1_5
    refine lv_tableIn (off := 114) (tgt := 115) hx hb dX11_count_1 (by rw [s_1_5]; decide) (by rw [s_1_5]; decide) (by rw [s_1_5]; decide) (by decide) ?_
    refine lv_aload_n hx hb dX11_count_115 rfl (lv_at hl 0 rfl) ?_
    refine gC_FC_city C hin11 hK lk_12_city hO dX11_count_116 ?_
    refine gC_CT_port C hin1 hK lk_58_port hO dX11_count_119 ?_
    refine gC_PO_firmCount C hin7 hK lk_316_firmCount hO dX11_count_122 ?_
    exact ri0 hQQ hx hb hr hlk hK hO hw dX11_count_125
  by_cases s_1_6 : p1 = (nI 6)
  · have hw := hw.2.2.2.2.2.2.1 s_1_6
    refine lv_tableIn (off := 125) (tgt := 126) hx hb dX11_count_1 (by rw [s_1_6]; decide) (by rw [s_1_6]; decide) (by rw [s_1_6]; decide) (by decide) ?_
    refine lv_aload_n hx hb dX11_count_126 rfl (lv_at hl 0 rfl) ?_
    refine gC_FC_city C hin11 hK lk_12_city hO dX11_count_127 ?_
    refine gC_CT_night C hin1 hK lk_67_night hO dX11_count_130 ?_
    refine gC_NI_doorCount C hin6 hK lk_340_doorCount hO dX11_count_133 ?_
    exact ri0 hQQ hx hb hr hlk hK hO hw dX11_count_136
  by_cases s_1_7 : p1 = (nI 7)
  · have hw := hw.2.2.2.2.2.2.2.1 s_1_7
    refine lv_tableIn (off := 136) (tgt := 137) hx hb dX11_count_1 (by rw [s_1_7]; decide) (by rw [s_1_7]; decide) (by rw [s_1_7]; decide) (by decide) ?_
    refine lv_aload_n hx hb dX11_count_137 rfl (lv_at hl 0 rfl) ?_
    refine gC_FC_city C hin11 hK lk_12_city hO dX11_count_138 ?_
    refine gC_CT_hall C hin1 hK lk_372_hall hO dX11_count_141 ?_
    refine gC_HA_sayingCount C hin3 hK lk_388_sayingCount hO dX11_count_144 ?_
    exact ri0 hQQ hx hb hr hlk hK hO hw dX11_count_147
  by_cases s_1_8 : p1 = (nI 8)
  · have hw := hw.2.2.2.2.2.2.2.2.1 s_1_8
    refine lv_tableIn (off := 147) (tgt := 148) hx hb dX11_count_1 (by rw [s_1_8]; decide) (by rw [s_1_8]; decide) (by rw [s_1_8]; decide) (by decide) ?_
    refine lv_aload_n hx hb dX11_count_148 rfl (lv_at hl 0 rfl) ?_
    refine gC_FC_city C hin11 hK lk_12_city hO dX11_count_149 ?_
    refine gC_CT_bench C hin1 hK lk_403_bench hO dX11_count_152 ?_
    refine gC_BE_questionCount C hin0 hK lk_407_questionCount hO dX11_count_155 ?_
    exact ri0 hQQ hx hb hr hlk hK hO hw dX11_count_158
  by_cases s_1_9 : p1 = (nI 9)
  · have hw := hw.2.2.2.2.2.2.2.2.2.1 s_1_9
    refine lv_tableIn (off := 158) (tgt := 159) hx hb dX11_count_1 (by rw [s_1_9]; decide) (by rw [s_1_9]; decide) (by rw [s_1_9]; decide) (by decide) ?_
    refine lv_aload_n hx hb dX11_count_159 rfl (lv_at hl 0 rfl) ?_
    refine gC_FC_city C hin11 hK lk_12_city hO dX11_count_160 ?_
    refine gC_CT_bench C hin1 hK lk_403_bench hO dX11_count_163 ?_
    refine gC_BE_wantedCount C hin0 hK lk_419_wantedCount hO dX11_count_166 ?_
    exact ri0 hQQ hx hb hr hlk hK hO hw dX11_count_169
  by_cases s_1_10 : p1 = (nI 10)
  · have hw := hw.2.2.2.2.2.2.2.2.2.2.1 s_1_10
    refine lv_tableIn (off := 169) (tgt := 170) hx hb dX11_count_1 (by rw [s_1_10]; decide) (by rw [s_1_10]; decide) (by rw [s_1_10]; decide) (by decide) ?_
    refine lv_aload_n hx hb dX11_count_170 rfl (lv_at hl 0 rfl) ?_
    refine gC_FC_city C hin11 hK lk_12_city hO dX11_count_171 ?_
    refine gC_CT_land C hin1 hK lk_28_land hO dX11_count_174 ?_
    refine gC_LD_bytes C hin4 hK lk_95_bytes hO dX11_count_177 ?_
    exact ri0 hQQ hx hb hr hlk hK hO hw dX11_count_180
  have hw := hw.2.2.2.2.2.2.2.2.2.2.2 s_1_0 s_1_1 s_1_2 s_1_3 s_1_4 s_1_5 s_1_6 s_1_7 s_1_8 s_1_9 s_1_10
  have hts9 : (p1).toInt < 0 ∨ 10 < (p1).toInt := by
    refine tsw 0 10 (fun k h1 h2 => ?_)
    have h3 : k = 0 ∨ k = 1 ∨ k = 2 ∨ k = 3 ∨ k = 4 ∨ k = 5 ∨ k = 6 ∨ k = 7 ∨ k = 8 ∨ k = 9 ∨ k = 10 := by omega
    rcases h3 with rfl | rfl | rfl | rfl | rfl | rfl | rfl | rfl | rfl | rfl | rfl
    · exact s_1_0
    · exact s_1_1
    · exact s_1_2
    · exact s_1_3
    · exact s_1_4
    · exact s_1_5
    · exact s_1_6
    · exact s_1_7
    · exact s_1_8
    · exact s_1_9
    · exact s_1_10
  refine lv_tableOut (tgt := 181) hx hb dX11_count_1 hts9 (by decide) ?_
  refine lv_iconst (v := (-1)) hx hb dX11_count_181 (by decide) ?_
  exact ri0 hQQ hx hb hr hlk hK hO hw dX11_count_182
