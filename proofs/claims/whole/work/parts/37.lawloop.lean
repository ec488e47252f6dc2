set_option maxHeartbeats 4000000 in
set_option maxRecDepth 100000 in
theorem law_loop {Inv : InvT} (h_yard : simT_yard Inv) (h_line : simT_line Inv) (h_day : simT_day Inv) (h_feed : simT_feed Inv) (h_text : simT_text Inv) (h_force : simT_force Inv) (h_why : simT_why Inv) (h_unlike : simT_unlike Inv) (h_use : simT_use Inv) (h_quota : simT_quota Inv) (h_rule : simT_rule Inv) (h_lean : simT_lean Inv) (h_appeal : simT_appeal Inv) (h_term : simT_term Inv) (h_fall : simT_fall Inv) (h_late : simT_late Inv) (h_again : simT_again Inv) (h_act : simT_act Inv) (h_whose : simT_whose Inv) (h_ship : simT_ship Inv) (h_berth : simT_berth Inv) (h_leave : simT_leave Inv) (h_goods : simT_goods Inv) (h_coin : simT_coin Inv) (h_tariff : simT_tariff Inv) (h_share : simT_share Inv) (h_whole : simT_whole Inv) (h_firm : simT_firm Inv) (h_used : simT_used Inv) (h_left : simT_left Inv) (h_door : simT_door Inv) (h_seen : simT_seen Inv) (h_who : simT_who Inv) (h_night : simT_night Inv) (h_sure : simT_sure Inv) (h_vote : simT_vote Inv) (h_seat : simT_seat Inv) (h_turn : simT_turn Inv) (h_say : simT_say Inv) (h_hold : simT_hold Inv) (h_ask : simT_ask Inv) (h_want : simT_want Inv) (h_judge : simT_judge Inv) (h_best : simT_best Inv) (h_tried : simT_tried Inv) (h_image : simT_image Inv) (h_undo : simT_undo Inv) (h_count : simT_count Inv) {p : Program} {l : Launch} {e : Env} {s : State} {m : MethodId} {below : List Frame} {meth : Method} {c : Code} {D : va_G} {cI cZ cJ cB cR cT : ClassId} {ad ak am : Nat → Nat} {h b L : Nat} {xs : Nat → Int32} (h_skip : ∀ (n : Nat) (g_ld_grounds : Nat → Int32) (g_ld_today : Int32) (g_ld_tape : Nat → Int32) (g_ld_bytes : Int32) (g_ld_texts : Nat → Option Nat) (g_ld_textCount : Int32) (g_co_rights : Nat → Option Nat) (g_co_count : Int32) (g_co_leans : Nat → Int64) (g_co_heardOn : Nat → Int32) (g_co_overruled : Int64) (g_co_termDays : Int32) (g_co_step : Int32) (g_po_shipGoods : Nat → Int32) (g_po_aboard : Nat → Int32) (g_po_places : Nat → Int32) (g_po_shipCount : Int32) (g_po_bond : Nat → Int32) (g_po_sold : Nat → Int32) (g_po_passed : Nat → Int32) (g_po_tariffs : Nat → Int32) (g_po_parts : Nat → Int32) (g_po_purses : Nat → Int32) (g_po_chest : Int32) (g_po_firmSides : Nat → Int32) (g_po_owners : Nat → Int32) (g_po_firmCount : Int32) (g_po_useFirms : Nat → Int32) (g_po_useTons : Nat → Int32) (g_po_useCount : Int32) (g_po_quotas : Nat → Int32) (g_ni_doorSpots : Nat → Int32) (g_ni_firstHours : Nat → Int32) (g_ni_lastHours : Nat → Int32) (g_ni_doorCount : Int32) (g_ni_sights : Nat → Int32) (g_ha_votes : Nat → Int32) (g_ha_sayingDays : Nat → Int32) (g_ha_saidSo : Nat → Int32) (g_ha_saidNot : Nat → Int32) (g_ha_sayingCount : Int32) (g_be_cells : Nat → Int32) (g_be_fallingIfLet : Nat → Int64) (g_be_fallingIfNot : Nat → Int64) (g_be_questionCount : Int32) (g_be_wanted : Nat → Int32) (g_be_wantedCount : Int32) (g_fc_hasImage : Int32) (g_R_L : List Nat) (g_R_kind : Nat → Int32) (g_R_number : Nat → Int32) (g_R_side : Nat → Int32) (g_R_n : Nat → Int32) (g_R_cell : Nat → Int32) (g_R_day : Nat → Int32) (g_R_ruling : Nat → Int32) (g_R_share : Nat → Int32) (g_T_L : List Nat) (g_T_number : Nat → Int32) (g_T_tongue : Nat → Int32) (g_T_day : Nat → Int32) (g_T_code : Nat → Option Nat) (g_C_L : List Nat) (g_C_len : Nat → Nat) (g_C_row : Nat → Nat → Int32) (h_ld_grounds : Nat → Int32) (h_ld_today : Int32) (h_ld_tape : Nat → Int32) (h_ld_bytes : Int32) (h_ld_texts : Nat → Option Nat) (h_ld_textCount : Int32) (h_co_rights : Nat → Option Nat) (h_co_count : Int32) (h_co_leans : Nat → Int64) (h_co_heardOn : Nat → Int32) (h_co_overruled : Int64) (h_co_termDays : Int32) (h_co_step : Int32) (h_po_shipGoods : Nat → Int32) (h_po_aboard : Nat → Int32) (h_po_places : Nat → Int32) (h_po_shipCount : Int32) (h_po_bond : Nat → Int32) (h_po_sold : Nat → Int32) (h_po_passed : Nat → Int32) (h_po_tariffs : Nat → Int32) (h_po_parts : Nat → Int32) (h_po_purses : Nat → Int32) (h_po_chest : Int32) (h_po_firmSides : Nat → Int32) (h_po_owners : Nat → Int32) (h_po_firmCount : Int32) (h_po_useFirms : Nat → Int32) (h_po_useTons : Nat → Int32) (h_po_useCount : Int32) (h_po_quotas : Nat → Int32) (h_ni_doorSpots : Nat → Int32) (h_ni_firstHours : Nat → Int32) (h_ni_lastHours : Nat → Int32) (h_ni_doorCount : Int32) (h_ni_sights : Nat → Int32) (h_ha_votes : Nat → Int32) (h_ha_sayingDays : Nat → Int32) (h_ha_saidSo : Nat → Int32) (h_ha_saidNot : Nat → Int32) (h_ha_sayingCount : Int32) (h_be_cells : Nat → Int32) (h_be_fallingIfLet : Nat → Int64) (h_be_fallingIfNot : Nat → Int64) (h_be_questionCount : Int32) (h_be_wanted : Nat → Int32) (h_be_wantedCount : Int32) (k_s : Nat → Int32) (k_image : Nat → Int32) (k_hasImage : Int32) (k_letBy : Nat → Int32) (k_letStamp : Nat → Int32) (k_stamp : Int32) (k_could : Nat → Int32) (k_couldNight : Nat → Int32) (k_night : Int32), Inv n g_ld_grounds g_ld_today g_ld_tape g_ld_bytes g_ld_texts g_ld_textCount g_co_rights g_co_count g_co_leans g_co_heardOn g_co_overruled g_co_termDays g_co_step g_po_shipGoods g_po_aboard g_po_places g_po_shipCount g_po_bond g_po_sold g_po_passed g_po_tariffs g_po_parts g_po_purses g_po_chest g_po_firmSides g_po_owners g_po_firmCount g_po_useFirms g_po_useTons g_po_useCount g_po_quotas g_ni_doorSpots g_ni_firstHours g_ni_lastHours g_ni_doorCount g_ni_sights g_ha_votes g_ha_sayingDays g_ha_saidSo g_ha_saidNot g_ha_sayingCount g_be_cells g_be_fallingIfLet g_be_fallingIfNot g_be_questionCount g_be_wanted g_be_wantedCount g_fc_hasImage g_R_L g_R_kind g_R_number g_R_side g_R_n g_R_cell g_R_day g_R_ruling g_R_share g_T_L g_T_number g_T_tongue g_T_day g_T_code g_C_L g_C_len g_C_row h_ld_grounds h_ld_today h_ld_tape h_ld_bytes h_ld_texts h_ld_textCount h_co_rights h_co_count h_co_leans h_co_heardOn h_co_overruled h_co_termDays h_co_step h_po_shipGoods h_po_aboard h_po_places h_po_shipCount h_po_bond h_po_sold h_po_passed h_po_tariffs h_po_parts h_po_purses h_po_chest h_po_firmSides h_po_owners h_po_firmCount h_po_useFirms h_po_useTons h_po_useCount h_po_quotas h_ni_doorSpots h_ni_firstHours h_ni_lastHours h_ni_doorCount h_ni_sights h_ha_votes h_ha_sayingDays h_ha_saidSo h_ha_saidNot h_ha_sayingCount h_be_cells h_be_fallingIfLet h_be_fallingIfNot h_be_questionCount h_be_wanted h_be_wantedCount k_s k_image k_hasImage k_letBy k_letStamp k_stamp k_could k_couldNight k_night → Inv (n + 1) g_ld_grounds g_ld_today g_ld_tape g_ld_bytes g_ld_texts g_ld_textCount g_co_rights g_co_count g_co_leans g_co_heardOn g_co_overruled g_co_termDays g_co_step g_po_shipGoods g_po_aboard g_po_places g_po_shipCount g_po_bond g_po_sold g_po_passed g_po_tariffs g_po_parts g_po_purses g_po_chest g_po_firmSides g_po_owners g_po_firmCount g_po_useFirms g_po_useTons g_po_useCount g_po_quotas g_ni_doorSpots g_ni_firstHours g_ni_lastHours g_ni_doorCount g_ni_sights g_ha_votes g_ha_sayingDays g_ha_saidSo g_ha_saidNot g_ha_sayingCount g_be_cells g_be_fallingIfLet g_be_fallingIfNot g_be_questionCount g_be_wanted g_be_wantedCount g_fc_hasImage g_R_L g_R_kind g_R_number g_R_side g_R_n g_R_cell g_R_day g_R_ruling g_R_share g_T_L g_T_number g_T_tongue g_T_day g_T_code g_C_L g_C_len g_C_row h_ld_grounds h_ld_today h_ld_tape h_ld_bytes h_ld_texts h_ld_textCount h_co_rights h_co_count h_co_leans h_co_heardOn h_co_overruled h_co_termDays h_co_step h_po_shipGoods h_po_aboard h_po_places h_po_shipCount h_po_bond h_po_sold h_po_passed h_po_tariffs h_po_parts h_po_purses h_po_chest h_po_firmSides h_po_owners h_po_firmCount h_po_useFirms h_po_useTons h_po_useCount h_po_quotas h_ni_doorSpots h_ni_firstHours h_ni_lastHours h_ni_doorCount h_ni_sights h_ha_votes h_ha_sayingDays h_ha_saidSo h_ha_saidNot h_ha_sayingCount h_be_cells h_be_fallingIfLet h_be_fallingIfNot h_be_questionCount h_be_wanted h_be_wantedCount k_s k_image k_hasImage k_letBy k_letStamp k_stamp k_could k_couldNight k_night) (f : Nat) : ∀ (k : Nat) (g_fc_hasImage : Int32) (g_fc_ringRow : Nat → Int32) (g_fc_seats : Nat → Int32) (g_ld_grounds : Nat → Int32) (g_ld_today : Int32) (g_ld_tape : Nat → Int32) (g_ld_bytes : Int32) (g_ld_texts : Nat → Option Nat) (g_ld_textCount : Int32) (g_co_rights : Nat → Option Nat) (g_co_count : Int32) (g_co_leans : Nat → Int64) (g_co_heardOn : Nat → Int32) (g_co_overruled : Int64) (g_co_termDays : Int32) (g_co_step : Int32) (g_po_shipGoods : Nat → Int32) (g_po_aboard : Nat → Int32) (g_po_places : Nat → Int32) (g_po_shipCount : Int32) (g_po_bond : Nat → Int32) (g_po_sold : Nat → Int32) (g_po_passed : Nat → Int32) (g_po_tariffs : Nat → Int32) (g_po_parts : Nat → Int32) (g_po_purses : Nat → Int32) (g_po_chest : Int32) (g_po_firmSides : Nat → Int32) (g_po_owners : Nat → Int32) (g_po_firmCount : Int32) (g_po_useFirms : Nat → Int32) (g_po_useTons : Nat → Int32) (g_po_useCount : Int32) (g_po_quotas : Nat → Int32) (g_ni_doorSpots : Nat → Int32) (g_ni_firstHours : Nat → Int32) (g_ni_lastHours : Nat → Int32) (g_ni_doorCount : Int32) (g_ni_sights : Nat → Int32) (g_ni_whereabouts : Nat → Int32) (g_ha_votes : Nat → Int32) (g_ha_sayingDays : Nat → Int32) (g_ha_saidSo : Nat → Int32) (g_ha_saidNot : Nat → Int32) (g_ha_sayingCount : Int32) (g_be_cells : Nat → Int32) (g_be_fallingIfLet : Nat → Int64) (g_be_fallingIfNot : Nat → Int64) (g_be_questionCount : Int32) (g_be_wanted : Nat → Int32) (g_be_wantedCount : Int32) (g_re_code : Nat → Int32) (g_re_written : Int32) (g_re_tape : Nat) (g_re_end : Int32) (g_re_at : Int32) (g_la_ruling : Nat → Option Nat) (g_la_standing : Int64) (g_la_stack : Nat → Int32) (g_la_top : Int32) (g_la_holds : Nat → Int32) (g_la_lets : Nat → Int32) (g_la_clauses : Int32) (g_R_L : List Nat) (g_R_kind : Nat → Int32) (g_R_number : Nat → Int32) (g_R_side : Nat → Int32) (g_R_n : Nat → Int32) (g_R_cell : Nat → Int32) (g_R_day : Nat → Int32) (g_R_ruling : Nat → Int32) (g_R_share : Nat → Int32) (g_T_L : List Nat) (g_T_number : Nat → Int32) (g_T_tongue : Nat → Int32) (g_T_day : Nat → Int32) (g_T_code : Nat → Option Nat) (g_C_L : List Nat) (g_C_len : Nat → Nat) (g_C_row : Nat → Nat → Int32) (h_ld_grounds : Nat → Int32) (h_ld_today : Int32) (h_ld_tape : Nat → Int32) (h_ld_bytes : Int32) (h_ld_texts : Nat → Option Nat) (h_ld_textCount : Int32) (h_co_rights : Nat → Option Nat) (h_co_count : Int32) (h_co_leans : Nat → Int64) (h_co_heardOn : Nat → Int32) (h_co_overruled : Int64) (h_co_termDays : Int32) (h_co_step : Int32) (h_po_shipGoods : Nat → Int32) (h_po_aboard : Nat → Int32) (h_po_places : Nat → Int32) (h_po_shipCount : Int32) (h_po_bond : Nat → Int32) (h_po_sold : Nat → Int32) (h_po_passed : Nat → Int32) (h_po_tariffs : Nat → Int32) (h_po_parts : Nat → Int32) (h_po_purses : Nat → Int32) (h_po_chest : Int32) (h_po_firmSides : Nat → Int32) (h_po_owners : Nat → Int32) (h_po_firmCount : Int32) (h_po_useFirms : Nat → Int32) (h_po_useTons : Nat → Int32) (h_po_useCount : Int32) (h_po_quotas : Nat → Int32) (h_ni_doorSpots : Nat → Int32) (h_ni_firstHours : Nat → Int32) (h_ni_lastHours : Nat → Int32) (h_ni_doorCount : Int32) (h_ni_sights : Nat → Int32) (h_ni_whereabouts : Nat → Int32) (h_ha_votes : Nat → Int32) (h_ha_sayingDays : Nat → Int32) (h_ha_saidSo : Nat → Int32) (h_ha_saidNot : Nat → Int32) (h_ha_sayingCount : Int32) (h_be_cells : Nat → Int32) (h_be_fallingIfLet : Nat → Int64) (h_be_fallingIfNot : Nat → Int64) (h_be_questionCount : Int32) (h_be_wanted : Nat → Int32) (h_be_wantedCount : Int32) (k_thrown : Int32) (k_s : Nat → Int32) (k_image : Nat → Int32) (k_hasImage : Int32) (k_steps : Nat → Int32) (k_read : Int32) (k_spot : Int32) (k_isWrong : Int32) (k_open : Int32) (k_act : Int32) (k_letBy : Nat → Int32) (k_letStamp : Nat → Int32) (k_stamp : Int32) (k_fallen : Nat → Int32) (k_held : Nat → Int32) (k_stands : Nat → Int32) (k_falling : Nat → Int32) (k_away : Nat → Int32) (k_round : Nat → Int32) (k_rests : Nat → Int64) (k_may : Nat → Int32) (k_next : Nat → Int32) (k_could : Nat → Int32) (k_couldNight : Nat → Int32) (k_night : Int32) (k_seats : Nat → Int32) (H : Heap) (locs : List Loc) (ls : Array Slot), lawC p s m meth c b L xs D cI cZ cJ cB cR cT → 512 < k + f → k ≤ 512 → Inv k g_ld_grounds g_ld_today g_ld_tape g_ld_bytes g_ld_texts g_ld_textCount g_co_rights g_co_count g_co_leans g_co_heardOn g_co_overruled g_co_termDays g_co_step g_po_shipGoods g_po_aboard g_po_places g_po_shipCount g_po_bond g_po_sold g_po_passed g_po_tariffs g_po_parts g_po_purses g_po_chest g_po_firmSides g_po_owners g_po_firmCount g_po_useFirms g_po_useTons g_po_useCount g_po_quotas g_ni_doorSpots g_ni_firstHours g_ni_lastHours g_ni_doorCount g_ni_sights g_ha_votes g_ha_sayingDays g_ha_saidSo g_ha_saidNot g_ha_sayingCount g_be_cells g_be_fallingIfLet g_be_fallingIfNot g_be_questionCount g_be_wanted g_be_wantedCount g_fc_hasImage g_R_L g_R_kind g_R_number g_R_side g_R_n g_R_cell g_R_day g_R_ruling g_R_share g_T_L g_T_number g_T_tongue g_T_day g_T_code g_C_L g_C_len g_C_row h_ld_grounds h_ld_today h_ld_tape h_ld_bytes h_ld_texts h_ld_textCount h_co_rights h_co_count h_co_leans h_co_heardOn h_co_overruled h_co_termDays h_co_step h_po_shipGoods h_po_aboard h_po_places h_po_shipCount h_po_bond h_po_sold h_po_passed h_po_tariffs h_po_parts h_po_purses h_po_chest h_po_firmSides h_po_owners h_po_firmCount h_po_useFirms h_po_useTons h_po_useCount h_po_quotas h_ni_doorSpots h_ni_firstHours h_ni_lastHours h_ni_doorCount h_ni_sights h_ha_votes h_ha_sayingDays h_ha_saidSo h_ha_saidNot h_ha_sayingCount h_be_cells h_be_fallingIfLet h_be_fallingIfNot h_be_questionCount h_be_wanted h_be_wantedCount k_s k_image k_hasImage k_letBy k_letStamp k_stamp k_could k_couldNight k_night → okW D (fun q : Nat => s.heap.size ≤ q) s.heap H locs ((wC cI cZ cJ cB cR cT ad (ak 0) g_fc_hasImage g_fc_ringRow g_fc_seats g_ld_grounds g_ld_today g_ld_tape g_ld_bytes g_ld_texts g_ld_textCount g_co_rights g_co_count g_co_leans g_co_heardOn g_co_overruled g_co_termDays g_co_step g_po_shipGoods g_po_aboard g_po_places g_po_shipCount g_po_bond g_po_sold g_po_passed g_po_tariffs g_po_parts g_po_purses g_po_chest g_po_firmSides g_po_owners g_po_firmCount g_po_useFirms g_po_useTons g_po_useCount g_po_quotas g_ni_doorSpots g_ni_firstHours g_ni_lastHours g_ni_doorCount g_ni_sights g_ni_whereabouts g_ha_votes g_ha_sayingDays g_ha_saidSo g_ha_saidNot g_ha_sayingCount g_be_cells g_be_fallingIfLet g_be_fallingIfNot g_be_questionCount g_be_wanted g_be_wantedCount g_re_code g_re_written g_re_tape g_re_end g_re_at g_la_ruling g_la_standing g_la_stack g_la_top g_la_holds g_la_lets g_la_clauses g_R_L g_R_kind g_R_number g_R_side g_R_n g_R_cell g_R_day g_R_ruling g_R_share g_T_L g_T_number g_T_tongue g_T_day g_T_code g_C_L g_C_len g_C_row) ++ ((wK cI cZ cJ cB cR cT ak h_ld_grounds h_ld_today h_ld_tape h_ld_bytes h_ld_texts h_ld_textCount h_co_rights h_co_count h_co_leans h_co_heardOn h_co_overruled h_co_termDays h_co_step h_po_shipGoods h_po_aboard h_po_places h_po_shipCount h_po_bond h_po_sold h_po_passed h_po_tariffs h_po_parts h_po_purses h_po_chest h_po_firmSides h_po_owners h_po_firmCount h_po_useFirms h_po_useTons h_po_useCount h_po_quotas h_ni_doorSpots h_ni_firstHours h_ni_lastHours h_ni_doorCount h_ni_sights h_ni_whereabouts h_ha_votes h_ha_sayingDays h_ha_saidSo h_ha_saidNot h_ha_sayingCount h_be_cells h_be_fallingIfLet h_be_fallingIfNot h_be_questionCount h_be_wanted h_be_wantedCount) ++ (wM cI cZ cJ h am k_thrown k_s k_image k_hasImage k_steps k_read k_spot k_isWrong k_open k_act k_letBy k_letStamp k_stamp k_fallen k_held k_stands k_falling k_away k_round k_rests k_may k_next k_could k_couldNight k_night k_seats))) → lv_has ls 4 [(0, .ref b), (1, .ref (ad 0)), (2, .ref h), (3, .int (nI (7 * k)))] → W p l e room_1 s m #[Value.ref b] below meth c H locs (109 + 2 * k) (192985 + 128 * k) (lw_Z below #[Value.ref b] s) (F0 m 18 ls []) := by
  induction f with
  | zero =>
    intro k _ _ _ _ _ _ _ _ _ _ _ _ _ _ _ _ _ _ _ _ _ _ _ _ _ _ _ _ _ _ _ _ _ _ _ _ _ _ _ _ _ _ _ _ _ _ _ _ _ _ _ _ _ _ _ _ _ _ _ _ _ _ _ _ _ _ _ _ _ _ _ _ _ _ _ _ _ _ _ _ _ _ _ _ _ _ _ _ _ _ _ _ _ _ _ _ _ _ _ _ _ _ _ _ _ _ _ _ _ _ _ _ _ _ _ _ _ _ _ _ _ _ _ _ _ _ _ _ _ _ _ _ _ _ _ _ _ _ _ _ _ _ _ _ _ _ _ _ _ _ _ _ _ _ H locs ls hC h1 h2
    omega
  | succ f ih =>
    intro k g_fc_hasImage g_fc_ringRow g_fc_seats g_ld_grounds g_ld_today g_ld_tape g_ld_bytes g_ld_texts g_ld_textCount g_co_rights g_co_count g_co_leans g_co_heardOn g_co_overruled g_co_termDays g_co_step g_po_shipGoods g_po_aboard g_po_places g_po_shipCount g_po_bond g_po_sold g_po_passed g_po_tariffs g_po_parts g_po_purses g_po_chest g_po_firmSides g_po_owners g_po_firmCount g_po_useFirms g_po_useTons g_po_useCount g_po_quotas g_ni_doorSpots g_ni_firstHours g_ni_lastHours g_ni_doorCount g_ni_sights g_ni_whereabouts g_ha_votes g_ha_sayingDays g_ha_saidSo g_ha_saidNot g_ha_sayingCount g_be_cells g_be_fallingIfLet g_be_fallingIfNot g_be_questionCount g_be_wanted g_be_wantedCount g_re_code g_re_written g_re_tape g_re_end g_re_at g_la_ruling g_la_standing g_la_stack g_la_top g_la_holds g_la_lets g_la_clauses g_R_L g_R_kind g_R_number g_R_side g_R_n g_R_cell g_R_day g_R_ruling g_R_share g_T_L g_T_number g_T_tongue g_T_day g_T_code g_C_L g_C_len g_C_row h_ld_grounds h_ld_today h_ld_tape h_ld_bytes h_ld_texts h_ld_textCount h_co_rights h_co_count h_co_leans h_co_heardOn h_co_overruled h_co_termDays h_co_step h_po_shipGoods h_po_aboard h_po_places h_po_shipCount h_po_bond h_po_sold h_po_passed h_po_tariffs h_po_parts h_po_purses h_po_chest h_po_firmSides h_po_owners h_po_firmCount h_po_useFirms h_po_useTons h_po_useCount h_po_quotas h_ni_doorSpots h_ni_firstHours h_ni_lastHours h_ni_doorCount h_ni_sights h_ni_whereabouts h_ha_votes h_ha_sayingDays h_ha_saidSo h_ha_saidNot h_ha_sayingCount h_be_cells h_be_fallingIfLet h_be_fallingIfNot h_be_questionCount h_be_wanted h_be_wantedCount k_thrown k_s k_image k_hasImage k_steps k_read k_spot k_isWrong k_open k_act k_letBy k_letStamp k_stamp k_fallen k_held k_stands k_falling k_away k_round k_rests k_may k_next k_could k_couldNight k_night k_seats H locs ls hC h1 h2 hI hO hl
    obtain ⟨C, hK, hKm, hX, hS0, hbl, hr, hlk, hL⟩ := id hC
    have hx := C.1
    have hb := C.2.1
    have hown := C.2.2.2.1
    have hts := C.2.2.2.2
    have hbA : ¬ (fun q : Nat => s.heap.size ≤ q) b := Nat.not_le.mpr hbl
    refine lv_iload_n hx hb dL_law_18 rfl (lv_at hl 3 rfl) ?_
    refine lv_aload_n hx hb dL_law_19 rfl (lv_at hl 0 rfl) ?_
    refine va_slen hx hb hS0 hbl hbA hO.2.2.1 dL_law_20 ?_
    refine lv_bipush (v := nI 7) hx hb dL_law_21 (by decide) ?_
    refine lv_isub hx hb dL_law_23 ?_
    refine lv_icmp_gt (tgt := 2058) hx hb dL_law_24 (by decide) (fun q => ?_) (fun q => ?_)
    · refine lv_iconst (v := 1) hx hb dL_law_2058 (by decide) ?_
      refine va_forget (fun q hq => hO.2.2.1.2.2 q hq) ?_
      refine W.widen (k := 600000) (n := 7302250) (by omega) (by omega) ?_
      exact lw_ret hx hb hr hlk dL_law_2059
    · have hkL : 7 * k + 7 ≤ L := by
        rcases Nat.lt_or_ge L (7 * k + 7) with g | g
        · exact absurd ((lawcmp hL h2).mpr g) q
        · exact g
      have hk : k < 512 := by omega
      have kk : goNext Inv p l e s m below meth c D cI cZ cJ cB cR cT ad ak am h b L xs k := by
        intro _ _ _ _ _ _ _ _ _ _ _ _ _ _ _ _ _ _ _ _ _ _ _ _ _ _ _ _ _ _ _ _ _ _ _ _ _ _ _ _ _ _ _ _ _ _ _ _ _ _ _ _ _ _ _ _ _ _ _ _ _ _ _ _ _ _ _ _ _ _ _ _ _ _ _ _ _ _ _ _ _ _ _ _ _ _ _ _ _ _ _ _ _ _ _ _ _ _ _ _ _ _ _ _ _ _ _ _ _ _ _ _ _ _ _ _ _ _ _ _ _ _ _ _ _ _ _ _ _ _ _ _ _ _ _ _ _ _ _ _ _ _ _ _ _ _ _ _ _ _ _ _ _ _ H locs ls hI hO hl
        refine lv_iinc (v := nI (7 * (k + 1))) (lv' := [(3, .int (nI (7 * (k + 1)))), (0, .ref b), (1, .ref (ad 0)), (2, .ref h)]) hx hb dL_law_2052 hl (k := 3) rfl (by rw [iinc_7, nI_add]; rfl) (by decide) rfl (fun ls hl => ?_)
        refine lv_goto (tgt := 18) hx hb dL_law_2055 (by decide) ?_
        exact ih (k + 1) _ _ _ _ _ _ _ _ _ _ _ _ _ _ _ _ _ _ _ _ _ _ _ _ _ _ _ _ _ _ _ _ _ _ _ _ _ _ _ _ _ _ _ _ _ _ _ _ _ _ _ _ _ _ _ _ _ _ _ _ _ _ _ _ _ _ _ _ _ _ _ _ _ _ _ _ _ _ _ _ _ _ _ _ _ _ _ _ _ _ _ _ _ _ _ _ _ _ _ _ _ _ _ _ _ _ _ _ _ _ _ _ _ _ _ _ _ _ _ _ _ _ _ _ _ _ _ _ _ _ _ _ _ _ _ _ _ _ _ _ _ _ _ _ _ _ _ _ _ _ _ _ _ _ H locs ls hC (by omega) (by omega) hI hO (lv_sub hl [1, 2, 3, 0] rfl)
      refine lv_aload_n hx hb dL_law_27 rfl (lv_at hl 0 rfl) ?_
      refine lv_iload_n hx hb dL_law_28 rfl (lv_at hl 3 rfl) ?_
      refine va_sld hx hb hS0 hbl hbA hO.2.2.1 (lawin0 hL hkL) dL_law_29 ?_
      refine lv_bipush (v := nI 63) hx hb dL_law_30 (by decide) ?_
      refine lv_iand hx hb dL_law_32 ?_
      by_cases s_0 : (xs (nI (7 * k)).toNatClampNeg &&& nI 63) = nI 0
      · refine lv_tableIn (off := 207) (tgt := 240) hx hb dL_law_33 (by rw [s_0]; decide) (by rw [s_0]; decide) (by rw [s_0]; decide) (by decide) ?_
        exact law_yard h_yard hC hk hkL hI hO hl kk
      by_cases s_1 : (xs (nI (7 * k)).toNatClampNeg &&& nI 63) = nI 1
      · refine lv_tableIn (off := 240) (tgt := 273) hx hb dL_law_33 (by rw [s_1]; decide) (by rw [s_1]; decide) (by rw [s_1]; decide) (by decide) ?_
        exact law_line h_line hC hk hkL hI hO hl kk
      by_cases s_2 : (xs (nI (7 * k)).toNatClampNeg &&& nI 63) = nI 2
      · refine lv_tableIn (off := 273) (tgt := 306) hx hb dL_law_33 (by rw [s_2]; decide) (by rw [s_2]; decide) (by rw [s_2]; decide) (by decide) ?_
        exact law_day h_day hC hk hkL hI hO hl kk
      by_cases s_3 : (xs (nI (7 * k)).toNatClampNeg &&& nI 63) = nI 3
      · refine lv_tableIn (off := 296) (tgt := 329) hx hb dL_law_33 (by rw [s_3]; decide) (by rw [s_3]; decide) (by rw [s_3]; decide) (by decide) ?_
        exact law_feed h_feed hC hk hkL hI hO hl kk
      by_cases s_4 : (xs (nI (7 * k)).toNatClampNeg &&& nI 63) = nI 4
      · refine lv_tableIn (off := 359) (tgt := 392) hx hb dL_law_33 (by rw [s_4]; decide) (by rw [s_4]; decide) (by rw [s_4]; decide) (by decide) ?_
        exact law_text h_text hC hk hkL hI hO hl kk
      by_cases s_5 : (xs (nI (7 * k)).toNatClampNeg &&& nI 63) = nI 5
      · refine lv_tableIn (off := 392) (tgt := 425) hx hb dL_law_33 (by rw [s_5]; decide) (by rw [s_5]; decide) (by rw [s_5]; decide) (by decide) ?_
        exact law_force h_force hC hk hkL hI hO hl kk
      by_cases s_6 : (xs (nI (7 * k)).toNatClampNeg &&& nI 63) = nI 6
      · refine lv_tableIn (off := 435) (tgt := 468) hx hb dL_law_33 (by rw [s_6]; decide) (by rw [s_6]; decide) (by rw [s_6]; decide) (by decide) ?_
        exact law_why h_why hC hk hkL hI hO hl kk
      by_cases s_7 : (xs (nI (7 * k)).toNatClampNeg &&& nI 63) = nI 7
      · refine lv_tableIn (off := 478) (tgt := 511) hx hb dL_law_33 (by rw [s_7]; decide) (by rw [s_7]; decide) (by rw [s_7]; decide) (by decide) ?_
        exact law_unlike h_unlike hC hk hkL hI hO hl kk
      by_cases s_8 : (xs (nI (7 * k)).toNatClampNeg &&& nI 63) = nI 8
      · refine lv_tableIn (off := 531) (tgt := 564) hx hb dL_law_33 (by rw [s_8]; decide) (by rw [s_8]; decide) (by rw [s_8]; decide) (by decide) ?_
        exact law_use h_use hC hk hkL hI hO hl kk
      by_cases s_9 : (xs (nI (7 * k)).toNatClampNeg &&& nI 63) = nI 9
      · refine lv_tableIn (off := 584) (tgt := 617) hx hb dL_law_33 (by rw [s_9]; decide) (by rw [s_9]; decide) (by rw [s_9]; decide) (by decide) ?_
        exact law_quota h_quota hC hk hkL hI hO hl kk
      by_cases s_10 : (xs (nI (7 * k)).toNatClampNeg &&& nI 63) = nI 10
      · refine lv_tableIn (off := 627) (tgt := 660) hx hb dL_law_33 (by rw [s_10]; decide) (by rw [s_10]; decide) (by rw [s_10]; decide) (by decide) ?_
        exact law_rule h_rule hC hk hkL hI hO hl kk
      by_cases s_11 : (xs (nI (7 * k)).toNatClampNeg &&& nI 63) = nI 11
      · refine lv_tableIn (off := 686) (tgt := 719) hx hb dL_law_33 (by rw [s_11]; decide) (by rw [s_11]; decide) (by rw [s_11]; decide) (by decide) ?_
        exact law_lean h_lean hC hk hkL hI hO hl kk
      by_cases s_12 : (xs (nI (7 * k)).toNatClampNeg &&& nI 63) = nI 12
      · refine lv_tableIn (off := 719) (tgt := 752) hx hb dL_law_33 (by rw [s_12]; decide) (by rw [s_12]; decide) (by rw [s_12]; decide) (by decide) ?_
        exact law_appeal h_appeal hC hk hkL hI hO hl kk
      by_cases s_13 : (xs (nI (7 * k)).toNatClampNeg &&& nI 63) = nI 13
      · refine lv_tableIn (off := 762) (tgt := 795) hx hb dL_law_33 (by rw [s_13]; decide) (by rw [s_13]; decide) (by rw [s_13]; decide) (by decide) ?_
        exact law_term h_term hC hk hkL hI hO hl kk
      by_cases s_14 : (xs (nI (7 * k)).toNatClampNeg &&& nI 63) = nI 14
      · refine lv_tableIn (off := 795) (tgt := 828) hx hb dL_law_33 (by rw [s_14]; decide) (by rw [s_14]; decide) (by rw [s_14]; decide) (by decide) ?_
        exact law_fall h_fall hC hk hkL hI hO hl kk
      by_cases s_15 : (xs (nI (7 * k)).toNatClampNeg &&& nI 63) = nI 15
      · refine lv_tableIn (off := 828) (tgt := 861) hx hb dL_law_33 (by rw [s_15]; decide) (by rw [s_15]; decide) (by rw [s_15]; decide) (by decide) ?_
        exact law_late h_late hC hk hkL hI hO hl kk
      by_cases s_16 : (xs (nI (7 * k)).toNatClampNeg &&& nI 63) = nI 16
      · refine lv_tableIn (off := 861) (tgt := 894) hx hb dL_law_33 (by rw [s_16]; decide) (by rw [s_16]; decide) (by rw [s_16]; decide) (by decide) ?_
        exact law_again h_again hC hk hkL hI hO hl kk
      by_cases s_17 : (xs (nI (7 * k)).toNatClampNeg &&& nI 63) = nI 17
      · refine lv_tableIn (off := 884) (tgt := 917) hx hb dL_law_33 (by rw [s_17]; decide) (by rw [s_17]; decide) (by rw [s_17]; decide) (by decide) ?_
        exact law_act h_act hC hk hkL hI hO hl kk
      by_cases s_18 : (xs (nI (7 * k)).toNatClampNeg &&& nI 63) = nI 18
      · refine lv_tableIn (off := 927) (tgt := 960) hx hb dL_law_33 (by rw [s_18]; decide) (by rw [s_18]; decide) (by rw [s_18]; decide) (by decide) ?_
        exact law_whose h_whose hC hk hkL hI hO hl kk
      by_cases s_19 : (xs (nI (7 * k)).toNatClampNeg &&& nI 63) = nI 19
      · refine lv_tableIn (off := 960) (tgt := 993) hx hb dL_law_33 (by rw [s_19]; decide) (by rw [s_19]; decide) (by rw [s_19]; decide) (by decide) ?_
        exact law_ship h_ship hC hk hkL hI hO hl kk
      by_cases s_20 : (xs (nI (7 * k)).toNatClampNeg &&& nI 63) = nI 20
      · refine lv_tableIn (off := 993) (tgt := 1026) hx hb dL_law_33 (by rw [s_20]; decide) (by rw [s_20]; decide) (by rw [s_20]; decide) (by decide) ?_
        exact law_berth h_berth hC hk hkL hI hO hl kk
      by_cases s_21 : (xs (nI (7 * k)).toNatClampNeg &&& nI 63) = nI 21
      · refine lv_tableIn (off := 1026) (tgt := 1059) hx hb dL_law_33 (by rw [s_21]; decide) (by rw [s_21]; decide) (by rw [s_21]; decide) (by decide) ?_
        exact law_leave h_leave hC hk hkL hI hO hl kk
      by_cases s_22 : (xs (nI (7 * k)).toNatClampNeg &&& nI 63) = nI 22
      · refine lv_tableIn (off := 1059) (tgt := 1092) hx hb dL_law_33 (by rw [s_22]; decide) (by rw [s_22]; decide) (by rw [s_22]; decide) (by decide) ?_
        exact law_goods h_goods hC hk hkL hI hO hl kk
      by_cases s_23 : (xs (nI (7 * k)).toNatClampNeg &&& nI 63) = nI 23
      · refine lv_tableIn (off := 1092) (tgt := 1125) hx hb dL_law_33 (by rw [s_23]; decide) (by rw [s_23]; decide) (by rw [s_23]; decide) (by decide) ?_
        exact law_coin h_coin hC hk hkL hI hO hl kk
      by_cases s_24 : (xs (nI (7 * k)).toNatClampNeg &&& nI 63) = nI 24
      · refine lv_tableIn (off := 1151) (tgt := 1184) hx hb dL_law_33 (by rw [s_24]; decide) (by rw [s_24]; decide) (by rw [s_24]; decide) (by decide) ?_
        exact law_tariff h_tariff hC hk hkL hI hO hl kk
      by_cases s_25 : (xs (nI (7 * k)).toNatClampNeg &&& nI 63) = nI 25
      · refine lv_tableIn (off := 1194) (tgt := 1227) hx hb dL_law_33 (by rw [s_25]; decide) (by rw [s_25]; decide) (by rw [s_25]; decide) (by decide) ?_
        exact law_share h_share hC hk hkL hI hO hl kk
      by_cases s_26 : (xs (nI (7 * k)).toNatClampNeg &&& nI 63) = nI 26
      · refine lv_tableIn (off := 1207) (tgt := 1240) hx hb dL_law_33 (by rw [s_26]; decide) (by rw [s_26]; decide) (by rw [s_26]; decide) (by decide) ?_
        exact law_whole h_whole hC hk hkL hI hO hl kk
      by_cases s_27 : (xs (nI (7 * k)).toNatClampNeg &&& nI 63) = nI 27
      · refine lv_tableIn (off := 1240) (tgt := 1273) hx hb dL_law_33 (by rw [s_27]; decide) (by rw [s_27]; decide) (by rw [s_27]; decide) (by decide) ?_
        exact law_firm h_firm hC hk hkL hI hO hl kk
      by_cases s_28 : (xs (nI (7 * k)).toNatClampNeg &&& nI 63) = nI 28
      · refine lv_tableIn (off := 1273) (tgt := 1306) hx hb dL_law_33 (by rw [s_28]; decide) (by rw [s_28]; decide) (by rw [s_28]; decide) (by decide) ?_
        exact law_used h_used hC hk hkL hI hO hl kk
      by_cases s_29 : (xs (nI (7 * k)).toNatClampNeg &&& nI 63) = nI 29
      · refine lv_tableIn (off := 1306) (tgt := 1339) hx hb dL_law_33 (by rw [s_29]; decide) (by rw [s_29]; decide) (by rw [s_29]; decide) (by decide) ?_
        exact law_left h_left hC hk hkL hI hO hl kk
      by_cases s_30 : (xs (nI (7 * k)).toNatClampNeg &&& nI 63) = nI 30
      · refine lv_tableIn (off := 1339) (tgt := 1372) hx hb dL_law_33 (by rw [s_30]; decide) (by rw [s_30]; decide) (by rw [s_30]; decide) (by decide) ?_
        exact law_door h_door hC hk hkL hI hO hl kk
      by_cases s_31 : (xs (nI (7 * k)).toNatClampNeg &&& nI 63) = nI 31
      · refine lv_tableIn (off := 1382) (tgt := 1415) hx hb dL_law_33 (by rw [s_31]; decide) (by rw [s_31]; decide) (by rw [s_31]; decide) (by decide) ?_
        exact law_seen h_seen hC hk hkL hI hO hl kk
      by_cases s_32 : (xs (nI (7 * k)).toNatClampNeg &&& nI 63) = nI 32
      · refine lv_tableIn (off := 1425) (tgt := 1458) hx hb dL_law_33 (by rw [s_32]; decide) (by rw [s_32]; decide) (by rw [s_32]; decide) (by decide) ?_
        exact law_who h_who hC hk hkL hI hO hl kk
      by_cases s_33 : (xs (nI (7 * k)).toNatClampNeg &&& nI 63) = nI 33
      · refine lv_tableIn (off := 1458) (tgt := 1491) hx hb dL_law_33 (by rw [s_33]; decide) (by rw [s_33]; decide) (by rw [s_33]; decide) (by decide) ?_
        exact law_night h_night hC hk hkL hI hO hl kk
      by_cases s_34 : (xs (nI (7 * k)).toNatClampNeg &&& nI 63) = nI 34
      · refine lv_tableIn (off := 1491) (tgt := 1524) hx hb dL_law_33 (by rw [s_34]; decide) (by rw [s_34]; decide) (by rw [s_34]; decide) (by decide) ?_
        exact law_sure h_sure hC hk hkL hI hO hl kk
      by_cases s_35 : (xs (nI (7 * k)).toNatClampNeg &&& nI 63) = nI 35
      · refine lv_tableIn (off := 1514) (tgt := 1547) hx hb dL_law_33 (by rw [s_35]; decide) (by rw [s_35]; decide) (by rw [s_35]; decide) (by decide) ?_
        exact law_vote h_vote hC hk hkL hI hO hl kk
      by_cases s_36 : (xs (nI (7 * k)).toNatClampNeg &&& nI 63) = nI 36
      · refine lv_tableIn (off := 1547) (tgt := 1580) hx hb dL_law_33 (by rw [s_36]; decide) (by rw [s_36]; decide) (by rw [s_36]; decide) (by decide) ?_
        exact law_seat h_seat hC hk hkL hI hO hl kk
      by_cases s_37 : (xs (nI (7 * k)).toNatClampNeg &&& nI 63) = nI 37
      · refine lv_tableIn (off := 1580) (tgt := 1613) hx hb dL_law_33 (by rw [s_37]; decide) (by rw [s_37]; decide) (by rw [s_37]; decide) (by decide) ?_
        exact law_turn h_turn hC hk hkL hI hO hl kk
      by_cases s_38 : (xs (nI (7 * k)).toNatClampNeg &&& nI 63) = nI 38
      · refine lv_tableIn (off := 1613) (tgt := 1646) hx hb dL_law_33 (by rw [s_38]; decide) (by rw [s_38]; decide) (by rw [s_38]; decide) (by decide) ?_
        exact law_say h_say hC hk hkL hI hO hl kk
      by_cases s_39 : (xs (nI (7 * k)).toNatClampNeg &&& nI 63) = nI 39
      · refine lv_tableIn (off := 1720) (tgt := 1753) hx hb dL_law_33 (by rw [s_39]; decide) (by rw [s_39]; decide) (by rw [s_39]; decide) (by decide) ?_
        exact law_hold h_hold hC hk hkL hI hO hl kk
      by_cases s_40 : (xs (nI (7 * k)).toNatClampNeg &&& nI 63) = nI 40
      · refine lv_tableIn (off := 1753) (tgt := 1786) hx hb dL_law_33 (by rw [s_40]; decide) (by rw [s_40]; decide) (by rw [s_40]; decide) (by decide) ?_
        exact law_ask h_ask hC hk hkL hI hO hl kk
      by_cases s_41 : (xs (nI (7 * k)).toNatClampNeg &&& nI 63) = nI 41
      · refine lv_tableIn (off := 1868) (tgt := 1901) hx hb dL_law_33 (by rw [s_41]; decide) (by rw [s_41]; decide) (by rw [s_41]; decide) (by decide) ?_
        exact law_want h_want hC hk hkL hI hO hl kk
      by_cases s_42 : (xs (nI (7 * k)).toNatClampNeg &&& nI 63) = nI 42
      · refine lv_tableIn (off := 1891) (tgt := 1924) hx hb dL_law_33 (by rw [s_42]; decide) (by rw [s_42]; decide) (by rw [s_42]; decide) (by decide) ?_
        exact law_judge h_judge hC hk hkL hI hO hl kk
      by_cases s_43 : (xs (nI (7 * k)).toNatClampNeg &&& nI 63) = nI 43
      · refine lv_tableIn (off := 1924) (tgt := 1957) hx hb dL_law_33 (by rw [s_43]; decide) (by rw [s_43]; decide) (by rw [s_43]; decide) (by decide) ?_
        exact law_best h_best hC hk hkL hI hO hl kk
      by_cases s_44 : (xs (nI (7 * k)).toNatClampNeg &&& nI 63) = nI 44
      · refine lv_tableIn (off := 1937) (tgt := 1970) hx hb dL_law_33 (by rw [s_44]; decide) (by rw [s_44]; decide) (by rw [s_44]; decide) (by decide) ?_
        exact law_tried h_tried hC hk hkL hI hO hl kk
      by_cases s_45 : (xs (nI (7 * k)).toNatClampNeg &&& nI 63) = nI 45
      · refine lv_tableIn (off := 1970) (tgt := 2003) hx hb dL_law_33 (by rw [s_45]; decide) (by rw [s_45]; decide) (by rw [s_45]; decide) (by decide) ?_
        exact law_image h_image hC hk hkL hI hO hl kk
      by_cases s_46 : (xs (nI (7 * k)).toNatClampNeg &&& nI 63) = nI 46
      · refine lv_tableIn (off := 1983) (tgt := 2016) hx hb dL_law_33 (by rw [s_46]; decide) (by rw [s_46]; decide) (by rw [s_46]; decide) (by decide) ?_
        exact law_undo h_undo hC hk hkL hI hO hl kk
      by_cases s_47 : (xs (nI (7 * k)).toNatClampNeg &&& nI 63) = nI 47
      · refine lv_tableIn (off := 1996) (tgt := 2029) hx hb dL_law_33 (by rw [s_47]; decide) (by rw [s_47]; decide) (by rw [s_47]; decide) (by decide) ?_
        exact law_count h_count hC hk hkL hI hO hl kk
      have hts9 : ((xs (nI (7 * k)).toNatClampNeg &&& nI 63)).toInt < 0 ∨ 47 < ((xs (nI (7 * k)).toNatClampNeg &&& nI 63)).toInt := by
        refine tsw 0 47 (fun k h1 h2 => ?_)
        have h3 : k = 0 ∨ k = 1 ∨ k = 2 ∨ k = 3 ∨ k = 4 ∨ k = 5 ∨ k = 6 ∨ k = 7 ∨ k = 8 ∨ k = 9 ∨ k = 10 ∨ k = 11 ∨ k = 12 ∨ k = 13 ∨ k = 14 ∨ k = 15 ∨ k = 16 ∨ k = 17 ∨ k = 18 ∨ k = 19 ∨ k = 20 ∨ k = 21 ∨ k = 22 ∨ k = 23 ∨ k = 24 ∨ k = 25 ∨ k = 26 ∨ k = 27 ∨ k = 28 ∨ k = 29 ∨ k = 30 ∨ k = 31 ∨ k = 32 ∨ k = 33 ∨ k = 34 ∨ k = 35 ∨ k = 36 ∨ k = 37 ∨ k = 38 ∨ k = 39 ∨ k = 40 ∨ k = 41 ∨ k = 42 ∨ k = 43 ∨ k = 44 ∨ k = 45 ∨ k = 46 ∨ k = 47 := by omega
        rcases h3 with rfl | rfl | rfl | rfl | rfl | rfl | rfl | rfl | rfl | rfl | rfl | rfl | rfl | rfl | rfl | rfl | rfl | rfl | rfl | rfl | rfl | rfl | rfl | rfl | rfl | rfl | rfl | rfl | rfl | rfl | rfl | rfl | rfl | rfl | rfl | rfl | rfl | rfl | rfl | rfl | rfl | rfl | rfl | rfl | rfl | rfl | rfl | rfl
        · exact s_0
        · exact s_1
        · exact s_2
        · exact s_3
        · exact s_4
        · exact s_5
        · exact s_6
        · exact s_7
        · exact s_8
        · exact s_9
        · exact s_10
        · exact s_11
        · exact s_12
        · exact s_13
        · exact s_14
        · exact s_15
        · exact s_16
        · exact s_17
        · exact s_18
        · exact s_19
        · exact s_20
        · exact s_21
        · exact s_22
        · exact s_23
        · exact s_24
        · exact s_25
        · exact s_26
        · exact s_27
        · exact s_28
        · exact s_29
        · exact s_30
        · exact s_31
        · exact s_32
        · exact s_33
        · exact s_34
        · exact s_35
        · exact s_36
        · exact s_37
        · exact s_38
        · exact s_39
        · exact s_40
        · exact s_41
        · exact s_42
        · exact s_43
        · exact s_44
        · exact s_45
        · exact s_46
        · exact s_47
      refine lv_tableOut (tgt := 2052) hx hb dL_law_33 hts9 (by decide) ?_
      refine W.widen (k := 109 + 2 * (k + 1)) (n := 192985 + 128 * (k + 1)) (by omega) (by omega) ?_
      exact kk _ _ _ _ _ _ _ _ _ _ _ _ _ _ _ _ _ _ _ _ _ _ _ _ _ _ _ _ _ _ _ _ _ _ _ _ _ _ _ _ _ _ _ _ _ _ _ _ _ _ _ _ _ _ _ _ _ _ _ _ _ _ _ _ _ _ _ _ _ _ _ _ _ _ _ _ _ _ _ _ _ _ _ _ _ _ _ _ _ _ _ _ _ _ _ _ _ _ _ _ _ _ _ _ _ _ _ _ _ _ _ _ _ _ _ _ _ _ _ _ _ _ _ _ _ _ _ _ _ _ _ _ _ _ _ _ _ _ _ _ _ _ _ _ _ _ _ _ _ _ _ _ _ _ H locs ls (h_skip k _ _ _ _ _ _ _ _ _ _ _ _ _ _ _ _ _ _ _ _ _ _ _ _ _ _ _ _ _ _ _ _ _ _ _ _ _ _ _ _ _ _ _ _ _ _ _ _ _ _ _ _ _ _ _ _ _ _ _ _ _ _ _ _ _ _ _ _ _ _ _ _ _ _ _ _ _ _ _ _ _ _ _ _ _ _ _ _ _ _ _ _ _ _ _ _ _ _ _ _ _ _ _ _ _ _ _ _ _ _ _ _ _ _ _ _ _ _ _ _ _ hI) hO hl
