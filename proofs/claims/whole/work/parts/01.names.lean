-- ===== PART A: goes FIRST, ahead of the names: the tables' words, and 'selects' of the private methods out of them =====
/-- a private method of a class that the tables say can be made, by its rows of tables_1 -/
def lw_okq (q : MethodName × Nat) : Prop := (q.1.cls ≠ "java/lang/invoke/MethodHandle" ∧ q.1.cls ≠ "java/lang/invoke/VarHandle") ∧ Cond.instantiable q.1.cls q.2 ∈ tables_1 ∧ Cond.privateMethod q.1 ∈ tables_1 ∧ Cond.instanceMethod q.1 ∈ tables_1
theorem lw_p0 : lw_okq (⟨"FreeCity$Reader", "readClause", "()Z"⟩, 5) := ⟨⟨by decide +kernel, by decide +kernel⟩, List.mem_of_getElem? (i := 288) (by decide +kernel), List.mem_of_getElem? (i := 438) (by decide +kernel), List.mem_of_getElem? (i := 439) (by decide +kernel)⟩
theorem lw_p1 : lw_okq (⟨"FreeCity$Reader", "peek", "()I"⟩, 5) := ⟨⟨by decide +kernel, by decide +kernel⟩, List.mem_of_getElem? (i := 288) (by decide +kernel), List.mem_of_getElem? (i := 442) (by decide +kernel), List.mem_of_getElem? (i := 443) (by decide +kernel)⟩
theorem lw_p2 : lw_okq (⟨"FreeCity$Reader", "skip", "(I)Z"⟩, 5) := ⟨⟨by decide +kernel, by decide +kernel⟩, List.mem_of_getElem? (i := 288) (by decide +kernel), List.mem_of_getElem? (i := 446) (by decide +kernel), List.mem_of_getElem? (i := 447) (by decide +kernel)⟩
theorem lw_p3 : lw_okq (⟨"FreeCity$Reader", "readAny", "(I)Z"⟩, 5) := ⟨⟨by decide +kernel, by decide +kernel⟩, List.mem_of_getElem? (i := 288) (by decide +kernel), List.mem_of_getElem? (i := 450) (by decide +kernel), List.mem_of_getElem? (i := 451) (by decide +kernel)⟩
theorem lw_p4 : lw_okq (⟨"FreeCity$Reader", "readAll", "(I)Z"⟩, 5) := ⟨⟨by decide +kernel, by decide +kernel⟩, List.mem_of_getElem? (i := 288) (by decide +kernel), List.mem_of_getElem? (i := 454) (by decide +kernel), List.mem_of_getElem? (i := 455) (by decide +kernel)⟩
theorem lw_p5 : lw_okq (⟨"FreeCity$Reader", "readFact", "(I)Z"⟩, 5) := ⟨⟨by decide +kernel, by decide +kernel⟩, List.mem_of_getElem? (i := 288) (by decide +kernel), List.mem_of_getElem? (i := 458) (by decide +kernel), List.mem_of_getElem? (i := 459) (by decide +kernel)⟩
theorem lw_p6 : lw_okq (⟨"FreeCity$Reader", "write", "(II)Z"⟩, 5) := ⟨⟨by decide +kernel, by decide +kernel⟩, List.mem_of_getElem? (i := 288) (by decide +kernel), List.mem_of_getElem? (i := 462) (by decide +kernel), List.mem_of_getElem? (i := 463) (by decide +kernel)⟩
theorem lw_p7 : lw_okq (⟨"FreeCity$Reader", "readNumber", "(I)Z"⟩, 5) := ⟨⟨by decide +kernel, by decide +kernel⟩, List.mem_of_getElem? (i := 288) (by decide +kernel), List.mem_of_getElem? (i := 466) (by decide +kernel), List.mem_of_getElem? (i := 467) (by decide +kernel)⟩
theorem lw_p8 : lw_okq (⟨"FreeCity$Law", "cityHours", "(I)I"⟩, 9) := ⟨⟨by decide +kernel, by decide +kernel⟩, List.mem_of_getElem? (i := 310) (by decide +kernel), List.mem_of_getElem? (i := 569) (by decide +kernel), List.mem_of_getElem? (i := 570) (by decide +kernel)⟩
theorem lw_p9 : lw_okq (⟨"FreeCity$Law", "tongueHours", "(II)I"⟩, 9) := ⟨⟨by decide +kernel, by decide +kernel⟩, List.mem_of_getElem? (i := 310) (by decide +kernel), List.mem_of_getElem? (i := 586) (by decide +kernel), List.mem_of_getElem? (i := 587) (by decide +kernel)⟩
theorem lw_p10 : lw_okq (⟨"FreeCity$Law", "weigh", "([II)V"⟩, 9) := ⟨⟨by decide +kernel, by decide +kernel⟩, List.mem_of_getElem? (i := 310) (by decide +kernel), List.mem_of_getElem? (i := 590) (by decide +kernel), List.mem_of_getElem? (i := 591) (by decide +kernel)⟩
theorem lw_p11 : lw_okq (⟨"FreeCity$Law", "join", "(I)V"⟩, 9) := ⟨⟨by decide +kernel, by decide +kernel⟩, List.mem_of_getElem? (i := 310) (by decide +kernel), List.mem_of_getElem? (i := 594) (by decide +kernel), List.mem_of_getElem? (i := 595) (by decide +kernel)⟩
theorem lw_p12 : lw_okq (⟨"FreeCity$Law", "closeClause", "(Z)V"⟩, 9) := ⟨⟨by decide +kernel, by decide +kernel⟩, List.mem_of_getElem? (i := 310) (by decide +kernel), List.mem_of_getElem? (i := 598) (by decide +kernel), List.mem_of_getElem? (i := 599) (by decide +kernel)⟩
theorem lw_p13 : lw_okq (⟨"FreeCity$Law", "factHours", "(III)I"⟩, 9) := ⟨⟨by decide +kernel, by decide +kernel⟩, List.mem_of_getElem? (i := 310) (by decide +kernel), List.mem_of_getElem? (i := 602) (by decide +kernel), List.mem_of_getElem? (i := 603) (by decide +kernel)⟩
theorem lw_p14 : lw_okq (⟨"FreeCity$Court", "roundFrom", "(I)I"⟩, 7) := ⟨⟨by decide +kernel, by decide +kernel⟩, List.mem_of_getElem? (i := 70) (by decide +kernel), List.mem_of_getElem? (i := 766) (by decide +kernel), List.mem_of_getElem? (i := 767) (by decide +kernel)⟩
theorem lw_p15 : lw_okq (⟨"FreeCity$Court", "leanedOnBy", "(J)J"⟩, 7) := ⟨⟨by decide +kernel, by decide +kernel⟩, List.mem_of_getElem? (i := 70) (by decide +kernel), List.mem_of_getElem? (i := 770) (by decide +kernel), List.mem_of_getElem? (i := 771) (by decide +kernel)⟩
def lw_privs_1 : List (MethodName × Nat) := [(⟨"FreeCity$Reader", "readClause", "()Z"⟩, 5), (⟨"FreeCity$Reader", "peek", "()I"⟩, 5), (⟨"FreeCity$Reader", "skip", "(I)Z"⟩, 5), (⟨"FreeCity$Reader", "readAny", "(I)Z"⟩, 5), (⟨"FreeCity$Reader", "readAll", "(I)Z"⟩, 5), (⟨"FreeCity$Reader", "readFact", "(I)Z"⟩, 5), (⟨"FreeCity$Reader", "write", "(II)Z"⟩, 5), (⟨"FreeCity$Reader", "readNumber", "(I)Z"⟩, 5), (⟨"FreeCity$Law", "cityHours", "(I)I"⟩, 9), (⟨"FreeCity$Law", "tongueHours", "(II)I"⟩, 9), (⟨"FreeCity$Law", "weigh", "([II)V"⟩, 9), (⟨"FreeCity$Law", "join", "(I)V"⟩, 9), (⟨"FreeCity$Law", "closeClause", "(Z)V"⟩, 9), (⟨"FreeCity$Law", "factHours", "(III)I"⟩, 9), (⟨"FreeCity$Court", "roundFrom", "(I)I"⟩, 7), (⟨"FreeCity$Court", "leanedOnBy", "(J)J"⟩, 7)]
theorem lw_r1 : ∀ q ∈ lw_privs_1, lw_okq q := List.forall_mem_cons.mpr ⟨lw_p0, List.forall_mem_cons.mpr ⟨lw_p1, List.forall_mem_cons.mpr ⟨lw_p2, List.forall_mem_cons.mpr ⟨lw_p3, List.forall_mem_cons.mpr ⟨lw_p4, List.forall_mem_cons.mpr ⟨lw_p5, List.forall_mem_cons.mpr ⟨lw_p6, List.forall_mem_cons.mpr ⟨lw_p7, List.forall_mem_cons.mpr ⟨lw_p8, List.forall_mem_cons.mpr ⟨lw_p9, List.forall_mem_cons.mpr ⟨lw_p10, List.forall_mem_cons.mpr ⟨lw_p11, List.forall_mem_cons.mpr ⟨lw_p12, List.forall_mem_cons.mpr ⟨lw_p13, List.forall_mem_cons.mpr ⟨lw_p14, List.forall_mem_cons.mpr ⟨lw_p15, fun _ h => absurd h List.not_mem_nil⟩⟩⟩⟩⟩⟩⟩⟩⟩⟩⟩⟩⟩⟩⟩⟩
theorem lw_p16 : lw_okq (⟨"FreeCity$Court", "leastOnward", "(III)I"⟩, 7) := ⟨⟨by decide +kernel, by decide +kernel⟩, List.mem_of_getElem? (i := 70) (by decide +kernel), List.mem_of_getElem? (i := 774) (by decide +kernel), List.mem_of_getElem? (i := 775) (by decide +kernel)⟩
theorem lw_p17 : lw_okq (⟨"FreeCity$Court", "directlyLeaningOn", "(J)J"⟩, 7) := ⟨⟨by decide +kernel, by decide +kernel⟩, List.mem_of_getElem? (i := 70) (by decide +kernel), List.mem_of_getElem? (i := 778) (by decide +kernel), List.mem_of_getElem? (i := 779) (by decide +kernel)⟩
theorem lw_p18 : lw_okq (⟨"FreeCity$Right", "binds", "(II)I"⟩, 8) := ⟨⟨by decide +kernel, by decide +kernel⟩, List.mem_of_getElem? (i := 665) (by decide +kernel), List.mem_of_getElem? (i := 791) (by decide +kernel), List.mem_of_getElem? (i := 792) (by decide +kernel)⟩
theorem lw_p19 : lw_okq (⟨"FreeCity$Right", "gives", "(II)I"⟩, 8) := ⟨⟨by decide +kernel, by decide +kernel⟩, List.mem_of_getElem? (i := 665) (by decide +kernel), List.mem_of_getElem? (i := 800) (by decide +kernel), List.mem_of_getElem? (i := 801) (by decide +kernel)⟩
theorem lw_p20 : lw_okq (⟨"FreeCity$Right", "hangs", "(II)I"⟩, 8) := ⟨⟨by decide +kernel, by decide +kernel⟩, List.mem_of_getElem? (i := 665) (by decide +kernel), List.mem_of_getElem? (i := 804) (by decide +kernel), List.mem_of_getElem? (i := 805) (by decide +kernel)⟩
theorem lw_p21 : lw_okq (⟨"FreeCity$Port", "cut", "(I)I"⟩, 18) := ⟨⟨by decide +kernel, by decide +kernel⟩, List.mem_of_getElem? (i := 106) (by decide +kernel), List.mem_of_getElem? (i := 868) (by decide +kernel), List.mem_of_getElem? (i := 869) (by decide +kernel)⟩
theorem lw_p22 : lw_okq (⟨"FreeCity$Port", "allParts", "()I"⟩, 18) := ⟨⟨by decide +kernel, by decide +kernel⟩, List.mem_of_getElem? (i := 106) (by decide +kernel), List.mem_of_getElem? (i := 872) (by decide +kernel), List.mem_of_getElem? (i := 873) (by decide +kernel)⟩
theorem lw_p23 : lw_okq (⟨"FreeCity$Port", "aheadOf", "(I)I"⟩, 18) := ⟨⟨by decide +kernel, by decide +kernel⟩, List.mem_of_getElem? (i := 106) (by decide +kernel), List.mem_of_getElem? (i := 876) (by decide +kernel), List.mem_of_getElem? (i := 877) (by decide +kernel)⟩
theorem lw_p24 : lw_okq (⟨"FreeCity$Port", "remainder", "(I)I"⟩, 18) := ⟨⟨by decide +kernel, by decide +kernel⟩, List.mem_of_getElem? (i := 106) (by decide +kernel), List.mem_of_getElem? (i := 880) (by decide +kernel), List.mem_of_getElem? (i := 881) (by decide +kernel)⟩
theorem lw_p25 : lw_okq (⟨"FreeCity$Port", "belongsTo", "(II)Z"⟩, 18) := ⟨⟨by decide +kernel, by decide +kernel⟩, List.mem_of_getElem? (i := 106) (by decide +kernel), List.mem_of_getElem? (i := 917) (by decide +kernel), List.mem_of_getElem? (i := 918) (by decide +kernel)⟩
theorem lw_p26 : lw_okq (⟨"FreeCity$Night", "roam", "(III)V"⟩, 6) := ⟨⟨by decide +kernel, by decide +kernel⟩, List.mem_of_getElem? (i := 183) (by decide +kernel), List.mem_of_getElem? (i := 964) (by decide +kernel), List.mem_of_getElem? (i := 965) (by decide +kernel)⟩
theorem lw_p27 : lw_okq (⟨"FreeCity$Night", "paintingLast", "(II)I"⟩, 6) := ⟨⟨by decide +kernel, by decide +kernel⟩, List.mem_of_getElem? (i := 183) (by decide +kernel), List.mem_of_getElem? (i := 969) (by decide +kernel), List.mem_of_getElem? (i := 970) (by decide +kernel)⟩
theorem lw_p28 : lw_okq (⟨"FreeCity$Hall", "nextList", "([I)I"⟩, 5) := ⟨⟨by decide +kernel, by decide +kernel⟩, List.mem_of_getElem? (i := 211) (by decide +kernel), List.mem_of_getElem? (i := 1002) (by decide +kernel), List.mem_of_getElem? (i := 1003) (by decide +kernel)⟩
theorem lw_p29 : lw_okq (⟨"FreeCity", "seatsOf", "(I)I"⟩, 7) := ⟨⟨by decide +kernel, by decide +kernel⟩, List.mem_of_getElem? (i := 20) (by decide +kernel), List.mem_of_getElem? (i := 1010) (by decide +kernel), List.mem_of_getElem? (i := 1011) (by decide +kernel)⟩
theorem lw_p30 : lw_okq (⟨"FreeCity", "metBy", "(I)I"⟩, 7) := ⟨⟨by decide +kernel, by decide +kernel⟩, List.mem_of_getElem? (i := 20) (by decide +kernel), List.mem_of_getElem? (i := 1064) (by decide +kernel), List.mem_of_getElem? (i := 1065) (by decide +kernel)⟩
theorem lw_p31 : lw_okq (⟨"FreeCity", "fallsBy", "(IJ)I"⟩, 7) := ⟨⟨by decide +kernel, by decide +kernel⟩, List.mem_of_getElem? (i := 20) (by decide +kernel), List.mem_of_getElem? (i := 1072) (by decide +kernel), List.mem_of_getElem? (i := 1073) (by decide +kernel)⟩
def lw_privs_2 : List (MethodName × Nat) := [(⟨"FreeCity$Court", "leastOnward", "(III)I"⟩, 7), (⟨"FreeCity$Court", "directlyLeaningOn", "(J)J"⟩, 7), (⟨"FreeCity$Right", "binds", "(II)I"⟩, 8), (⟨"FreeCity$Right", "gives", "(II)I"⟩, 8), (⟨"FreeCity$Right", "hangs", "(II)I"⟩, 8), (⟨"FreeCity$Port", "cut", "(I)I"⟩, 18), (⟨"FreeCity$Port", "allParts", "()I"⟩, 18), (⟨"FreeCity$Port", "aheadOf", "(I)I"⟩, 18), (⟨"FreeCity$Port", "remainder", "(I)I"⟩, 18), (⟨"FreeCity$Port", "belongsTo", "(II)Z"⟩, 18), (⟨"FreeCity$Night", "roam", "(III)V"⟩, 6), (⟨"FreeCity$Night", "paintingLast", "(II)I"⟩, 6), (⟨"FreeCity$Hall", "nextList", "([I)I"⟩, 5), (⟨"FreeCity", "seatsOf", "(I)I"⟩, 7), (⟨"FreeCity", "metBy", "(I)I"⟩, 7), (⟨"FreeCity", "fallsBy", "(IJ)I"⟩, 7)]
theorem lw_r2 : ∀ q ∈ lw_privs_2, lw_okq q := List.forall_mem_cons.mpr ⟨lw_p16, List.forall_mem_cons.mpr ⟨lw_p17, List.forall_mem_cons.mpr ⟨lw_p18, List.forall_mem_cons.mpr ⟨lw_p19, List.forall_mem_cons.mpr ⟨lw_p20, List.forall_mem_cons.mpr ⟨lw_p21, List.forall_mem_cons.mpr ⟨lw_p22, List.forall_mem_cons.mpr ⟨lw_p23, List.forall_mem_cons.mpr ⟨lw_p24, List.forall_mem_cons.mpr ⟨lw_p25, List.forall_mem_cons.mpr ⟨lw_p26, List.forall_mem_cons.mpr ⟨lw_p27, List.forall_mem_cons.mpr ⟨lw_p28, List.forall_mem_cons.mpr ⟨lw_p29, List.forall_mem_cons.mpr ⟨lw_p30, List.forall_mem_cons.mpr ⟨lw_p31, fun _ h => absurd h List.not_mem_nil⟩⟩⟩⟩⟩⟩⟩⟩⟩⟩⟩⟩⟩⟩⟩⟩
theorem lw_p32 : lw_okq (⟨"FreeCity", "neededAnswers", "()I"⟩, 7) := ⟨⟨by decide +kernel, by decide +kernel⟩, List.mem_of_getElem? (i := 20) (by decide +kernel), List.mem_of_getElem? (i := 1084) (by decide +kernel), List.mem_of_getElem? (i := 1085) (by decide +kernel)⟩
theorem lw_p33 : lw_okq (⟨"FreeCity", "wantedLet", "()I"⟩, 7) := ⟨⟨by decide +kernel, by decide +kernel⟩, List.mem_of_getElem? (i := 20) (by decide +kernel), List.mem_of_getElem? (i := 1101) (by decide +kernel), List.mem_of_getElem? (i := 1102) (by decide +kernel)⟩
theorem lw_p34 : lw_okq (⟨"FreeCityModel", "farOf", "(II)I"⟩, 26) := ⟨⟨by decide +kernel, by decide +kernel⟩, List.mem_of_getElem? (i := 1161) (by decide +kernel), List.mem_of_getElem? (i := 1260) (by decide +kernel), List.mem_of_getElem? (i := 1261) (by decide +kernel)⟩
theorem lw_p35 : lw_okq (⟨"FreeCityModel", "hears", "()V"⟩, 26) := ⟨⟨by decide +kernel, by decide +kernel⟩, List.mem_of_getElem? (i := 1161) (by decide +kernel), List.mem_of_getElem? (i := 1271) (by decide +kernel), List.mem_of_getElem? (i := 1272) (by decide +kernel)⟩
theorem lw_p36 : lw_okq (⟨"FreeCityModel", "readsText", "(III)Z"⟩, 26) := ⟨⟨by decide +kernel, by decide +kernel⟩, List.mem_of_getElem? (i := 1161) (by decide +kernel), List.mem_of_getElem? (i := 1287) (by decide +kernel), List.mem_of_getElem? (i := 1288) (by decide +kernel)⟩
theorem lw_p37 : lw_okq (⟨"FreeCityModel", "clause", "(I)V"⟩, 26) := ⟨⟨by decide +kernel, by decide +kernel⟩, List.mem_of_getElem? (i := 1161) (by decide +kernel), List.mem_of_getElem? (i := 1291) (by decide +kernel), List.mem_of_getElem? (i := 1292) (by decide +kernel)⟩
theorem lw_p38 : lw_okq (⟨"FreeCityModel", "here", "()I"⟩, 26) := ⟨⟨by decide +kernel, by decide +kernel⟩, List.mem_of_getElem? (i := 1161) (by decide +kernel), List.mem_of_getElem? (i := 1295) (by decide +kernel), List.mem_of_getElem? (i := 1296) (by decide +kernel)⟩
theorem lw_p39 : lw_okq (⟨"FreeCityModel", "must", "(I)V"⟩, 26) := ⟨⟨by decide +kernel, by decide +kernel⟩, List.mem_of_getElem? (i := 1161) (by decide +kernel), List.mem_of_getElem? (i := 1299) (by decide +kernel), List.mem_of_getElem? (i := 1300) (by decide +kernel)⟩
theorem lw_p40 : lw_okq (⟨"FreeCityModel", "some", "()Z"⟩, 26) := ⟨⟨by decide +kernel, by decide +kernel⟩, List.mem_of_getElem? (i := 1161) (by decide +kernel), List.mem_of_getElem? (i := 1303) (by decide +kernel), List.mem_of_getElem? (i := 1304) (by decide +kernel)⟩
theorem lw_p41 : lw_okq (⟨"FreeCityModel", "every", "()Z"⟩, 26) := ⟨⟨by decide +kernel, by decide +kernel⟩, List.mem_of_getElem? (i := 1161) (by decide +kernel), List.mem_of_getElem? (i := 1307) (by decide +kernel), List.mem_of_getElem? (i := 1308) (by decide +kernel)⟩
theorem lw_p42 : lw_okq (⟨"FreeCityModel", "factor", "()Z"⟩, 26) := ⟨⟨by decide +kernel, by decide +kernel⟩, List.mem_of_getElem? (i := 1161) (by decide +kernel), List.mem_of_getElem? (i := 1311) (by decide +kernel), List.mem_of_getElem? (i := 1312) (by decide +kernel)⟩
theorem lw_p43 : lw_okq (⟨"FreeCityModel", "number", "()I"⟩, 26) := ⟨⟨by decide +kernel, by decide +kernel⟩, List.mem_of_getElem? (i := 1161) (by decide +kernel), List.mem_of_getElem? (i := 1315) (by decide +kernel), List.mem_of_getElem? (i := 1316) (by decide +kernel)⟩
theorem lw_p44 : lw_okq (⟨"FreeCityModel", "looks", "()V"⟩, 26) := ⟨⟨by decide +kernel, by decide +kernel⟩, List.mem_of_getElem? (i := 1161) (by decide +kernel), List.mem_of_getElem? (i := 1335) (by decide +kernel), List.mem_of_getElem? (i := 1336) (by decide +kernel)⟩
theorem lw_p45 : lw_okq (⟨"FreeCityModel", "spreads", "([Z)V"⟩, 26) := ⟨⟨by decide +kernel, by decide +kernel⟩, List.mem_of_getElem? (i := 1161) (by decide +kernel), List.mem_of_getElem? (i := 1339) (by decide +kernel), List.mem_of_getElem? (i := 1340) (by decide +kernel)⟩
theorem lw_p46 : lw_okq (⟨"FreeCityModel", "leans", "(II)Z"⟩, 26) := ⟨⟨by decide +kernel, by decide +kernel⟩, List.mem_of_getElem? (i := 1161) (by decide +kernel), List.mem_of_getElem? (i := 1343) (by decide +kernel), List.mem_of_getElem? (i := 1344) (by decide +kernel)⟩
theorem lw_p47 : lw_okq (⟨"FreeCityModel", "lets", "(II)Z"⟩, 26) := ⟨⟨by decide +kernel, by decide +kernel⟩, List.mem_of_getElem? (i := 1161) (by decide +kernel), List.mem_of_getElem? (i := 1347) (by decide +kernel), List.mem_of_getElem? (i := 1348) (by decide +kernel)⟩
def lw_privs_3 : List (MethodName × Nat) := [(⟨"FreeCity", "neededAnswers", "()I"⟩, 7), (⟨"FreeCity", "wantedLet", "()I"⟩, 7), (⟨"FreeCityModel", "farOf", "(II)I"⟩, 26), (⟨"FreeCityModel", "hears", "()V"⟩, 26), (⟨"FreeCityModel", "readsText", "(III)Z"⟩, 26), (⟨"FreeCityModel", "clause", "(I)V"⟩, 26), (⟨"FreeCityModel", "here", "()I"⟩, 26), (⟨"FreeCityModel", "must", "(I)V"⟩, 26), (⟨"FreeCityModel", "some", "()Z"⟩, 26), (⟨"FreeCityModel", "every", "()Z"⟩, 26), (⟨"FreeCityModel", "factor", "()Z"⟩, 26), (⟨"FreeCityModel", "number", "()I"⟩, 26), (⟨"FreeCityModel", "looks", "()V"⟩, 26), (⟨"FreeCityModel", "spreads", "([Z)V"⟩, 26), (⟨"FreeCityModel", "leans", "(II)Z"⟩, 26), (⟨"FreeCityModel", "lets", "(II)Z"⟩, 26)]
theorem lw_r3 : ∀ q ∈ lw_privs_3, lw_okq q := List.forall_mem_cons.mpr ⟨lw_p32, List.forall_mem_cons.mpr ⟨lw_p33, List.forall_mem_cons.mpr ⟨lw_p34, List.forall_mem_cons.mpr ⟨lw_p35, List.forall_mem_cons.mpr ⟨lw_p36, List.forall_mem_cons.mpr ⟨lw_p37, List.forall_mem_cons.mpr ⟨lw_p38, List.forall_mem_cons.mpr ⟨lw_p39, List.forall_mem_cons.mpr ⟨lw_p40, List.forall_mem_cons.mpr ⟨lw_p41, List.forall_mem_cons.mpr ⟨lw_p42, List.forall_mem_cons.mpr ⟨lw_p43, List.forall_mem_cons.mpr ⟨lw_p44, List.forall_mem_cons.mpr ⟨lw_p45, List.forall_mem_cons.mpr ⟨lw_p46, List.forall_mem_cons.mpr ⟨lw_p47, fun _ h => absurd h List.not_mem_nil⟩⟩⟩⟩⟩⟩⟩⟩⟩⟩⟩⟩⟩⟩⟩⟩
theorem lw_p48 : lw_okq (⟨"FreeCityModel", "rulingOf", "(I)I"⟩, 26) := ⟨⟨by decide +kernel, by decide +kernel⟩, List.mem_of_getElem? (i := 1161) (by decide +kernel), List.mem_of_getElem? (i := 1351) (by decide +kernel), List.mem_of_getElem? (i := 1352) (by decide +kernel)⟩
theorem lw_p49 : lw_okq (⟨"FreeCityModel", "letsBy", "(III)Z"⟩, 26) := ⟨⟨by decide +kernel, by decide +kernel⟩, List.mem_of_getElem? (i := 1161) (by decide +kernel), List.mem_of_getElem? (i := 1355) (by decide +kernel), List.mem_of_getElem? (i := 1356) (by decide +kernel)⟩
theorem lw_p50 : lw_okq (⟨"FreeCityModel", "textOf", "(II)I"⟩, 26) := ⟨⟨by decide +kernel, by decide +kernel⟩, List.mem_of_getElem? (i := 1161) (by decide +kernel), List.mem_of_getElem? (i := 1359) (by decide +kernel), List.mem_of_getElem? (i := 1360) (by decide +kernel)⟩
theorem lw_p51 : lw_okq (⟨"FreeCityModel", "finds", "(I)V"⟩, 26) := ⟨⟨by decide +kernel, by decide +kernel⟩, List.mem_of_getElem? (i := 1161) (by decide +kernel), List.mem_of_getElem? (i := 1363) (by decide +kernel), List.mem_of_getElem? (i := 1364) (by decide +kernel)⟩
theorem lw_p52 : lw_okq (⟨"FreeCityModel", "clauseIn", "(II)I"⟩, 26) := ⟨⟨by decide +kernel, by decide +kernel⟩, List.mem_of_getElem? (i := 1161) (by decide +kernel), List.mem_of_getElem? (i := 1367) (by decide +kernel), List.mem_of_getElem? (i := 1368) (by decide +kernel)⟩
theorem lw_p53 : lw_okq (⟨"FreeCityModel", "clauseOf", "(III)I"⟩, 26) := ⟨⟨by decide +kernel, by decide +kernel⟩, List.mem_of_getElem? (i := 1161) (by decide +kernel), List.mem_of_getElem? (i := 1375) (by decide +kernel), List.mem_of_getElem? (i := 1376) (by decide +kernel)⟩
theorem lw_p54 : lw_okq (⟨"FreeCityModel", "unlikeOf", "(IIII)I"⟩, 26) := ⟨⟨by decide +kernel, by decide +kernel⟩, List.mem_of_getElem? (i := 1161) (by decide +kernel), List.mem_of_getElem? (i := 1383) (by decide +kernel), List.mem_of_getElem? (i := 1384) (by decide +kernel)⟩
theorem lw_p55 : lw_okq (⟨"FreeCityModel", "right", "(IIIII)I"⟩, 26) := ⟨⟨by decide +kernel, by decide +kernel⟩, List.mem_of_getElem? (i := 1161) (by decide +kernel), List.mem_of_getElem? (i := 1391) (by decide +kernel), List.mem_of_getElem? (i := 1392) (by decide +kernel)⟩
theorem lw_p56 : lw_okq (⟨"FreeCityModel", "isOf", "(II)Z"⟩, 26) := ⟨⟨by decide +kernel, by decide +kernel⟩, List.mem_of_getElem? (i := 1161) (by decide +kernel), List.mem_of_getElem? (i := 1407) (by decide +kernel), List.mem_of_getElem? (i := 1408) (by decide +kernel)⟩
theorem lw_p57 : lw_okq (⟨"FreeCityModel", "roundsTo", "(I)V"⟩, 26) := ⟨⟨by decide +kernel, by decide +kernel⟩, List.mem_of_getElem? (i := 1161) (by decide +kernel), List.mem_of_getElem? (i := 1431) (by decide +kernel), List.mem_of_getElem? (i := 1432) (by decide +kernel)⟩
theorem lw_p58 : lw_okq (⟨"FreeCityModel", "soonest", "(II)I"⟩, 26) := ⟨⟨by decide +kernel, by decide +kernel⟩, List.mem_of_getElem? (i := 1161) (by decide +kernel), List.mem_of_getElem? (i := 1435) (by decide +kernel), List.mem_of_getElem? (i := 1436) (by decide +kernel)⟩
theorem lw_p59 : lw_okq (⟨"FreeCityModel", "binds", "(II)I"⟩, 26) := ⟨⟨by decide +kernel, by decide +kernel⟩, List.mem_of_getElem? (i := 1161) (by decide +kernel), List.mem_of_getElem? (i := 1443) (by decide +kernel), List.mem_of_getElem? (i := 1444) (by decide +kernel)⟩
theorem lw_p60 : lw_okq (⟨"FreeCityModel", "gives", "(II)I"⟩, 26) := ⟨⟨by decide +kernel, by decide +kernel⟩, List.mem_of_getElem? (i := 1161) (by decide +kernel), List.mem_of_getElem? (i := 1447) (by decide +kernel), List.mem_of_getElem? (i := 1448) (by decide +kernel)⟩
theorem lw_p61 : lw_okq (⟨"FreeCityModel", "hangs", "(II)I"⟩, 26) := ⟨⟨by decide +kernel, by decide +kernel⟩, List.mem_of_getElem? (i := 1161) (by decide +kernel), List.mem_of_getElem? (i := 1451) (by decide +kernel), List.mem_of_getElem? (i := 1452) (by decide +kernel)⟩
theorem lw_p62 : lw_okq (⟨"FreeCityModel", "isShip", "(I)Z"⟩, 26) := ⟨⟨by decide +kernel, by decide +kernel⟩, List.mem_of_getElem? (i := 1161) (by decide +kernel), List.mem_of_getElem? (i := 1470) (by decide +kernel), List.mem_of_getElem? (i := 1471) (by decide +kernel)⟩
theorem lw_p63 : lw_okq (⟨"FreeCityModel", "isFirm", "(I)Z"⟩, 26) := ⟨⟨by decide +kernel, by decide +kernel⟩, List.mem_of_getElem? (i := 1161) (by decide +kernel), List.mem_of_getElem? (i := 1504) (by decide +kernel), List.mem_of_getElem? (i := 1505) (by decide +kernel)⟩
def lw_privs_4 : List (MethodName × Nat) := [(⟨"FreeCityModel", "rulingOf", "(I)I"⟩, 26), (⟨"FreeCityModel", "letsBy", "(III)Z"⟩, 26), (⟨"FreeCityModel", "textOf", "(II)I"⟩, 26), (⟨"FreeCityModel", "finds", "(I)V"⟩, 26), (⟨"FreeCityModel", "clauseIn", "(II)I"⟩, 26), (⟨"FreeCityModel", "clauseOf", "(III)I"⟩, 26), (⟨"FreeCityModel", "unlikeOf", "(IIII)I"⟩, 26), (⟨"FreeCityModel", "right", "(IIIII)I"⟩, 26), (⟨"FreeCityModel", "isOf", "(II)Z"⟩, 26), (⟨"FreeCityModel", "roundsTo", "(I)V"⟩, 26), (⟨"FreeCityModel", "soonest", "(II)I"⟩, 26), (⟨"FreeCityModel", "binds", "(II)I"⟩, 26), (⟨"FreeCityModel", "gives", "(II)I"⟩, 26), (⟨"FreeCityModel", "hangs", "(II)I"⟩, 26), (⟨"FreeCityModel", "isShip", "(I)Z"⟩, 26), (⟨"FreeCityModel", "isFirm", "(I)Z"⟩, 26)]
theorem lw_r4 : ∀ q ∈ lw_privs_4, lw_okq q := List.forall_mem_cons.mpr ⟨lw_p48, List.forall_mem_cons.mpr ⟨lw_p49, List.forall_mem_cons.mpr ⟨lw_p50, List.forall_mem_cons.mpr ⟨lw_p51, List.forall_mem_cons.mpr ⟨lw_p52, List.forall_mem_cons.mpr ⟨lw_p53, List.forall_mem_cons.mpr ⟨lw_p54, List.forall_mem_cons.mpr ⟨lw_p55, List.forall_mem_cons.mpr ⟨lw_p56, List.forall_mem_cons.mpr ⟨lw_p57, List.forall_mem_cons.mpr ⟨lw_p58, List.forall_mem_cons.mpr ⟨lw_p59, List.forall_mem_cons.mpr ⟨lw_p60, List.forall_mem_cons.mpr ⟨lw_p61, List.forall_mem_cons.mpr ⟨lw_p62, List.forall_mem_cons.mpr ⟨lw_p63, fun _ h => absurd h List.not_mem_nil⟩⟩⟩⟩⟩⟩⟩⟩⟩⟩⟩⟩⟩⟩⟩⟩
theorem lw_p64 : lw_okq (⟨"FreeCityModel", "isUnder", "(II)Z"⟩, 26) := ⟨⟨by decide +kernel, by decide +kernel⟩, List.mem_of_getElem? (i := 1161) (by decide +kernel), List.mem_of_getElem? (i := 1516) (by decide +kernel), List.mem_of_getElem? (i := 1517) (by decide +kernel)⟩
theorem lw_p65 : lw_okq (⟨"FreeCityModel", "walks", "(I)V"⟩, 26) := ⟨⟨by decide +kernel, by decide +kernel⟩, List.mem_of_getElem? (i := 1161) (by decide +kernel), List.mem_of_getElem? (i := 1538) (by decide +kernel), List.mem_of_getElem? (i := 1539) (by decide +kernel)⟩
theorem lw_p66 : lw_okq (⟨"FreeCityModel", "canBe", "(III)Z"⟩, 26) := ⟨⟨by decide +kernel, by decide +kernel⟩, List.mem_of_getElem? (i := 1161) (by decide +kernel), List.mem_of_getElem? (i := 1542) (by decide +kernel), List.mem_of_getElem? (i := 1543) (by decide +kernel)⟩
theorem lw_p67 : lw_okq (⟨"FreeCityModel", "finds", "(II)V"⟩, 26) := ⟨⟨by decide +kernel, by decide +kernel⟩, List.mem_of_getElem? (i := 1161) (by decide +kernel), List.mem_of_getElem? (i := 1546) (by decide +kernel), List.mem_of_getElem? (i := 1547) (by decide +kernel)⟩
theorem lw_p68 : lw_okq (⟨"FreeCityModel", "seats", "(I)V"⟩, 26) := ⟨⟨by decide +kernel, by decide +kernel⟩, List.mem_of_getElem? (i := 1161) (by decide +kernel), List.mem_of_getElem? (i := 1570) (by decide +kernel), List.mem_of_getElem? (i := 1571) (by decide +kernel)⟩
theorem lw_p69 : lw_okq (⟨"FreeCityModel", "isTrue", "(II)Z"⟩, 26) := ⟨⟨by decide +kernel, by decide +kernel⟩, List.mem_of_getElem? (i := 1161) (by decide +kernel), List.mem_of_getElem? (i := 1586) (by decide +kernel), List.mem_of_getElem? (i := 1587) (by decide +kernel)⟩
theorem lw_p70 : lw_okq (⟨"FreeCityModel", "areRulings", "(J)Z"⟩, 26) := ⟨⟨by decide +kernel, by decide +kernel⟩, List.mem_of_getElem? (i := 1161) (by decide +kernel), List.mem_of_getElem? (i := 1594) (by decide +kernel), List.mem_of_getElem? (i := 1595) (by decide +kernel)⟩
theorem lw_p71 : lw_okq (⟨"FreeCityModel", "metBy", "(I)I"⟩, 26) := ⟨⟨by decide +kernel, by decide +kernel⟩, List.mem_of_getElem? (i := 1161) (by decide +kernel), List.mem_of_getElem? (i := 1606) (by decide +kernel), List.mem_of_getElem? (i := 1607) (by decide +kernel)⟩
theorem lw_p72 : lw_okq (⟨"FreeCityModel", "questionOf", "(I)I"⟩, 26) := ⟨⟨by decide +kernel, by decide +kernel⟩, List.mem_of_getElem? (i := 1161) (by decide +kernel), List.mem_of_getElem? (i := 1610) (by decide +kernel), List.mem_of_getElem? (i := 1611) (by decide +kernel)⟩
theorem lw_p73 : lw_okq (⟨"FreeCityModel", "fallsBy", "(I)I"⟩, 26) := ⟨⟨by decide +kernel, by decide +kernel⟩, List.mem_of_getElem? (i := 1161) (by decide +kernel), List.mem_of_getElem? (i := 1614) (by decide +kernel), List.mem_of_getElem? (i := 1615) (by decide +kernel)⟩
def lw_privs_5 : List (MethodName × Nat) := [(⟨"FreeCityModel", "isUnder", "(II)Z"⟩, 26), (⟨"FreeCityModel", "walks", "(I)V"⟩, 26), (⟨"FreeCityModel", "canBe", "(III)Z"⟩, 26), (⟨"FreeCityModel", "finds", "(II)V"⟩, 26), (⟨"FreeCityModel", "seats", "(I)V"⟩, 26), (⟨"FreeCityModel", "isTrue", "(II)Z"⟩, 26), (⟨"FreeCityModel", "areRulings", "(J)Z"⟩, 26), (⟨"FreeCityModel", "metBy", "(I)I"⟩, 26), (⟨"FreeCityModel", "questionOf", "(I)I"⟩, 26), (⟨"FreeCityModel", "fallsBy", "(I)I"⟩, 26)]
theorem lw_r5 : ∀ q ∈ lw_privs_5, lw_okq q := List.forall_mem_cons.mpr ⟨lw_p64, List.forall_mem_cons.mpr ⟨lw_p65, List.forall_mem_cons.mpr ⟨lw_p66, List.forall_mem_cons.mpr ⟨lw_p67, List.forall_mem_cons.mpr ⟨lw_p68, List.forall_mem_cons.mpr ⟨lw_p69, List.forall_mem_cons.mpr ⟨lw_p70, List.forall_mem_cons.mpr ⟨lw_p71, List.forall_mem_cons.mpr ⟨lw_p72, List.forall_mem_cons.mpr ⟨lw_p73, fun _ h => absurd h List.not_mem_nil⟩⟩⟩⟩⟩⟩⟩⟩⟩⟩
def lw_privs : List (MethodName × Nat) := lw_privs_1 ++ (lw_privs_2 ++ (lw_privs_3 ++ (lw_privs_4 ++ (lw_privs_5))))
def lw_tbl : List Cond := k2_sels lw_privs ++ tables_1
theorem lw_privs_ok : ∀ q ∈ lw_privs, lw_okq q := by
  show ∀ q ∈ lw_privs_1 ++ (lw_privs_2 ++ (lw_privs_3 ++ (lw_privs_4 ++ (lw_privs_5)))), lw_okq q
  exact List.forall_mem_append.mpr ⟨lw_r1, List.forall_mem_append.mpr ⟨lw_r2, List.forall_mem_append.mpr ⟨lw_r3, List.forall_mem_append.mpr ⟨lw_r4, lw_r5⟩⟩⟩⟩
theorem goodIn_r {big : List Cond} (ws : List Cond) (ps : List Nat) (hp : ws = ps.filterMap (fun i => big[i]?)) (h : ws.all goodWord = true) : GoodIn big ws := by
  intro w hw
  have h1 := List.all_eq_true.mp h w hw
  rw [hp] at hw
  obtain ⟨i, -, hi⟩ := List.mem_filterMap.mp hw
  have hm : w ∈ big := by first | exact List.mem_of_getElem? hi | exact List.getElem?_mem hi
  exact ⟨hm, good_of_word h1⟩
theorem goodIn_app {big a b : List Cond} (ha : GoodIn big a) (hb : GoodIn big b) : GoodIn big (a ++ b) := fun w h => (List.mem_append.mp h).elim (ha w) (hb w)
theorem goodIn_ca {big a b : List Cond} {c : Cond} (ha : GoodIn big (c :: a)) (hb : GoodIn big b) : GoodIn big (c :: (a ++ b)) := fun w h => (List.mem_cons.mp h).elim (fun e => ha w (List.mem_cons.mpr (Or.inl e))) (fun h => (List.mem_append.mp h).elim (fun h => ha w (List.mem_cons.mpr (Or.inr h))) (hb w))
theorem goodIn_sub {big ws : List Cond} (hm : ∀ w ∈ ws, w ∈ big) (h : ws.all goodWord = true) : GoodIn big ws := fun w hw => ⟨hm w hw, good_of_word (List.all_eq_true.mp h w hw)⟩

def RX0 : String := "FreeCity$Bench"
def TX0 : u_T := fun k => match k with
  | 0 => ("FreeCity$Bench", "cells", "[I", true)
  | 1 => ("FreeCity$Bench", "fallingIfLet", "[J", true)
  | 2 => ("FreeCity$Bench", "fallingIfNot", "[J", true)
  | 3 => ("FreeCity$Bench", "questionCount", "I", false)
  | 4 => ("FreeCity$Bench", "wanted", "[I", true)
  | _ => ("FreeCity$Bench", "wantedCount", "I", false)
def tyX0 : Nat → FieldType := fun k => match k with
  | 0 => .array .int
  | 1 => .array .long
  | 2 => .array .long
  | 3 => .int
  | 4 => .array .int
  | _ => .int
abbrev wsX00 : List Cond := u_ws RX0 TX0 6
theorem nmX0 : ∀ a, a < 6 → ∀ b, b < 6 → a ≠ b → (TX0 a).2.1 ≠ (TX0 b).2.1 := by decide +kernel
theorem tyX0_ok : ∀ k, k < 6 → parseFieldDescriptor (TX0 k).2.2.1 = some (tyX0 k) := by decide +kernel
abbrev cX0_init : ByteArray := prog_2_method_1_code
def yX0_init : MethodName := ⟨RX0, "<init>", "()V"⟩
abbrev cX0_copyFrom : ByteArray := prog_2_method_2_code
def yX0_copyFrom : MethodName := ⟨RX0, "copyFrom", "(LFreeCity$Bench;)V"⟩
abbrev cX0_addQuestion : ByteArray := prog_2_method_3_code
def yX0_addQuestion : MethodName := ⟨RX0, "addQuestion", "(IJJ)I"⟩
abbrev cX0_isWanted : ByteArray := prog_2_method_4_code
def yX0_isWanted : MethodName := ⟨RX0, "isWanted", "(I)Z"⟩
abbrev cX0_addWanted : ByteArray := prog_2_method_5_code
def yX0_addWanted : MethodName := ⟨RX0, "addWanted", "(I)I"⟩
abbrev cX0_allAnswers : ByteArray := prog_2_method_6_code
def yX0_allAnswers : MethodName := ⟨RX0, "allAnswers", "()I"⟩
abbrev cX0_questionAbout : ByteArray := prog_2_method_7_code
def yX0_questionAbout : MethodName := ⟨RX0, "questionAbout", "(I)I"⟩
abbrev cX0_namedBy : ByteArray := prog_2_method_8_code
def yX0_namedBy : MethodName := ⟨RX0, "namedBy", "(I)J"⟩
def RX1 : String := "FreeCity$City"
def TX1 : u_T := fun k => match k with
  | 0 => ("FreeCity$City", "land", "LFreeCity$Land;", true)
  | 1 => ("FreeCity$City", "court", "LFreeCity$Court;", true)
  | 2 => ("FreeCity$City", "port", "LFreeCity$Port;", true)
  | 3 => ("FreeCity$City", "night", "LFreeCity$Night;", true)
  | 4 => ("FreeCity$City", "hall", "LFreeCity$Hall;", true)
  | _ => ("FreeCity$City", "bench", "LFreeCity$Bench;", true)
def tyX1 : Nat → FieldType := fun k => match k with
  | 0 => .object "FreeCity$Land"
  | 1 => .object "FreeCity$Court"
  | 2 => .object "FreeCity$Port"
  | 3 => .object "FreeCity$Night"
  | 4 => .object "FreeCity$Hall"
  | _ => .object "FreeCity$Bench"
abbrev wsX10 : List Cond := u_ws RX1 TX1 6
theorem nmX1 : ∀ a, a < 6 → ∀ b, b < 6 → a ≠ b → (TX1 a).2.1 ≠ (TX1 b).2.1 := by decide +kernel
theorem tyX1_ok : ∀ k, k < 6 → parseFieldDescriptor (TX1 k).2.2.1 = some (tyX1 k) := by decide +kernel
abbrev cX1_init : ByteArray := prog_3_method_1_code
def yX1_init : MethodName := ⟨RX1, "<init>", "()V"⟩
abbrev cX1_copyFrom : ByteArray := prog_3_method_2_code
def yX1_copyFrom : MethodName := ⟨RX1, "copyFrom", "(LFreeCity$City;)V"⟩
def RX2 : String := "FreeCity$Court"
def TX2 : u_T := fun k => match k with
  | 0 => ("FreeCity$Court", "rights", "[LFreeCity$Right;", true)
  | 1 => ("FreeCity$Court", "count", "I", false)
  | 2 => ("FreeCity$Court", "leans", "[J", true)
  | 3 => ("FreeCity$Court", "heardOn", "[I", true)
  | 4 => ("FreeCity$Court", "overruled", "J", false)
  | 5 => ("FreeCity$Court", "termDays", "I", false)
  | _ => ("FreeCity$Court", "step", "I", false)
def tyX2 : Nat → FieldType := fun k => match k with
  | 0 => .array (.object "FreeCity$Right")
  | 1 => .int
  | 2 => .array .long
  | 3 => .array .int
  | 4 => .long
  | 5 => .int
  | _ => .int
abbrev wsX20 : List Cond := u_ws RX2 TX2 7
theorem nmX2 : ∀ a, a < 7 → ∀ b, b < 7 → a ≠ b → (TX2 a).2.1 ≠ (TX2 b).2.1 := by decide +kernel
theorem tyX2_ok : ∀ k, k < 7 → parseFieldDescriptor (TX2 k).2.2.1 = some (tyX2 k) := by decide +kernel
abbrev cX2_init : ByteArray := prog_4_method_1_code
def yX2_init : MethodName := ⟨RX2, "<init>", "()V"⟩
abbrev cX2_copyFrom : ByteArray := prog_4_method_2_code
def yX2_copyFrom : MethodName := ⟨RX2, "copyFrom", "(LFreeCity$Court;)V"⟩
abbrev cX2_isFull : ByteArray := prog_4_method_3_code
def yX2_isFull : MethodName := ⟨RX2, "isFull", "()Z"⟩
abbrev cX2_grant : ByteArray := prog_4_method_4_code
def yX2_grant : MethodName := ⟨RX2, "grant", "(LFreeCity$Right;)I"⟩
abbrev cX2_find : ByteArray := prog_4_method_5_code
def yX2_find : MethodName := ⟨RX2, "find", "(I)LFreeCity$Right;"⟩
abbrev cX2_isRuling : ByteArray := prog_4_method_6_code
def yX2_isRuling : MethodName := ⟨RX2, "isRuling", "(I)Z"⟩
abbrev cX2_letsByRuling : ByteArray := prog_4_method_7_code
def yX2_letsByRuling : MethodName := ⟨RX2, "letsByRuling", "(I)Z"⟩
abbrev cX2_rulings : ByteArray := prog_4_method_8_code
def yX2_rulings : MethodName := ⟨RX2, "rulings", "()J"⟩
abbrev cX2_leaningOn : ByteArray := prog_4_method_9_code
def yX2_leaningOn : MethodName := ⟨RX2, "leaningOn", "(J)J"⟩
abbrev cX2_fallen : ByteArray := prog_4_method_10_code
def yX2_fallen : MethodName := ⟨RX2, "fallen", "()J"⟩
abbrev cX2_heldUp : ByteArray := prog_4_method_11_code
def yX2_heldUp : MethodName := ⟨RX2, "heldUp", "()J"⟩
abbrev cX2_standing : ByteArray := prog_4_method_12_code
def yX2_standing : MethodName := ⟨RX2, "standing", "()J"⟩
abbrev cX2_lastAbout : ByteArray := prog_4_method_13_code
def yX2_lastAbout : MethodName := ⟨RX2, "lastAbout", "(IJ)I"⟩
abbrev cX2_takesAppeal : ByteArray := prog_4_method_14_code
def yX2_takesAppeal : MethodName := ⟨RX2, "takesAppeal", "(III)Z"⟩
abbrev cX2_lodge : ByteArray := prog_4_method_15_code
def yX2_lodge : MethodName := ⟨RX2, "lodge", "(III)I"⟩
abbrev cX2_sit : ByteArray := prog_4_method_16_code
def yX2_sit : MethodName := ⟨RX2, "sit", "(I)V"⟩
abbrev cX2_findRing : ByteArray := prog_4_method_17_code
def yX2_findRing : MethodName := ⟨RX2, "findRing", "([I)I"⟩
abbrev cX2_roundFrom : ByteArray := prog_4_method_18_code
def yX2_roundFrom : MethodName := ⟨RX2, "roundFrom", "(I)I"⟩
abbrev cX2_leanedOnBy : ByteArray := prog_4_method_19_code
def yX2_leanedOnBy : MethodName := ⟨RX2, "leanedOnBy", "(J)J"⟩
abbrev cX2_leastOnward : ByteArray := prog_4_method_20_code
def yX2_leastOnward : MethodName := ⟨RX2, "leastOnward", "(III)I"⟩
abbrev cX2_directlyLeaningOn : ByteArray := prog_4_method_21_code
def yX2_directlyLeaningOn : MethodName := ⟨RX2, "directlyLeaningOn", "(J)J"⟩
def RX3 : String := "FreeCity$Hall"
def TX3 : u_T := fun k => match k with
  | 0 => ("FreeCity$Hall", "votes", "[I", true)
  | 1 => ("FreeCity$Hall", "sayingDays", "[I", true)
  | 2 => ("FreeCity$Hall", "saidSo", "[I", true)
  | 3 => ("FreeCity$Hall", "saidNot", "[I", true)
  | _ => ("FreeCity$Hall", "sayingCount", "I", false)
def tyX3 : Nat → FieldType := fun k => match k with
  | 0 => .array .int
  | 1 => .array .int
  | 2 => .array .int
  | 3 => .array .int
  | _ => .int
abbrev wsX30 : List Cond := u_ws RX3 TX3 5
theorem nmX3 : ∀ a, a < 5 → ∀ b, b < 5 → a ≠ b → (TX3 a).2.1 ≠ (TX3 b).2.1 := by decide +kernel
theorem tyX3_ok : ∀ k, k < 5 → parseFieldDescriptor (TX3 k).2.2.1 = some (tyX3 k) := by decide +kernel
abbrev cX3_init : ByteArray := prog_5_method_1_code
def yX3_init : MethodName := ⟨RX3, "<init>", "()V"⟩
abbrev cX3_copyFrom : ByteArray := prog_5_method_2_code
def yX3_copyFrom : MethodName := ⟨RX3, "copyFrom", "(LFreeCity$Hall;)V"⟩
abbrev cX3_allot : ByteArray := prog_5_method_3_code
def yX3_allot : MethodName := ⟨RX3, "allot", "(I[I)V"⟩
abbrev cX3_nextList : ByteArray := prog_5_method_4_code
def yX3_nextList : MethodName := ⟨RX3, "nextList", "([I)I"⟩
abbrev cX3_addSaying : ByteArray := prog_5_method_5_code
def yX3_addSaying : MethodName := ⟨RX3, "addSaying", "(III)I"⟩
abbrev cX3_trueSayings : ByteArray := prog_5_method_6_code
def yX3_trueSayings : MethodName := ⟨RX3, "trueSayings", "(II)I"⟩
abbrev cX3_bestThings : ByteArray := prog_5_method_7_code
def yX3_bestThings : MethodName := ⟨RX3, "bestThings", "(I)I"⟩
def RX4 : String := "FreeCity$Land"
def TX4 : u_T := fun k => match k with
  | 0 => ("FreeCity$Land", "grounds", "[I", true)
  | 1 => ("FreeCity$Land", "today", "I", false)
  | 2 => ("FreeCity$Land", "tape", "[B", true)
  | 3 => ("FreeCity$Land", "bytes", "I", false)
  | 4 => ("FreeCity$Land", "texts", "[LFreeCity$Text;", true)
  | _ => ("FreeCity$Land", "textCount", "I", false)
def tyX4 : Nat → FieldType := fun k => match k with
  | 0 => .array .int
  | 1 => .int
  | 2 => .array .byte
  | 3 => .int
  | 4 => .array (.object "FreeCity$Text")
  | _ => .int
abbrev wsX40 : List Cond := u_ws RX4 TX4 6
theorem nmX4 : ∀ a, a < 6 → ∀ b, b < 6 → a ≠ b → (TX4 a).2.1 ≠ (TX4 b).2.1 := by decide +kernel
theorem tyX4_ok : ∀ k, k < 6 → parseFieldDescriptor (TX4 k).2.2.1 = some (tyX4 k) := by decide +kernel
abbrev cX4_init : ByteArray := prog_6_method_1_code
def yX4_init : MethodName := ⟨RX4, "<init>", "()V"⟩
abbrev cX4_copyFrom : ByteArray := prog_6_method_2_code
def yX4_copyFrom : MethodName := ⟨RX4, "copyFrom", "(LFreeCity$Land;)V"⟩
abbrev cX4_openSpots : ByteArray := prog_6_method_3_code
def yX4_openSpots : MethodName := ⟨RX4, "openSpots", "()I"⟩
abbrev cX4_far : ByteArray := prog_6_method_4_code
def yX4_far : MethodName := ⟨RX4, "far", "(II)I"⟩
abbrev cX4_append : ByteArray := prog_6_method_5_code
def yX4_append : MethodName := ⟨RX4, "append", "(JI)V"⟩
abbrev cX4_enact : ByteArray := prog_6_method_6_code
def yX4_enact : MethodName := ⟨RX4, "enact", "(LFreeCity$Text;)V"⟩
abbrev cX4_inForce : ByteArray := prog_6_method_7_code
def yX4_inForce : MethodName := ⟨RX4, "inForce", "(II)LFreeCity$Text;"⟩
def RX5 : String := "FreeCity$Law"
def TX5 : u_T := fun k => match k with
  | 0 => ("FreeCity$Law", "land", "LFreeCity$Land;", true)
  | 1 => ("FreeCity$Law", "court", "LFreeCity$Court;", true)
  | 2 => ("FreeCity$Law", "ruling", "[LFreeCity$Text;", true)
  | 3 => ("FreeCity$Law", "standing", "J", false)
  | 4 => ("FreeCity$Law", "stack", "[I", true)
  | 5 => ("FreeCity$Law", "top", "I", false)
  | 6 => ("FreeCity$Law", "holds", "[I", true)
  | 7 => ("FreeCity$Law", "lets", "[Z", true)
  | _ => ("FreeCity$Law", "clauses", "I", false)
def tyX5 : Nat → FieldType := fun k => match k with
  | 0 => .object "FreeCity$Land"
  | 1 => .object "FreeCity$Court"
  | 2 => .array (.object "FreeCity$Text")
  | 3 => .long
  | 4 => .array .int
  | 5 => .int
  | 6 => .array .int
  | 7 => .array .boolean
  | _ => .int
abbrev wsX50 : List Cond := u_ws RX5 TX5 9
theorem nmX5 : ∀ a, a < 9 → ∀ b, b < 9 → a ≠ b → (TX5 a).2.1 ≠ (TX5 b).2.1 := by decide +kernel
theorem tyX5_ok : ∀ k, k < 9 → parseFieldDescriptor (TX5 k).2.2.1 = some (tyX5 k) := by decide +kernel
abbrev cX5_init : ByteArray := prog_7_method_1_code
def yX5_init : MethodName := ⟨RX5, "<init>", "(LFreeCity$Land;LFreeCity$Court;)V"⟩
abbrev cX5_openOn : ByteArray := prog_7_method_2_code
def yX5_openOn : MethodName := ⟨RX5, "openOn", "(I)V"⟩
abbrev cX5_putBeside : ByteArray := prog_7_method_3_code
def yX5_putBeside : MethodName := ⟨RX5, "putBeside", "(LFreeCity$Text;)V"⟩
abbrev cX5_tongueLets : ByteArray := prog_7_method_4_code
def yX5_tongueLets : MethodName := ⟨RX5, "tongueLets", "(II)Z"⟩
abbrev cX5_cityLets : ByteArray := prog_7_method_5_code
def yX5_cityLets : MethodName := ⟨RX5, "cityLets", "(I)Z"⟩
abbrev cX5_tongueReason : ByteArray := prog_7_method_6_code
def yX5_tongueReason : MethodName := ⟨RX5, "tongueReason", "(II)I"⟩
abbrev cX5_rulingAbout : ByteArray := prog_7_method_7_code
def yX5_rulingAbout : MethodName := ⟨RX5, "rulingAbout", "(I)I"⟩
abbrev cX5_unlikeCount : ByteArray := prog_7_method_8_code
def yX5_unlikeCount : MethodName := ⟨RX5, "unlikeCount", "(II)I"⟩
abbrev cX5_leastUnlike : ByteArray := prog_7_method_9_code
def yX5_leastUnlike : MethodName := ⟨RX5, "leastUnlike", "(II)I"⟩
abbrev cX5_cityCount : ByteArray := prog_7_method_10_code
def yX5_cityCount : MethodName := ⟨RX5, "cityCount", "()I"⟩
abbrev cX5_cityHours : ByteArray := prog_7_method_11_code
def yX5_cityHours : MethodName := ⟨RX5, "cityHours", "(I)I"⟩
abbrev cX5_tongueHours : ByteArray := prog_7_method_12_code
def yX5_tongueHours : MethodName := ⟨RX5, "tongueHours", "(II)I"⟩
abbrev cX5_weigh : ByteArray := prog_7_method_13_code
def yX5_weigh : MethodName := ⟨RX5, "weigh", "([II)V"⟩
abbrev cX5_factHours : ByteArray := prog_7_method_14_code
def yX5_factHours : MethodName := ⟨RX5, "factHours", "(III)I"⟩
abbrev cX5_join : ByteArray := prog_7_method_15_code
def yX5_join : MethodName := ⟨RX5, "join", "(I)V"⟩
abbrev cX5_closeClause : ByteArray := prog_7_method_16_code
def yX5_closeClause : MethodName := ⟨RX5, "closeClause", "(Z)V"⟩
def RX6 : String := "FreeCity$Night"
def TX6 : u_T := fun k => match k with
  | 0 => ("FreeCity$Night", "doorSpots", "[I", true)
  | 1 => ("FreeCity$Night", "firstHours", "[I", true)
  | 2 => ("FreeCity$Night", "lastHours", "[I", true)
  | 3 => ("FreeCity$Night", "doorCount", "I", false)
  | 4 => ("FreeCity$Night", "sights", "[I", true)
  | _ => ("FreeCity$Night", "whereabouts", "[I", true)
def tyX6 : Nat → FieldType := fun k => match k with
  | 0 => .array .int
  | 1 => .array .int
  | 2 => .array .int
  | 3 => .int
  | 4 => .array .int
  | _ => .array .int
abbrev wsX60 : List Cond := u_ws RX6 TX6 6
theorem nmX6 : ∀ a, a < 6 → ∀ b, b < 6 → a ≠ b → (TX6 a).2.1 ≠ (TX6 b).2.1 := by decide +kernel
theorem tyX6_ok : ∀ k, k < 6 → parseFieldDescriptor (TX6 k).2.2.1 = some (tyX6 k) := by decide +kernel
abbrev cX6_init : ByteArray := prog_8_method_1_code
def yX6_init : MethodName := ⟨RX6, "<init>", "()V"⟩
abbrev cX6_copyFrom : ByteArray := prog_8_method_2_code
def yX6_copyFrom : MethodName := ⟨RX6, "copyFrom", "(LFreeCity$Night;)V"⟩
abbrev cX6_addDoor : ByteArray := prog_8_method_3_code
def yX6_addDoor : MethodName := ⟨RX6, "addDoor", "(III)I"⟩
abbrev cX6_isPainted : ByteArray := prog_8_method_4_code
def yX6_isPainted : MethodName := ⟨RX6, "isPainted", "(I)Z"⟩
abbrev cX6_allDoors : ByteArray := prog_8_method_5_code
def yX6_allDoors : MethodName := ⟨RX6, "allDoors", "()I"⟩
abbrev cX6_sightCount : ByteArray := prog_8_method_6_code
def yX6_sightCount : MethodName := ⟨RX6, "sightCount", "(I)I"⟩
abbrev cX6_couldPaint : ByteArray := prog_8_method_7_code
def yX6_couldPaint : MethodName := ⟨RX6, "couldPaint", "(III)Z"⟩
abbrev cX6_mostPainted : ByteArray := prog_8_method_8_code
def yX6_mostPainted : MethodName := ⟨RX6, "mostPainted", "(II)I"⟩
abbrev cX6_roam : ByteArray := prog_8_method_9_code
def yX6_roam : MethodName := ⟨RX6, "roam", "(III)V"⟩
abbrev cX6_paintingLast : ByteArray := prog_8_method_10_code
def yX6_paintingLast : MethodName := ⟨RX6, "paintingLast", "(II)I"⟩
def RX7 : String := "FreeCity$Port"
def TX7 : u_T := fun k => match k with
  | 0 => ("FreeCity$Port", "shipGoods", "[I", true)
  | 1 => ("FreeCity$Port", "aboard", "[I", true)
  | 2 => ("FreeCity$Port", "places", "[I", true)
  | 3 => ("FreeCity$Port", "shipCount", "I", false)
  | 4 => ("FreeCity$Port", "bond", "[I", true)
  | 5 => ("FreeCity$Port", "sold", "[I", true)
  | 6 => ("FreeCity$Port", "passed", "[I", true)
  | 7 => ("FreeCity$Port", "tariffs", "[I", true)
  | 8 => ("FreeCity$Port", "parts", "[I", true)
  | 9 => ("FreeCity$Port", "purses", "[I", true)
  | 10 => ("FreeCity$Port", "chest", "I", false)
  | 11 => ("FreeCity$Port", "firmSides", "[I", true)
  | 12 => ("FreeCity$Port", "owners", "[I", true)
  | 13 => ("FreeCity$Port", "firmCount", "I", false)
  | 14 => ("FreeCity$Port", "useFirms", "[I", true)
  | 15 => ("FreeCity$Port", "useTons", "[I", true)
  | 16 => ("FreeCity$Port", "useCount", "I", false)
  | _ => ("FreeCity$Port", "quotas", "[I", true)
def tyX7 : Nat → FieldType := fun k => match k with
  | 0 => .array .int
  | 1 => .array .int
  | 2 => .array .int
  | 3 => .int
  | 4 => .array .int
  | 5 => .array .int
  | 6 => .array .int
  | 7 => .array .int
  | 8 => .array .int
  | 9 => .array .int
  | 10 => .int
  | 11 => .array .int
  | 12 => .array .int
  | 13 => .int
  | 14 => .array .int
  | 15 => .array .int
  | 16 => .int
  | _ => .array .int
abbrev wsX70 : List Cond := u_ws RX7 TX7 18
theorem nmX7 : ∀ a, a < 18 → ∀ b, b < 18 → a ≠ b → (TX7 a).2.1 ≠ (TX7 b).2.1 := by decide +kernel
theorem tyX7_ok : ∀ k, k < 18 → parseFieldDescriptor (TX7 k).2.2.1 = some (tyX7 k) := by decide +kernel
abbrev cX7_init : ByteArray := prog_9_method_1_code
def yX7_init : MethodName := ⟨RX7, "<init>", "()V"⟩
abbrev cX7_copyFrom : ByteArray := prog_9_method_2_code
def yX7_copyFrom : MethodName := ⟨RX7, "copyFrom", "(LFreeCity$Port;)V"⟩
abbrev cX7_isShip : ByteArray := prog_9_method_3_code
def yX7_isShip : MethodName := ⟨RX7, "isShip", "(I)Z"⟩
abbrev cX7_hasShipAt : ByteArray := prog_9_method_4_code
def yX7_hasShipAt : MethodName := ⟨RX7, "hasShipAt", "(I)Z"⟩
abbrev cX7_addShip : ByteArray := prog_9_method_5_code
def yX7_addShip : MethodName := ⟨RX7, "addShip", "(II)I"⟩
abbrev cX7_land : ByteArray := prog_9_method_6_code
def yX7_land : MethodName := ⟨RX7, "land", "(II)I"⟩
abbrev cX7_release : ByteArray := prog_9_method_7_code
def yX7_release : MethodName := ⟨RX7, "release", "(IIZ)V"⟩
abbrev cX7_shareOut : ByteArray := prog_9_method_8_code
def yX7_shareOut : MethodName := ⟨RX7, "shareOut", "()I"⟩
abbrev cX7_allParts : ByteArray := prog_9_method_9_code
def yX7_allParts : MethodName := ⟨RX7, "allParts", "()I"⟩
abbrev cX7_cut : ByteArray := prog_9_method_10_code
def yX7_cut : MethodName := ⟨RX7, "cut", "(I)I"⟩
abbrev cX7_remainder : ByteArray := prog_9_method_11_code
def yX7_remainder : MethodName := ⟨RX7, "remainder", "(I)I"⟩
abbrev cX7_aheadOf : ByteArray := prog_9_method_12_code
def yX7_aheadOf : MethodName := ⟨RX7, "aheadOf", "(I)I"⟩
abbrev cX7_isFirm : ByteArray := prog_9_method_13_code
def yX7_isFirm : MethodName := ⟨RX7, "isFirm", "(I)Z"⟩
abbrev cX7_addFirm : ByteArray := prog_9_method_14_code
def yX7_addFirm : MethodName := ⟨RX7, "addFirm", "(II)I"⟩
abbrev cX7_addUse : ByteArray := prog_9_method_15_code
def yX7_addUse : MethodName := ⟨RX7, "addUse", "(II)I"⟩
abbrev cX7_useOf : ByteArray := prog_9_method_16_code
def yX7_useOf : MethodName := ⟨RX7, "useOf", "(I)I"⟩
abbrev cX7_belongsTo : ByteArray := prog_9_method_17_code
def yX7_belongsTo : MethodName := ⟨RX7, "belongsTo", "(II)Z"⟩
abbrev cX7_quotaLeft : ByteArray := prog_9_method_18_code
def yX7_quotaLeft : MethodName := ⟨RX7, "quotaLeft", "(I)I"⟩
abbrev cX7_firstBeyondQuota : ByteArray := prog_9_method_19_code
def yX7_firstBeyondQuota : MethodName := ⟨RX7, "firstBeyondQuota", "(I)I"⟩
def RX8 : String := "FreeCity$Reader"
def TX8 : u_T := fun k => match k with
  | 0 => ("FreeCity$Reader", "code", "[I", true)
  | 1 => ("FreeCity$Reader", "written", "I", false)
  | 2 => ("FreeCity$Reader", "tape", "[B", false)
  | 3 => ("FreeCity$Reader", "end", "I", false)
  | _ => ("FreeCity$Reader", "at", "I", false)
def tyX8 : Nat → FieldType := fun k => match k with
  | 0 => .array .int
  | 1 => .int
  | 2 => .array .byte
  | 3 => .int
  | _ => .int
abbrev wsX80 : List Cond := u_ws RX8 TX8 5
theorem nmX8 : ∀ a, a < 5 → ∀ b, b < 5 → a ≠ b → (TX8 a).2.1 ≠ (TX8 b).2.1 := by decide +kernel
theorem tyX8_ok : ∀ k, k < 5 → parseFieldDescriptor (TX8 k).2.2.1 = some (tyX8 k) := by decide +kernel
abbrev cX8_init : ByteArray := prog_10_method_1_code
def yX8_init : MethodName := ⟨RX8, "<init>", "()V"⟩
abbrev cX8_takeTape : ByteArray := prog_10_method_2_code
def yX8_takeTape : MethodName := ⟨RX8, "takeTape", "(LFreeCity$Land;)I"⟩
abbrev cX8_codeCopy : ByteArray := prog_10_method_3_code
def yX8_codeCopy : MethodName := ⟨RX8, "codeCopy", "()[I"⟩
abbrev cX8_readClause : ByteArray := prog_10_method_4_code
def yX8_readClause : MethodName := ⟨RX8, "readClause", "()Z"⟩
abbrev cX8_readAny : ByteArray := prog_10_method_5_code
def yX8_readAny : MethodName := ⟨RX8, "readAny", "(I)Z"⟩
abbrev cX8_readAll : ByteArray := prog_10_method_6_code
def yX8_readAll : MethodName := ⟨RX8, "readAll", "(I)Z"⟩
abbrev cX8_readFact : ByteArray := prog_10_method_7_code
def yX8_readFact : MethodName := ⟨RX8, "readFact", "(I)Z"⟩
abbrev cX8_readNumber : ByteArray := prog_10_method_8_code
def yX8_readNumber : MethodName := ⟨RX8, "readNumber", "(I)Z"⟩
abbrev cX8_peek : ByteArray := prog_10_method_9_code
def yX8_peek : MethodName := ⟨RX8, "peek", "()I"⟩
abbrev cX8_skip : ByteArray := prog_10_method_10_code
def yX8_skip : MethodName := ⟨RX8, "skip", "(I)Z"⟩
abbrev cX8_write : ByteArray := prog_10_method_11_code
def yX8_write : MethodName := ⟨RX8, "write", "(II)Z"⟩
def RX9 : String := "FreeCity$Right"
def TX9 : u_T := fun k => match k with
  | 0 => ("FreeCity$Right", "kind", "I", true)
  | 1 => ("FreeCity$Right", "number", "I", true)
  | 2 => ("FreeCity$Right", "side", "I", true)
  | 3 => ("FreeCity$Right", "n", "I", true)
  | 4 => ("FreeCity$Right", "cell", "I", false)
  | 5 => ("FreeCity$Right", "day", "I", false)
  | 6 => ("FreeCity$Right", "ruling", "I", false)
  | _ => ("FreeCity$Right", "share", "I", false)
def tyX9 : Nat → FieldType := fun k => match k with
  | 0 => .int
  | 1 => .int
  | 2 => .int
  | 3 => .int
  | 4 => .int
  | 5 => .int
  | 6 => .int
  | _ => .int
abbrev wsX90 : List Cond := u_ws RX9 TX9 8
theorem nmX9 : ∀ a, a < 8 → ∀ b, b < 8 → a ≠ b → (TX9 a).2.1 ≠ (TX9 b).2.1 := by decide +kernel
theorem tyX9_ok : ∀ k, k < 8 → parseFieldDescriptor (TX9 k).2.2.1 = some (tyX9 k) := by decide +kernel
abbrev cX9_init : ByteArray := prog_11_method_1_code
def yX9_init : MethodName := ⟨RX9, "<init>", "(IIII)V"⟩
abbrev cX9_overrules : ByteArray := prog_11_method_2_code
def yX9_overrules : MethodName := ⟨RX9, "overrules", "()Z"⟩
abbrev cX9_isUnder : ByteArray := prog_11_method_3_code
def yX9_isUnder : MethodName := ⟨RX9, "isUnder", "(I)Z"⟩
abbrev cX9_perform : ByteArray := prog_11_method_4_code
def yX9_perform : MethodName := ⟨RX9, "perform", "(II)I"⟩
abbrev cX9_above : ByteArray := prog_11_method_5_code
def yX9_above : MethodName := ⟨RX9, "above", "(I)I"⟩
abbrev cX9_binds : ByteArray := prog_11_method_6_code
def yX9_binds : MethodName := ⟨RX9, "binds", "(II)I"⟩
abbrev cX9_gives : ByteArray := prog_11_method_7_code
def yX9_gives : MethodName := ⟨RX9, "gives", "(II)I"⟩
abbrev cX9_hangs : ByteArray := prog_11_method_8_code
def yX9_hangs : MethodName := ⟨RX9, "hangs", "(II)I"⟩
def RX10 : String := "FreeCity$Text"
def TX10 : u_T := fun k => match k with
  | 0 => ("FreeCity$Text", "number", "I", true)
  | 1 => ("FreeCity$Text", "tongue", "I", true)
  | 2 => ("FreeCity$Text", "day", "I", true)
  | _ => ("FreeCity$Text", "code", "[I", true)
def tyX10 : Nat → FieldType := fun k => match k with
  | 0 => .int
  | 1 => .int
  | 2 => .int
  | _ => .array .int
abbrev wsX100 : List Cond := u_ws RX10 TX10 4
theorem nmX10 : ∀ a, a < 4 → ∀ b, b < 4 → a ≠ b → (TX10 a).2.1 ≠ (TX10 b).2.1 := by decide +kernel
theorem tyX10_ok : ∀ k, k < 4 → parseFieldDescriptor (TX10 k).2.2.1 = some (tyX10 k) := by decide +kernel
abbrev cX10_init : ByteArray := prog_12_method_1_code
def yX10_init : MethodName := ⟨RX10, "<init>", "(III[I)V"⟩
def RX11 : String := "FreeCity"
def TX11 : u_T := fun k => match k with
  | 0 => ("FreeCity", "city", "LFreeCity$City;", true)
  | 1 => ("FreeCity", "kept", "LFreeCity$City;", true)
  | 2 => ("FreeCity", "hasImage", "Z", false)
  | 3 => ("FreeCity", "reader", "LFreeCity$Reader;", true)
  | 4 => ("FreeCity", "law", "LFreeCity$Law;", true)
  | 5 => ("FreeCity", "ringRow", "[I", true)
  | _ => ("FreeCity", "seats", "[I", true)
def tyX11 : Nat → FieldType := fun k => match k with
  | 0 => .object "FreeCity$City"
  | 1 => .object "FreeCity$City"
  | 2 => .boolean
  | 3 => .object "FreeCity$Reader"
  | 4 => .object "FreeCity$Law"
  | 5 => .array .int
  | _ => .array .int
abbrev wsX110 : List Cond := u_ws RX11 TX11 7
theorem nmX11 : ∀ a, a < 7 → ∀ b, b < 7 → a ≠ b → (TX11 a).2.1 ≠ (TX11 b).2.1 := by decide +kernel
theorem tyX11_ok : ∀ k, k < 7 → parseFieldDescriptor (TX11 k).2.2.1 = some (tyX11 k) := by decide +kernel
abbrev cX11_init : ByteArray := prog_1_method_1_code
def yX11_init : MethodName := ⟨RX11, "<init>", "()V"⟩
abbrev cX11_yard : ByteArray := prog_1_method_2_code
def yX11_yard : MethodName := ⟨RX11, "yard", "(II)I"⟩
abbrev cX11_line : ByteArray := prog_1_method_3_code
def yX11_line : MethodName := ⟨RX11, "line", "(II)I"⟩
abbrev cX11_day : ByteArray := prog_1_method_4_code
def yX11_day : MethodName := ⟨RX11, "day", "(I)I"⟩
abbrev cX11_feed : ByteArray := prog_1_method_5_code
def yX11_feed : MethodName := ⟨RX11, "feed", "(JI)I"⟩
abbrev cX11_text : ByteArray := prog_1_method_6_code
def yX11_text : MethodName := ⟨RX11, "text", "(II)I"⟩
abbrev cX11_force : ByteArray := prog_1_method_7_code
def yX11_force : MethodName := ⟨RX11, "force", "(III)I"⟩
abbrev cX11_why : ByteArray := prog_1_method_8_code
def yX11_why : MethodName := ⟨RX11, "why", "(III)I"⟩
abbrev cX11_unlike : ByteArray := prog_1_method_9_code
def yX11_unlike : MethodName := ⟨RX11, "unlike", "(IIII)I"⟩
abbrev cX11_use : ByteArray := prog_1_method_10_code
def yX11_use : MethodName := ⟨RX11, "use", "(IIII)I"⟩
abbrev cX11_quota : ByteArray := prog_1_method_11_code
def yX11_quota : MethodName := ⟨RX11, "quota", "(III)I"⟩
abbrev cX11_rule : ByteArray := prog_1_method_12_code
def yX11_rule : MethodName := ⟨RX11, "rule", "(IIZ)I"⟩
abbrev cX11_lean : ByteArray := prog_1_method_13_code
def yX11_lean : MethodName := ⟨RX11, "lean", "(II)I"⟩
abbrev cX11_appeal : ByteArray := prog_1_method_14_code
def yX11_appeal : MethodName := ⟨RX11, "appeal", "(III)I"⟩
abbrev cX11_term : ByteArray := prog_1_method_15_code
def yX11_term : MethodName := ⟨RX11, "term", "(II)I"⟩
abbrev cX11_fall : ByteArray := prog_1_method_16_code
def yX11_fall : MethodName := ⟨RX11, "fall", "(II)I"⟩
abbrev cX11_late : ByteArray := prog_1_method_17_code
def yX11_late : MethodName := ⟨RX11, "late", "(II)I"⟩
abbrev cX11_again : ByteArray := prog_1_method_18_code
def yX11_again : MethodName := ⟨RX11, "again", "(I)I"⟩
abbrev cX11_act : ByteArray := prog_1_method_19_code
def yX11_act : MethodName := ⟨RX11, "act", "(III)I"⟩
abbrev cX11_whose : ByteArray := prog_1_method_20_code
def yX11_whose : MethodName := ⟨RX11, "whose", "(II)I"⟩
abbrev cX11_ship : ByteArray := prog_1_method_21_code
def yX11_ship : MethodName := ⟨RX11, "ship", "(II)I"⟩
abbrev cX11_berth : ByteArray := prog_1_method_22_code
def yX11_berth : MethodName := ⟨RX11, "berth", "(II)I"⟩
abbrev cX11_leave : ByteArray := prog_1_method_23_code
def yX11_leave : MethodName := ⟨RX11, "leave", "(II)I"⟩
abbrev cX11_goods : ByteArray := prog_1_method_24_code
def yX11_goods : MethodName := ⟨RX11, "goods", "(II)I"⟩
abbrev cX11_coin : ByteArray := prog_1_method_25_code
def yX11_coin : MethodName := ⟨RX11, "coin", "(IIZ)I"⟩
abbrev cX11_tariff : ByteArray := prog_1_method_26_code
def yX11_tariff : MethodName := ⟨RX11, "tariff", "(III)I"⟩
abbrev cX11_share : ByteArray := prog_1_method_27_code
def yX11_share : MethodName := ⟨RX11, "share", "()I"⟩
abbrev cX11_whole : ByteArray := prog_1_method_28_code
def yX11_whole : MethodName := ⟨RX11, "whole", "(II)I"⟩
abbrev cX11_firm : ByteArray := prog_1_method_29_code
def yX11_firm : MethodName := ⟨RX11, "firm", "(II)I"⟩
abbrev cX11_used : ByteArray := prog_1_method_30_code
def yX11_used : MethodName := ⟨RX11, "used", "(II)I"⟩
abbrev cX11_left : ByteArray := prog_1_method_31_code
def yX11_left : MethodName := ⟨RX11, "left", "(II)I"⟩
abbrev cX11_door : ByteArray := prog_1_method_32_code
def yX11_door : MethodName := ⟨RX11, "door", "(III)I"⟩
abbrev cX11_seen : ByteArray := prog_1_method_33_code
def yX11_seen : MethodName := ⟨RX11, "seen", "(III)I"⟩
abbrev cX11_who : ByteArray := prog_1_method_34_code
def yX11_who : MethodName := ⟨RX11, "who", "(II)I"⟩
abbrev cX11_night : ByteArray := prog_1_method_35_code
def yX11_night : MethodName := ⟨RX11, "night", "(II)I"⟩
abbrev cX11_sure : ByteArray := prog_1_method_36_code
def yX11_sure : MethodName := ⟨RX11, "sure", "(I)I"⟩
abbrev cX11_vote : ByteArray := prog_1_method_37_code
def yX11_vote : MethodName := ⟨RX11, "vote", "(II)I"⟩
abbrev cX11_seat : ByteArray := prog_1_method_38_code
def yX11_seat : MethodName := ⟨RX11, "seat", "(II)I"⟩
abbrev cX11_turn : ByteArray := prog_1_method_39_code
def yX11_turn : MethodName := ⟨RX11, "turn", "(II)I"⟩
abbrev cX11_say : ByteArray := prog_1_method_40_code
def yX11_say : MethodName := ⟨RX11, "say", "(IIIZIZ)I"⟩
abbrev cX11_hold : ByteArray := prog_1_method_41_code
def yX11_hold : MethodName := ⟨RX11, "hold", "(II)I"⟩
abbrev cX11_ask : ByteArray := prog_1_method_42_code
def yX11_ask : MethodName := ⟨RX11, "ask", "(IIJJ)I"⟩
abbrev cX11_want : ByteArray := prog_1_method_43_code
def yX11_want : MethodName := ⟨RX11, "want", "(I)I"⟩
abbrev cX11_judge : ByteArray := prog_1_method_44_code
def yX11_judge : MethodName := ⟨RX11, "judge", "(II)I"⟩
abbrev cX11_best : ByteArray := prog_1_method_45_code
def yX11_best : MethodName := ⟨RX11, "best", "()I"⟩
abbrev cX11_tried : ByteArray := prog_1_method_46_code
def yX11_tried : MethodName := ⟨RX11, "tried", "(II)I"⟩
abbrev cX11_image : ByteArray := prog_1_method_47_code
def yX11_image : MethodName := ⟨RX11, "image", "()I"⟩
abbrev cX11_undo : ByteArray := prog_1_method_48_code
def yX11_undo : MethodName := ⟨RX11, "undo", "()I"⟩
abbrev cX11_count : ByteArray := prog_1_method_49_code
def yX11_count : MethodName := ⟨RX11, "count", "(I)I"⟩
abbrev cX11_seatsOf : ByteArray := prog_1_method_50_code
def yX11_seatsOf : MethodName := ⟨RX11, "seatsOf", "(I)I"⟩
abbrev cX11_metBy : ByteArray := prog_1_method_51_code
def yX11_metBy : MethodName := ⟨RX11, "metBy", "(I)I"⟩
abbrev cX11_neededAnswers : ByteArray := prog_1_method_52_code
def yX11_neededAnswers : MethodName := ⟨RX11, "neededAnswers", "()I"⟩
abbrev cX11_fallsBy : ByteArray := prog_1_method_53_code
def yX11_fallsBy : MethodName := ⟨RX11, "fallsBy", "(IJ)I"⟩
abbrev cX11_wantedLet : ByteArray := prog_1_method_54_code
def yX11_wantedLet : MethodName := ⟨RX11, "wantedLet", "()I"⟩
abbrev cX11_isWithin : ByteArray := prog_1_method_55_code
def yX11_isWithin : MethodName := ⟨RX11, "isWithin", "(III)Z"⟩
abbrev cX11_isSpot : ByteArray := prog_1_method_56_code
def yX11_isSpot : MethodName := ⟨RX11, "isSpot", "(I)Z"⟩
abbrev cX11_isSide : ByteArray := prog_1_method_57_code
def yX11_isSide : MethodName := ⟨RX11, "isSide", "(I)Z"⟩
abbrev cX11_isTongue : ByteArray := prog_1_method_58_code
def yX11_isTongue : MethodName := ⟨RX11, "isTongue", "(I)Z"⟩
abbrev cX11_isMatter : ByteArray := prog_1_method_59_code
def yX11_isMatter : MethodName := ⟨RX11, "isMatter", "(I)Z"⟩
abbrev cX11_isHour : ByteArray := prog_1_method_60_code
def yX11_isHour : MethodName := ⟨RX11, "isHour", "(I)Z"⟩
abbrev cX11_isDay : ByteArray := prog_1_method_61_code
def yX11_isDay : MethodName := ⟨RX11, "isDay", "(I)Z"⟩
abbrev cX11_isAct : ByteArray := prog_1_method_62_code
def yX11_isAct : MethodName := ⟨RX11, "isAct", "(I)Z"⟩
abbrev cX11_isGood : ByteArray := prog_1_method_63_code
def yX11_isGood : MethodName := ⟨RX11, "isGood", "(I)Z"⟩
abbrev cX11_isPerson : ByteArray := prog_1_method_64_code
def yX11_isPerson : MethodName := ⟨RX11, "isPerson", "(I)Z"⟩
abbrev cX11_cellOf : ByteArray := prog_1_method_65_code
def yX11_cellOf : MethodName := ⟨RX11, "cellOf", "(II)I"⟩
abbrev cX11_hasBit : ByteArray := prog_1_method_66_code
def yX11_hasBit : MethodName := ⟨RX11, "hasBit", "(JI)Z"⟩
abbrev cX11_leastBit : ByteArray := prog_1_method_67_code
def yX11_leastBit : MethodName := ⟨RX11, "leastBit", "(J)I"⟩
abbrev cX11_asInt : ByteArray := prog_1_method_68_code
def yX11_asInt : MethodName := ⟨RX11, "asInt", "(Z)I"⟩
abbrev cX11_withBeside : ByteArray := prog_1_method_69_code
def yX11_withBeside : MethodName := ⟨RX11, "withBeside", "(I)I"⟩
abbrev cX11_copyRow : ByteArray := prog_1_method_70_code
def yX11_copyRow : MethodName := ⟨RX11, "copyRow", "([I[I)V"⟩
abbrev cX11_copyRow_ : ByteArray := prog_1_method_71_code
def yX11_copyRow_ : MethodName := ⟨RX11, "copyRow", "([J[J)V"⟩
def RX12 : String := "FreeCityModel"
def TX12 : u_T := fun k => match k with
  | 0 => ("FreeCityModel", "thrown", "I", false)
  | 1 => ("FreeCityModel", "s", "[I", true)
  | 2 => ("FreeCityModel", "image", "[I", true)
  | 3 => ("FreeCityModel", "hasImage", "Z", false)
  | 4 => ("FreeCityModel", "steps", "[I", true)
  | 5 => ("FreeCityModel", "read", "I", false)
  | 6 => ("FreeCityModel", "spot", "I", false)
  | 7 => ("FreeCityModel", "isWrong", "Z", false)
  | 8 => ("FreeCityModel", "open", "I", false)
  | 9 => ("FreeCityModel", "act", "I", false)
  | 10 => ("FreeCityModel", "letBy", "[Z", true)
  | 11 => ("FreeCityModel", "letStamp", "[I", true)
  | 12 => ("FreeCityModel", "stamp", "I", false)
  | 13 => ("FreeCityModel", "fallen", "[Z", true)
  | 14 => ("FreeCityModel", "held", "[Z", true)
  | 15 => ("FreeCityModel", "stands", "[Z", true)
  | 16 => ("FreeCityModel", "falling", "[Z", true)
  | 17 => ("FreeCityModel", "away", "[I", true)
  | 18 => ("FreeCityModel", "round", "[I", true)
  | 19 => ("FreeCityModel", "rests", "[J", true)
  | 20 => ("FreeCityModel", "may", "[Z", true)
  | 21 => ("FreeCityModel", "next", "[Z", true)
  | 22 => ("FreeCityModel", "could", "[Z", true)
  | 23 => ("FreeCityModel", "couldNight", "[I", true)
  | 24 => ("FreeCityModel", "night", "I", false)
  | _ => ("FreeCityModel", "seats", "[I", true)
def tyX12 : Nat → FieldType := fun k => match k with
  | 0 => .int
  | 1 => .array .int
  | 2 => .array .int
  | 3 => .boolean
  | 4 => .array .int
  | 5 => .int
  | 6 => .int
  | 7 => .boolean
  | 8 => .int
  | 9 => .int
  | 10 => .array .boolean
  | 11 => .array .int
  | 12 => .int
  | 13 => .array .boolean
  | 14 => .array .boolean
  | 15 => .array .boolean
  | 16 => .array .boolean
  | 17 => .array .int
  | 18 => .array .int
  | 19 => .array .long
  | 20 => .array .boolean
  | 21 => .array .boolean
  | 22 => .array .boolean
  | 23 => .array .int
  | 24 => .int
  | _ => .array .int
abbrev wsX120 : List Cond := u_ws RX12 TX12 26
theorem nmX12 : ∀ a, a < 26 → ∀ b, b < 26 → a ≠ b → (TX12 a).2.1 ≠ (TX12 b).2.1 := by decide +kernel
theorem tyX12_ok : ∀ k, k < 26 → parseFieldDescriptor (TX12 k).2.2.1 = some (tyX12 k) := by decide +kernel
abbrev cX12_init : ByteArray := prog_14_method_1_code
def yX12_init : MethodName := ⟨RX12, "<init>", "()V"⟩
abbrev cX12_in : ByteArray := prog_14_method_3_code
def yX12_in : MethodName := ⟨RX12, "in", "(III)Z"⟩
abbrev cX12_isSpot : ByteArray := prog_14_method_4_code
def yX12_isSpot : MethodName := ⟨RX12, "isSpot", "(I)Z"⟩
abbrev cX12_isDay : ByteArray := prog_14_method_5_code
def yX12_isDay : MethodName := ⟨RX12, "isDay", "(I)Z"⟩
abbrev cX12_yard : ByteArray := prog_14_method_6_code
def yX12_yard : MethodName := ⟨RX12, "yard", "(II)I"⟩
abbrev cX12_areBeside : ByteArray := prog_14_method_7_code
def yX12_areBeside : MethodName := ⟨RX12, "areBeside", "(II)Z"⟩
abbrev cX12_farOf : ByteArray := prog_14_method_8_code
def yX12_farOf : MethodName := ⟨RX12, "farOf", "(II)I"⟩
abbrev cX12_line : ByteArray := prog_14_method_9_code
def yX12_line : MethodName := ⟨RX12, "line", "(II)I"⟩
abbrev cX12_day : ByteArray := prog_14_method_10_code
def yX12_day : MethodName := ⟨RX12, "day", "(I)I"⟩
abbrev cX12_feed : ByteArray := prog_14_method_11_code
def yX12_feed : MethodName := ⟨RX12, "feed", "(JI)I"⟩
abbrev cX12_here : ByteArray := prog_14_method_12_code
def yX12_here : MethodName := ⟨RX12, "here", "()I"⟩
abbrev cX12_must : ByteArray := prog_14_method_13_code
def yX12_must : MethodName := ⟨RX12, "must", "(I)V"⟩
abbrev cX12_number : ByteArray := prog_14_method_14_code
def yX12_number : MethodName := ⟨RX12, "number", "()I"⟩
abbrev cX12_sideOf : ByteArray := prog_14_method_15_code
def yX12_sideOf : MethodName := ⟨RX12, "sideOf", "(I)I"⟩
abbrev cX12_spotOf : ByteArray := prog_14_method_16_code
def yX12_spotOf : MethodName := ⟨RX12, "spotOf", "(I)I"⟩
abbrev cX12_matterOf : ByteArray := prog_14_method_17_code
def yX12_matterOf : MethodName := ⟨RX12, "matterOf", "(I)I"⟩
abbrev cX12_hourOf : ByteArray := prog_14_method_18_code
def yX12_hourOf : MethodName := ⟨RX12, "hourOf", "(I)I"⟩
abbrev cX12_factor : ByteArray := prog_14_method_19_code
def yX12_factor : MethodName := ⟨RX12, "factor", "()Z"⟩
abbrev cX12_every : ByteArray := prog_14_method_20_code
def yX12_every : MethodName := ⟨RX12, "every", "()Z"⟩
abbrev cX12_some : ByteArray := prog_14_method_21_code
def yX12_some : MethodName := ⟨RX12, "some", "()Z"⟩
abbrev cX12_clause : ByteArray := prog_14_method_22_code
def yX12_clause : MethodName := ⟨RX12, "clause", "(I)V"⟩
abbrev cX12_readsText : ByteArray := prog_14_method_23_code
def yX12_readsText : MethodName := ⟨RX12, "readsText", "(III)Z"⟩
abbrev cX12_text : ByteArray := prog_14_method_24_code
def yX12_text : MethodName := ⟨RX12, "text", "(II)I"⟩
abbrev cX12_textOf : ByteArray := prog_14_method_25_code
def yX12_textOf : MethodName := ⟨RX12, "textOf", "(II)I"⟩
abbrev cX12_clauseOf : ByteArray := prog_14_method_26_code
def yX12_clauseOf : MethodName := ⟨RX12, "clauseOf", "(III)I"⟩
abbrev cX12_clauseIn : ByteArray := prog_14_method_27_code
def yX12_clauseIn : MethodName := ⟨RX12, "clauseIn", "(II)I"⟩
abbrev cX12_finds : ByteArray := prog_14_method_28_code
def yX12_finds : MethodName := ⟨RX12, "finds", "(I)V"⟩
abbrev cX12_letsBy : ByteArray := prog_14_method_29_code
def yX12_letsBy : MethodName := ⟨RX12, "letsBy", "(III)Z"⟩
abbrev cX12_rulingOf : ByteArray := prog_14_method_30_code
def yX12_rulingOf : MethodName := ⟨RX12, "rulingOf", "(I)I"⟩
abbrev cX12_lets : ByteArray := prog_14_method_31_code
def yX12_lets : MethodName := ⟨RX12, "lets", "(II)Z"⟩
abbrev cX12_force : ByteArray := prog_14_method_32_code
def yX12_force : MethodName := ⟨RX12, "force", "(III)I"⟩
abbrev cX12_why : ByteArray := prog_14_method_33_code
def yX12_why : MethodName := ⟨RX12, "why", "(III)I"⟩
abbrev cX12_unlikeOf : ByteArray := prog_14_method_34_code
def yX12_unlikeOf : MethodName := ⟨RX12, "unlikeOf", "(IIII)I"⟩
abbrev cX12_unlike : ByteArray := prog_14_method_35_code
def yX12_unlike : MethodName := ⟨RX12, "unlike", "(IIII)I"⟩
abbrev cX12_right : ByteArray := prog_14_method_36_code
def yX12_right : MethodName := ⟨RX12, "right", "(IIIII)I"⟩
abbrev cX12_use : ByteArray := prog_14_method_37_code
def yX12_use : MethodName := ⟨RX12, "use", "(IIII)I"⟩
abbrev cX12_quota : ByteArray := prog_14_method_38_code
def yX12_quota : MethodName := ⟨RX12, "quota", "(III)I"⟩
abbrev cX12_rule : ByteArray := prog_14_method_39_code
def yX12_rule : MethodName := ⟨RX12, "rule", "(IIZ)I"⟩
abbrev cX12_isOf : ByteArray := prog_14_method_40_code
def yX12_isOf : MethodName := ⟨RX12, "isOf", "(II)Z"⟩
abbrev cX12_leans : ByteArray := prog_14_method_41_code
def yX12_leans : MethodName := ⟨RX12, "leans", "(II)Z"⟩
abbrev cX12_lean : ByteArray := prog_14_method_42_code
def yX12_lean : MethodName := ⟨RX12, "lean", "(II)I"⟩
abbrev cX12_spreads : ByteArray := prog_14_method_43_code
def yX12_spreads : MethodName := ⟨RX12, "spreads", "([Z)V"⟩
abbrev cX12_looks : ByteArray := prog_14_method_44_code
def yX12_looks : MethodName := ⟨RX12, "looks", "()V"⟩
abbrev cX12_appeal : ByteArray := prog_14_method_45_code
def yX12_appeal : MethodName := ⟨RX12, "appeal", "(III)I"⟩
abbrev cX12_hears : ByteArray := prog_14_method_46_code
def yX12_hears : MethodName := ⟨RX12, "hears", "()V"⟩
abbrev cX12_term : ByteArray := prog_14_method_47_code
def yX12_term : MethodName := ⟨RX12, "term", "(II)I"⟩
abbrev cX12_fall : ByteArray := prog_14_method_48_code
def yX12_fall : MethodName := ⟨RX12, "fall", "(II)I"⟩
abbrev cX12_late : ByteArray := prog_14_method_49_code
def yX12_late : MethodName := ⟨RX12, "late", "(II)I"⟩
abbrev cX12_roundsTo : ByteArray := prog_14_method_50_code
def yX12_roundsTo : MethodName := ⟨RX12, "roundsTo", "(I)V"⟩
abbrev cX12_soonest : ByteArray := prog_14_method_51_code
def yX12_soonest : MethodName := ⟨RX12, "soonest", "(II)I"⟩
abbrev cX12_again : ByteArray := prog_14_method_52_code
def yX12_again : MethodName := ⟨RX12, "again", "(I)I"⟩
abbrev cX12_binds : ByteArray := prog_14_method_53_code
def yX12_binds : MethodName := ⟨RX12, "binds", "(II)I"⟩
abbrev cX12_gives : ByteArray := prog_14_method_54_code
def yX12_gives : MethodName := ⟨RX12, "gives", "(II)I"⟩
abbrev cX12_hangs : ByteArray := prog_14_method_55_code
def yX12_hangs : MethodName := ⟨RX12, "hangs", "(II)I"⟩
abbrev cX12_act : ByteArray := prog_14_method_56_code
def yX12_act : MethodName := ⟨RX12, "act", "(III)I"⟩
abbrev cX12_whose : ByteArray := prog_14_method_57_code
def yX12_whose : MethodName := ⟨RX12, "whose", "(II)I"⟩
abbrev cX12_isShip : ByteArray := prog_14_method_58_code
def yX12_isShip : MethodName := ⟨RX12, "isShip", "(I)Z"⟩
abbrev cX12_isGood : ByteArray := prog_14_method_59_code
def yX12_isGood : MethodName := ⟨RX12, "isGood", "(I)Z"⟩
abbrev cX12_ship : ByteArray := prog_14_method_60_code
def yX12_ship : MethodName := ⟨RX12, "ship", "(II)I"⟩
abbrev cX12_berth : ByteArray := prog_14_method_61_code
def yX12_berth : MethodName := ⟨RX12, "berth", "(II)I"⟩
abbrev cX12_leave : ByteArray := prog_14_method_62_code
def yX12_leave : MethodName := ⟨RX12, "leave", "(II)I"⟩
abbrev cX12_goods : ByteArray := prog_14_method_63_code
def yX12_goods : MethodName := ⟨RX12, "goods", "(II)I"⟩
abbrev cX12_coin : ByteArray := prog_14_method_64_code
def yX12_coin : MethodName := ⟨RX12, "coin", "(IIZ)I"⟩
abbrev cX12_tariff : ByteArray := prog_14_method_65_code
def yX12_tariff : MethodName := ⟨RX12, "tariff", "(III)I"⟩
abbrev cX12_share : ByteArray := prog_14_method_66_code
def yX12_share : MethodName := ⟨RX12, "share", "()I"⟩
abbrev cX12_whole : ByteArray := prog_14_method_67_code
def yX12_whole : MethodName := ⟨RX12, "whole", "(II)I"⟩
abbrev cX12_isFirm : ByteArray := prog_14_method_68_code
def yX12_isFirm : MethodName := ⟨RX12, "isFirm", "(I)Z"⟩
abbrev cX12_firm : ByteArray := prog_14_method_69_code
def yX12_firm : MethodName := ⟨RX12, "firm", "(II)I"⟩
abbrev cX12_used : ByteArray := prog_14_method_70_code
def yX12_used : MethodName := ⟨RX12, "used", "(II)I"⟩
abbrev cX12_isUnder : ByteArray := prog_14_method_71_code
def yX12_isUnder : MethodName := ⟨RX12, "isUnder", "(II)Z"⟩
abbrev cX12_left : ByteArray := prog_14_method_72_code
def yX12_left : MethodName := ⟨RX12, "left", "(II)I"⟩
abbrev cX12_isHour : ByteArray := prog_14_method_73_code
def yX12_isHour : MethodName := ⟨RX12, "isHour", "(I)Z"⟩
abbrev cX12_door : ByteArray := prog_14_method_74_code
def yX12_door : MethodName := ⟨RX12, "door", "(III)I"⟩
abbrev cX12_isPerson : ByteArray := prog_14_method_75_code
def yX12_isPerson : MethodName := ⟨RX12, "isPerson", "(I)Z"⟩
abbrev cX12_seen : ByteArray := prog_14_method_76_code
def yX12_seen : MethodName := ⟨RX12, "seen", "(III)I"⟩
abbrev cX12_canBe : ByteArray := prog_14_method_77_code
def yX12_canBe : MethodName := ⟨RX12, "canBe", "(III)Z"⟩
abbrev cX12_walks : ByteArray := prog_14_method_78_code
def yX12_walks : MethodName := ⟨RX12, "walks", "(I)V"⟩
abbrev cX12_finds_ : ByteArray := prog_14_method_79_code
def yX12_finds_ : MethodName := ⟨RX12, "finds", "(II)V"⟩
abbrev cX12_who : ByteArray := prog_14_method_80_code
def yX12_who : MethodName := ⟨RX12, "who", "(II)I"⟩
abbrev cX12_many : ByteArray := prog_14_method_81_code
def yX12_many : MethodName := ⟨RX12, "many", "(I)I"⟩
abbrev cX12_night : ByteArray := prog_14_method_82_code
def yX12_night : MethodName := ⟨RX12, "night", "(II)I"⟩
abbrev cX12_sure : ByteArray := prog_14_method_83_code
def yX12_sure : MethodName := ⟨RX12, "sure", "(I)I"⟩
abbrev cX12_vote : ByteArray := prog_14_method_84_code
def yX12_vote : MethodName := ⟨RX12, "vote", "(II)I"⟩
abbrev cX12_seats : ByteArray := prog_14_method_85_code
def yX12_seats : MethodName := ⟨RX12, "seats", "(I)V"⟩
abbrev cX12_seat : ByteArray := prog_14_method_86_code
def yX12_seat : MethodName := ⟨RX12, "seat", "(II)I"⟩
abbrev cX12_turn : ByteArray := prog_14_method_87_code
def yX12_turn : MethodName := ⟨RX12, "turn", "(II)I"⟩
abbrev cX12_say : ByteArray := prog_14_method_88_code
def yX12_say : MethodName := ⟨RX12, "say", "(IIIZIZ)I"⟩
abbrev cX12_isTrue : ByteArray := prog_14_method_89_code
def yX12_isTrue : MethodName := ⟨RX12, "isTrue", "(II)Z"⟩
abbrev cX12_hold : ByteArray := prog_14_method_90_code
def yX12_hold : MethodName := ⟨RX12, "hold", "(II)I"⟩
abbrev cX12_areRulings : ByteArray := prog_14_method_91_code
def yX12_areRulings : MethodName := ⟨RX12, "areRulings", "(J)Z"⟩
abbrev cX12_ask : ByteArray := prog_14_method_92_code
def yX12_ask : MethodName := ⟨RX12, "ask", "(IIJJ)I"⟩
abbrev cX12_want : ByteArray := prog_14_method_93_code
def yX12_want : MethodName := ⟨RX12, "want", "(I)I"⟩
abbrev cX12_questionOf : ByteArray := prog_14_method_94_code
def yX12_questionOf : MethodName := ⟨RX12, "questionOf", "(I)I"⟩
abbrev cX12_metBy : ByteArray := prog_14_method_95_code
def yX12_metBy : MethodName := ⟨RX12, "metBy", "(I)I"⟩
abbrev cX12_fallsBy : ByteArray := prog_14_method_96_code
def yX12_fallsBy : MethodName := ⟨RX12, "fallsBy", "(I)I"⟩
abbrev cX12_judge : ByteArray := prog_14_method_97_code
def yX12_judge : MethodName := ⟨RX12, "judge", "(II)I"⟩
abbrev cX12_best : ByteArray := prog_14_method_98_code
def yX12_best : MethodName := ⟨RX12, "best", "()I"⟩
abbrev cX12_tried : ByteArray := prog_14_method_99_code
def yX12_tried : MethodName := ⟨RX12, "tried", "(II)I"⟩
abbrev cX12_image : ByteArray := prog_14_method_100_code
def yX12_image : MethodName := ⟨RX12, "image", "()I"⟩
abbrev cX12_undo : ByteArray := prog_14_method_101_code
def yX12_undo : MethodName := ⟨RX12, "undo", "()I"⟩
abbrev cX12_count : ByteArray := prog_14_method_102_code
def yX12_count : MethodName := ⟨RX12, "count", "(I)I"⟩
def RJx8e188 : String := "java/lang/Cloneable"
def TJx8e188 : u_T := fun k => match k with
  | _ => ("", "", "", false)
def tyJx8e188 : Nat → FieldType := fun k => match k with
  | _ => .int
abbrev wsJx8e1880 : List Cond := u_ws RJx8e188 TJx8e188 0
theorem nmJx8e188 : ∀ a, a < 0 → ∀ b, b < 0 → a ≠ b → (TJx8e188 a).2.1 ≠ (TJx8e188 b).2.1 := by decide +kernel
theorem tyJx8e188_ok : ∀ k, k < 0 → parseFieldDescriptor (TJx8e188 k).2.2.1 = some (tyJx8e188 k) := by decide +kernel
def RJ6 : String := "java/lang/Integer"
def TJ6 : u_T := fun k => match k with
  | _ => ("", "", "", false)
def tyJ6 : Nat → FieldType := fun k => match k with
  | _ => .int
abbrev wsJ60 : List Cond := u_ws RJ6 TJ6 0
theorem nmJ6 : ∀ a, a < 0 → ∀ b, b < 0 → a ≠ b → (TJ6 a).2.1 ≠ (TJ6 b).2.1 := by decide +kernel
theorem tyJ6_ok : ∀ k, k < 0 → parseFieldDescriptor (TJ6 k).2.2.1 = some (tyJ6 k) := by decide +kernel
abbrev cJ6_bitCount_0f7a4 : ByteArray := prog_16_method_49_code
def yJ6_bitCount_0f7a4 : MethodName := ⟨RJ6, "bitCount", "(I)I"⟩
def RJ13 : String := "java/lang/Long"
def TJ13 : u_T := fun k => match k with
  | _ => ("", "", "", false)
def tyJ13 : Nat → FieldType := fun k => match k with
  | _ => .int
abbrev wsJ130 : List Cond := u_ws RJ13 TJ13 0
theorem nmJ13 : ∀ a, a < 0 → ∀ b, b < 0 → a ≠ b → (TJ13 a).2.1 ≠ (TJ13 b).2.1 := by decide +kernel
theorem tyJ13_ok : ∀ k, k < 0 → parseFieldDescriptor (TJ13 k).2.2.1 = some (tyJ13 k) := by decide +kernel
abbrev cJ13_bitCount_95d88 : ByteArray := prog_17_method_50_code
def yJ13_bitCount_95d88 : MethodName := ⟨RJ13, "bitCount", "(J)I"⟩
def RJ9 : String := "java/lang/Math"
def TJ9 : u_T := fun k => match k with
  | _ => ("", "", "", false)
def tyJ9 : Nat → FieldType := fun k => match k with
  | _ => .int
abbrev wsJ90 : List Cond := u_ws RJ9 TJ9 0
theorem nmJ9 : ∀ a, a < 0 → ∀ b, b < 0 → a ≠ b → (TJ9 a).2.1 ≠ (TJ9 b).2.1 := by decide +kernel
theorem tyJ9_ok : ∀ k, k < 0 → parseFieldDescriptor (TJ9 k).2.2.1 = some (tyJ9 k) := by decide +kernel
abbrev cJ9_min_7cf53 : ByteArray := prog_18_method_69_code
def yJ9_min_7cf53 : MethodName := ⟨RJ9, "min", "(II)I"⟩
def RJ10 : String := "java/lang/System"
def TJ10 : u_T := fun k => match k with
  | _ => ("", "", "", false)
def tyJ10 : Nat → FieldType := fun k => match k with
  | _ => .int
abbrev wsJ100 : List Cond := u_ws RJ10 TJ10 0
theorem nmJ10 : ∀ a, a < 0 → ∀ b, b < 0 → a ≠ b → (TJ10 a).2.1 ≠ (TJ10 b).2.1 := by decide +kernel
theorem tyJ10_ok : ∀ k, k < 0 → parseFieldDescriptor (TJ10 k).2.2.1 = some (tyJ10 k) := by decide +kernel
def RJ7 : String := "java/util/Arrays"
def TJ7 : u_T := fun k => match k with
  | _ => ("", "", "", false)
def tyJ7 : Nat → FieldType := fun k => match k with
  | _ => .int
abbrev wsJ70 : List Cond := u_ws RJ7 TJ7 0
theorem nmJ7 : ∀ a, a < 0 → ∀ b, b < 0 → a ≠ b → (TJ7 a).2.1 ≠ (TJ7 b).2.1 := by decide +kernel
theorem tyJ7_ok : ∀ k, k < 0 → parseFieldDescriptor (TJ7 k).2.2.1 = some (tyJ7 k) := by decide +kernel
abbrev cJ7_fill_53178 : ByteArray := prog_20_method_103_code
def yJ7_fill_53178 : MethodName := ⟨RJ7, "fill", "([II)V"⟩
abbrev cJ7_copyOf_59c91 : ByteArray := prog_20_method_123_code
def yJ7_copyOf_59c91 : MethodName := ⟨RJ7, "copyOf", "([II)[I"⟩
def RL : String := "FreeCityLaw"
abbrev cL_law : ByteArray := code
def yL_law : MethodName := ⟨RL, "law", "([I)Z"⟩
abbrev vwCl : List vw_C := [(RX0, TX0, 6), (RX1, TX1, 6), (RX2, TX2, 7), (RX3, TX3, 5), (RX4, TX4, 6), (RX5, TX5, 9), (RX6, TX6, 6), (RX7, TX7, 18), (RX8, TX8, 5), (RX9, TX9, 8), (RX10, TX10, 4), (RX11, TX11, 7), (RX12, TX12, 26)]
