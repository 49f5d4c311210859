section
-- ===== PART A: goes FIRST, ahead of the names: the tables' words, and 'selects' of the private methods out of them =====
/-- a private method of a class that the tables say can be made, by its rows of tables_1 -/
def lw_okq (q : MethodName × Nat) : Prop := (q.1.cls ≠ "java/lang/invoke/MethodHandle" ∧ q.1.cls ≠ "java/lang/invoke/VarHandle") ∧ Cond.instantiable q.1.cls q.2 ∈ tables_1 ∧ Cond.privateMethod q.1 ∈ tables_1 ∧ Cond.instanceMethod q.1 ∈ tables_1
theorem lw_p0 : lw_okq (⟨"CampYears", "isMan", "(I)Z"⟩, 15) := ⟨⟨by decide +kernel, by decide +kernel⟩, List.mem_of_getElem? (i := 18) (by decide +kernel), List.mem_of_getElem? (i := 307) (by decide +kernel), List.mem_of_getElem? (i := 308) (by decide +kernel)⟩
theorem lw_p1 : lw_okq (⟨"CampYears", "daysOnPosts", "(III)I"⟩, 15) := ⟨⟨by decide +kernel, by decide +kernel⟩, List.mem_of_getElem? (i := 18) (by decide +kernel), List.mem_of_getElem? (i := 325) (by decide +kernel), List.mem_of_getElem? (i := 326) (by decide +kernel)⟩
theorem lw_p2 : lw_okq (⟨"CampYears", "menAt", "(II)I"⟩, 15) := ⟨⟨by decide +kernel, by decide +kernel⟩, List.mem_of_getElem? (i := 18) (by decide +kernel), List.mem_of_getElem? (i := 379) (by decide +kernel), List.mem_of_getElem? (i := 380) (by decide +kernel)⟩
theorem lw_p3 : lw_okq (⟨"CampYears", "sheetAt", "(I)LCampYears$Sheet;"⟩, 15) := ⟨⟨by decide +kernel, by decide +kernel⟩, List.mem_of_getElem? (i := 18) (by decide +kernel), List.mem_of_getElem? (i := 391) (by decide +kernel), List.mem_of_getElem? (i := 392) (by decide +kernel)⟩
theorem lw_p4 : lw_okq (⟨"CampYears", "noteFault", "(I)I"⟩, 15) := ⟨⟨by decide +kernel, by decide +kernel⟩, List.mem_of_getElem? (i := 18) (by decide +kernel), List.mem_of_getElem? (i := 403) (by decide +kernel), List.mem_of_getElem? (i := 404) (by decide +kernel)⟩
theorem lw_p5 : lw_okq (⟨"CampYears$OrderReader", "readSign", "(C)V"⟩, 12) := ⟨⟨by decide +kernel, by decide +kernel⟩, List.mem_of_getElem? (i := 407) (by decide +kernel), List.mem_of_getElem? (i := 461) (by decide +kernel), List.mem_of_getElem? (i := 462) (by decide +kernel)⟩
theorem lw_p6 : lw_okq (⟨"CampYears$OrderReader", "code", "()I"⟩, 12) := ⟨⟨by decide +kernel, by decide +kernel⟩, List.mem_of_getElem? (i := 407) (by decide +kernel), List.mem_of_getElem? (i := 469) (by decide +kernel), List.mem_of_getElem? (i := 470) (by decide +kernel)⟩
theorem lw_p7 : lw_okq (⟨"CampYears$OrderReader", "readNumber", "(III)I"⟩, 12) := ⟨⟨by decide +kernel, by decide +kernel⟩, List.mem_of_getElem? (i := 407) (by decide +kernel), List.mem_of_getElem? (i := 477) (by decide +kernel), List.mem_of_getElem? (i := 478) (by decide +kernel)⟩
theorem lw_p8 : lw_okq (⟨"CampYears$OrderReader", "readLeftOut", "()V"⟩, 12) := ⟨⟨by decide +kernel, by decide +kernel⟩, List.mem_of_getElem? (i := 407) (by decide +kernel), List.mem_of_getElem? (i := 482) (by decide +kernel), List.mem_of_getElem? (i := 483) (by decide +kernel)⟩
theorem lw_p9 : lw_okq (⟨"CampYears", "orderAt", "(I)LCampYears$Order;"⟩, 15) := ⟨⟨by decide +kernel, by decide +kernel⟩, List.mem_of_getElem? (i := 18) (by decide +kernel), List.mem_of_getElem? (i := 520) (by decide +kernel), List.mem_of_getElem? (i := 521) (by decide +kernel)⟩
theorem lw_p10 : lw_okq (⟨"CampYears", "latestHeard", "(IIII)I"⟩, 15) := ⟨⟨by decide +kernel, by decide +kernel⟩, List.mem_of_getElem? (i := 18) (by decide +kernel), List.mem_of_getElem? (i := 543) (by decide +kernel), List.mem_of_getElem? (i := 544) (by decide +kernel)⟩
theorem lw_p11 : lw_okq (⟨"CampYears", "officesThatClaim", "(III)I"⟩, 15) := ⟨⟨by decide +kernel, by decide +kernel⟩, List.mem_of_getElem? (i := 18) (by decide +kernel), List.mem_of_getElem? (i := 557) (by decide +kernel), List.mem_of_getElem? (i := 558) (by decide +kernel)⟩
theorem lw_p12 : lw_okq (⟨"CampYears$Works", "toldOnBy", "(IJ)J"⟩, 7) := ⟨⟨by decide +kernel, by decide +kernel⟩, List.mem_of_getElem? (i := 93) (by decide +kernel), List.mem_of_getElem? (i := 726) (by decide +kernel), List.mem_of_getElem? (i := 727) (by decide +kernel)⟩
theorem lw_p13 : lw_okq (⟨"CampYears$Fires", "lineUp", "(LCampYears$Camps;I)V"⟩, 9) := ⟨⟨by decide +kernel, by decide +kernel⟩, List.mem_of_getElem? (i := 154) (by decide +kernel), List.mem_of_getElem? (i := 798) (by decide +kernel), List.mem_of_getElem? (i := 799) (by decide +kernel)⟩
theorem lw_p14 : lw_okq (⟨"CampYears$Fires", "goersTo", "(LCampYears$Camps;II)I"⟩, 9) := ⟨⟨by decide +kernel, by decide +kernel⟩, List.mem_of_getElem? (i := 154) (by decide +kernel), List.mem_of_getElem? (i := 809) (by decide +kernel), List.mem_of_getElem? (i := 810) (by decide +kernel)⟩
theorem lw_p15 : lw_okq (⟨"CampYears$Fires", "lostAt", "(LCampYears$Camps;II)I"⟩, 9) := ⟨⟨by decide +kernel, by decide +kernel⟩, List.mem_of_getElem? (i := 154) (by decide +kernel), List.mem_of_getElem? (i := 815) (by decide +kernel), List.mem_of_getElem? (i := 816) (by decide +kernel)⟩
def lw_privs_1 : List (MethodName × Nat) := [(⟨"CampYears", "isMan", "(I)Z"⟩, 15), (⟨"CampYears", "daysOnPosts", "(III)I"⟩, 15), (⟨"CampYears", "menAt", "(II)I"⟩, 15), (⟨"CampYears", "sheetAt", "(I)LCampYears$Sheet;"⟩, 15), (⟨"CampYears", "noteFault", "(I)I"⟩, 15), (⟨"CampYears$OrderReader", "readSign", "(C)V"⟩, 12), (⟨"CampYears$OrderReader", "code", "()I"⟩, 12), (⟨"CampYears$OrderReader", "readNumber", "(III)I"⟩, 12), (⟨"CampYears$OrderReader", "readLeftOut", "()V"⟩, 12), (⟨"CampYears", "orderAt", "(I)LCampYears$Order;"⟩, 15), (⟨"CampYears", "latestHeard", "(IIII)I"⟩, 15), (⟨"CampYears", "officesThatClaim", "(III)I"⟩, 15), (⟨"CampYears$Works", "toldOnBy", "(IJ)J"⟩, 7), (⟨"CampYears$Fires", "lineUp", "(LCampYears$Camps;I)V"⟩, 9), (⟨"CampYears$Fires", "goersTo", "(LCampYears$Camps;II)I"⟩, 9), (⟨"CampYears$Fires", "lostAt", "(LCampYears$Camps;II)I"⟩, 9)]
theorem lw_r1 : ∀ q ∈ lw_privs_1, lw_okq q := List.forall_mem_cons.mpr ⟨lw_p0, List.forall_mem_cons.mpr ⟨lw_p1, List.forall_mem_cons.mpr ⟨lw_p2, List.forall_mem_cons.mpr ⟨lw_p3, List.forall_mem_cons.mpr ⟨lw_p4, List.forall_mem_cons.mpr ⟨lw_p5, List.forall_mem_cons.mpr ⟨lw_p6, List.forall_mem_cons.mpr ⟨lw_p7, List.forall_mem_cons.mpr ⟨lw_p8, List.forall_mem_cons.mpr ⟨lw_p9, List.forall_mem_cons.mpr ⟨lw_p10, List.forall_mem_cons.mpr ⟨lw_p11, List.forall_mem_cons.mpr ⟨lw_p12, List.forall_mem_cons.mpr ⟨lw_p13, List.forall_mem_cons.mpr ⟨lw_p14, List.forall_mem_cons.mpr ⟨lw_p15, fun _ h => absurd h List.not_mem_nil⟩⟩⟩⟩⟩⟩⟩⟩⟩⟩⟩⟩⟩⟩⟩⟩
theorem lw_p16 : lw_okq (⟨"CampYears$Fires", "worthOf", "(LCampYears$Camps;II)J"⟩, 9) := ⟨⟨by decide +kernel, by decide +kernel⟩, List.mem_of_getElem? (i := 154) (by decide +kernel), List.mem_of_getElem? (i := 832) (by decide +kernel), List.mem_of_getElem? (i := 833) (by decide +kernel)⟩
theorem lw_p17 : lw_okq (⟨"CampYears$Fires", "bestSplit", "(I)J"⟩, 9) := ⟨⟨by decide +kernel, by decide +kernel⟩, List.mem_of_getElem? (i := 154) (by decide +kernel), List.mem_of_getElem? (i := 839) (by decide +kernel), List.mem_of_getElem? (i := 840) (by decide +kernel)⟩
theorem lw_p18 : lw_okq (⟨"CampYears$Places", "mostBehind", "(LCampYears$Camps;I)I"⟩, 7) := ⟨⟨by decide +kernel, by decide +kernel⟩, List.mem_of_getElem? (i := 190) (by decide +kernel), List.mem_of_getElem? (i := 871) (by decide +kernel), List.mem_of_getElem? (i := 872) (by decide +kernel)⟩
theorem lw_p19 : lw_okq (⟨"CampYears$Places", "gainFrom", "(LCampYears$Camps;III)I"⟩, 7) := ⟨⟨by decide +kernel, by decide +kernel⟩, List.mem_of_getElem? (i := 190) (by decide +kernel), List.mem_of_getElem? (i := 882) (by decide +kernel), List.mem_of_getElem? (i := 883) (by decide +kernel)⟩
theorem lw_p20 : lw_okq (⟨"CampYears$Places", "isFree", "(II)Z"⟩, 7) := ⟨⟨by decide +kernel, by decide +kernel⟩, List.mem_of_getElem? (i := 190) (by decide +kernel), List.mem_of_getElem? (i := 886) (by decide +kernel), List.mem_of_getElem? (i := 887) (by decide +kernel)⟩
theorem lw_p21 : lw_okq (⟨"CampYears$Places", "gainOf", "(LCampYears$Camps;II)I"⟩, 7) := ⟨⟨by decide +kernel, by decide +kernel⟩, List.mem_of_getElem? (i := 190) (by decide +kernel), List.mem_of_getElem? (i := 890) (by decide +kernel), List.mem_of_getElem? (i := 891) (by decide +kernel)⟩
theorem lw_p22 : lw_okq (⟨"CampYears$Places", "firstOfMost", "(LCampYears$Camps;II)I"⟩, 7) := ⟨⟨by decide +kernel, by decide +kernel⟩, List.mem_of_getElem? (i := 190) (by decide +kernel), List.mem_of_getElem? (i := 896) (by decide +kernel), List.mem_of_getElem? (i := 897) (by decide +kernel)⟩
theorem lw_p23 : lw_okq (⟨"CampYears$Sheet", "cutToLane", "(I)I"⟩, 3) := ⟨⟨by decide +kernel, by decide +kernel⟩, List.mem_of_getElem? (i := 222) (by decide +kernel), List.mem_of_getElem? (i := 953) (by decide +kernel), List.mem_of_getElem? (i := 954) (by decide +kernel)⟩
theorem lw_p24 : lw_okq (⟨"CampYears", "postAt", "(I)LCampYears$Post;"⟩, 15) := ⟨⟨by decide +kernel, by decide +kernel⟩, List.mem_of_getElem? (i := 18) (by decide +kernel), List.mem_of_getElem? (i := 966) (by decide +kernel), List.mem_of_getElem? (i := 967) (by decide +kernel)⟩
theorem lw_p25 : lw_okq (⟨"CampYears", "tellingOfChief", "(LCampYears$Post;)I"⟩, 15) := ⟨⟨by decide +kernel, by decide +kernel⟩, List.mem_of_getElem? (i := 18) (by decide +kernel), List.mem_of_getElem? (i := 970) (by decide +kernel), List.mem_of_getElem? (i := 971) (by decide +kernel)⟩
theorem lw_p26 : lw_okq (⟨"CampYears", "leaveInTrace", "(I)V"⟩, 15) := ⟨⟨by decide +kernel, by decide +kernel⟩, List.mem_of_getElem? (i := 18) (by decide +kernel), List.mem_of_getElem? (i := 974) (by decide +kernel), List.mem_of_getElem? (i := 975) (by decide +kernel)⟩
theorem lw_p27 : lw_okq (⟨"CampYears", "tellingOfLeader", "(LCampYears$Post;)I"⟩, 15) := ⟨⟨by decide +kernel, by decide +kernel⟩, List.mem_of_getElem? (i := 18) (by decide +kernel), List.mem_of_getElem? (i := 978) (by decide +kernel), List.mem_of_getElem? (i := 979) (by decide +kernel)⟩
theorem lw_p28 : lw_okq (⟨"CampYears", "tellingOfPost", "(LCampYears$Post;)I"⟩, 15) := ⟨⟨by decide +kernel, by decide +kernel⟩, List.mem_of_getElem? (i := 18) (by decide +kernel), List.mem_of_getElem? (i := 982) (by decide +kernel), List.mem_of_getElem? (i := 983) (by decide +kernel)⟩
theorem lw_p29 : lw_okq (⟨"CampYearsModel", "isMan", "(I)Z"⟩, 71) := ⟨⟨by decide +kernel, by decide +kernel⟩, List.mem_of_getElem? (i := 1006) (by decide +kernel), List.mem_of_getElem? (i := 1244) (by decide +kernel), List.mem_of_getElem? (i := 1245) (by decide +kernel)⟩
theorem lw_p30 : lw_okq (⟨"CampYearsModel", "isCamp", "(I)Z"⟩, 71) := ⟨⟨by decide +kernel, by decide +kernel⟩, List.mem_of_getElem? (i := 1006) (by decide +kernel), List.mem_of_getElem? (i := 1248) (by decide +kernel), List.mem_of_getElem? (i := 1249) (by decide +kernel)⟩
theorem lw_p31 : lw_okq (⟨"CampYearsModel", "postOn", "(II)I"⟩, 71) := ⟨⟨by decide +kernel, by decide +kernel⟩, List.mem_of_getElem? (i := 1006) (by decide +kernel), List.mem_of_getElem? (i := 1262) (by decide +kernel), List.mem_of_getElem? (i := 1263) (by decide +kernel)⟩
def lw_privs_2 : List (MethodName × Nat) := [(⟨"CampYears$Fires", "worthOf", "(LCampYears$Camps;II)J"⟩, 9), (⟨"CampYears$Fires", "bestSplit", "(I)J"⟩, 9), (⟨"CampYears$Places", "mostBehind", "(LCampYears$Camps;I)I"⟩, 7), (⟨"CampYears$Places", "gainFrom", "(LCampYears$Camps;III)I"⟩, 7), (⟨"CampYears$Places", "isFree", "(II)Z"⟩, 7), (⟨"CampYears$Places", "gainOf", "(LCampYears$Camps;II)I"⟩, 7), (⟨"CampYears$Places", "firstOfMost", "(LCampYears$Camps;II)I"⟩, 7), (⟨"CampYears$Sheet", "cutToLane", "(I)I"⟩, 3), (⟨"CampYears", "postAt", "(I)LCampYears$Post;"⟩, 15), (⟨"CampYears", "tellingOfChief", "(LCampYears$Post;)I"⟩, 15), (⟨"CampYears", "leaveInTrace", "(I)V"⟩, 15), (⟨"CampYears", "tellingOfLeader", "(LCampYears$Post;)I"⟩, 15), (⟨"CampYears", "tellingOfPost", "(LCampYears$Post;)I"⟩, 15), (⟨"CampYearsModel", "isMan", "(I)Z"⟩, 71), (⟨"CampYearsModel", "isCamp", "(I)Z"⟩, 71), (⟨"CampYearsModel", "postOn", "(II)I"⟩, 71)]
theorem lw_r2 : ∀ q ∈ lw_privs_2, lw_okq q := List.forall_mem_cons.mpr ⟨lw_p16, List.forall_mem_cons.mpr ⟨lw_p17, List.forall_mem_cons.mpr ⟨lw_p18, List.forall_mem_cons.mpr ⟨lw_p19, List.forall_mem_cons.mpr ⟨lw_p20, List.forall_mem_cons.mpr ⟨lw_p21, List.forall_mem_cons.mpr ⟨lw_p22, List.forall_mem_cons.mpr ⟨lw_p23, List.forall_mem_cons.mpr ⟨lw_p24, List.forall_mem_cons.mpr ⟨lw_p25, List.forall_mem_cons.mpr ⟨lw_p26, List.forall_mem_cons.mpr ⟨lw_p27, List.forall_mem_cons.mpr ⟨lw_p28, List.forall_mem_cons.mpr ⟨lw_p29, List.forall_mem_cons.mpr ⟨lw_p30, List.forall_mem_cons.mpr ⟨lw_p31, fun _ h => absurd h List.not_mem_nil⟩⟩⟩⟩⟩⟩⟩⟩⟩⟩⟩⟩⟩⟩⟩⟩
theorem lw_p32 : lw_okq (⟨"CampYearsModel", "menAt", "(II)I"⟩, 71) := ⟨⟨by decide +kernel, by decide +kernel⟩, List.mem_of_getElem? (i := 1006) (by decide +kernel), List.mem_of_getElem? (i := 1270) (by decide +kernel), List.mem_of_getElem? (i := 1271) (by decide +kernel)⟩
theorem lw_p33 : lw_okq (⟨"CampYearsModel", "against", "(IIII)I"⟩, 71) := ⟨⟨by decide +kernel, by decide +kernel⟩, List.mem_of_getElem? (i := 1006) (by decide +kernel), List.mem_of_getElem? (i := 1288) (by decide +kernel), List.mem_of_getElem? (i := 1289) (by decide +kernel)⟩
theorem lw_p34 : lw_okq (⟨"CampYearsModel", "fails", "(I)I"⟩, 71) := ⟨⟨by decide +kernel, by decide +kernel⟩, List.mem_of_getElem? (i := 1006) (by decide +kernel), List.mem_of_getElem? (i := 1292) (by decide +kernel), List.mem_of_getElem? (i := 1293) (by decide +kernel)⟩
theorem lw_p35 : lw_okq (⟨"CampYearsModel", "reads", "(II)Z"⟩, 71) := ⟨⟨by decide +kernel, by decide +kernel⟩, List.mem_of_getElem? (i := 1006) (by decide +kernel), List.mem_of_getElem? (i := 1296) (by decide +kernel), List.mem_of_getElem? (i := 1297) (by decide +kernel)⟩
theorem lw_p36 : lw_okq (⟨"CampYearsModel", "isSign", "(I)Z"⟩, 71) := ⟨⟨by decide +kernel, by decide +kernel⟩, List.mem_of_getElem? (i := 1006) (by decide +kernel), List.mem_of_getElem? (i := 1300) (by decide +kernel), List.mem_of_getElem? (i := 1301) (by decide +kernel)⟩
theorem lw_p37 : lw_okq (⟨"CampYearsModel", "number", "(III)I"⟩, 71) := ⟨⟨by decide +kernel, by decide +kernel⟩, List.mem_of_getElem? (i := 1006) (by decide +kernel), List.mem_of_getElem? (i := 1304) (by decide +kernel), List.mem_of_getElem? (i := 1305) (by decide +kernel)⟩
theorem lw_p38 : lw_okq (⟨"CampYearsModel", "wordOf", "(IIII)I"⟩, 71) := ⟨⟨by decide +kernel, by decide +kernel⟩, List.mem_of_getElem? (i := 1006) (by decide +kernel), List.mem_of_getElem? (i := 1323) (by decide +kernel), List.mem_of_getElem? (i := 1324) (by decide +kernel)⟩
theorem lw_p39 : lw_okq (⟨"CampYearsModel", "whyOf", "(IIII)I"⟩, 71) := ⟨⟨by decide +kernel, by decide +kernel⟩, List.mem_of_getElem? (i := 1006) (by decide +kernel), List.mem_of_getElem? (i := 1327) (by decide +kernel), List.mem_of_getElem? (i := 1328) (by decide +kernel)⟩
theorem lw_p40 : lw_okq (⟨"CampYearsModel", "isWork", "(I)Z"⟩, 71) := ⟨⟨by decide +kernel, by decide +kernel⟩, List.mem_of_getElem? (i := 1006) (by decide +kernel), List.mem_of_getElem? (i := 1363) (by decide +kernel), List.mem_of_getElem? (i := 1364) (by decide +kernel)⟩
theorem lw_p41 : lw_okq (⟨"CampYearsModel", "toldBy", "(II)J"⟩, 71) := ⟨⟨by decide +kernel, by decide +kernel⟩, List.mem_of_getElem? (i := 1006) (by decide +kernel), List.mem_of_getElem? (i := 1387) (by decide +kernel), List.mem_of_getElem? (i := 1388) (by decide +kernel)⟩
theorem lw_p42 : lw_okq (⟨"CampYearsModel", "liveOf", "(II)I"⟩, 71) := ⟨⟨by decide +kernel, by decide +kernel⟩, List.mem_of_getElem? (i := 1006) (by decide +kernel), List.mem_of_getElem? (i := 1405) (by decide +kernel), List.mem_of_getElem? (i := 1406) (by decide +kernel)⟩
theorem lw_p43 : lw_okq (⟨"CampYearsModel", "layHours", "()V"⟩, 71) := ⟨⟨by decide +kernel, by decide +kernel⟩, List.mem_of_getElem? (i := 1006) (by decide +kernel), List.mem_of_getElem? (i := 1425) (by decide +kernel), List.mem_of_getElem? (i := 1426) (by decide +kernel)⟩
theorem lw_p44 : lw_okq (⟨"CampYearsModel", "calls", "()I"⟩, 71) := ⟨⟨by decide +kernel, by decide +kernel⟩, List.mem_of_getElem? (i := 1006) (by decide +kernel), List.mem_of_getElem? (i := 1432) (by decide +kernel), List.mem_of_getElem? (i := 1433) (by decide +kernel)⟩
theorem lw_p45 : lw_okq (⟨"CampYearsModel", "lostBy", "(I)I"⟩, 71) := ⟨⟨by decide +kernel, by decide +kernel⟩, List.mem_of_getElem? (i := 1006) (by decide +kernel), List.mem_of_getElem? (i := 1436) (by decide +kernel), List.mem_of_getElem? (i := 1437) (by decide +kernel)⟩
theorem lw_p46 : lw_okq (⟨"CampYearsModel", "layCall", "(I)V"⟩, 71) := ⟨⟨by decide +kernel, by decide +kernel⟩, List.mem_of_getElem? (i := 1006) (by decide +kernel), List.mem_of_getElem? (i := 1440) (by decide +kernel), List.mem_of_getElem? (i := 1441) (by decide +kernel)⟩
theorem lw_p47 : lw_okq (⟨"CampYearsModel", "heldIn", "(I)I"⟩, 71) := ⟨⟨by decide +kernel, by decide +kernel⟩, List.mem_of_getElem? (i := 1006) (by decide +kernel), List.mem_of_getElem? (i := 1444) (by decide +kernel), List.mem_of_getElem? (i := 1445) (by decide +kernel)⟩
def lw_privs_3 : List (MethodName × Nat) := [(⟨"CampYearsModel", "menAt", "(II)I"⟩, 71), (⟨"CampYearsModel", "against", "(IIII)I"⟩, 71), (⟨"CampYearsModel", "fails", "(I)I"⟩, 71), (⟨"CampYearsModel", "reads", "(II)Z"⟩, 71), (⟨"CampYearsModel", "isSign", "(I)Z"⟩, 71), (⟨"CampYearsModel", "number", "(III)I"⟩, 71), (⟨"CampYearsModel", "wordOf", "(IIII)I"⟩, 71), (⟨"CampYearsModel", "whyOf", "(IIII)I"⟩, 71), (⟨"CampYearsModel", "isWork", "(I)Z"⟩, 71), (⟨"CampYearsModel", "toldBy", "(II)J"⟩, 71), (⟨"CampYearsModel", "liveOf", "(II)I"⟩, 71), (⟨"CampYearsModel", "layHours", "()V"⟩, 71), (⟨"CampYearsModel", "calls", "()I"⟩, 71), (⟨"CampYearsModel", "lostBy", "(I)I"⟩, 71), (⟨"CampYearsModel", "layCall", "(I)V"⟩, 71), (⟨"CampYearsModel", "heldIn", "(I)I"⟩, 71)]
theorem lw_r3 : ∀ q ∈ lw_privs_3, lw_okq q := List.forall_mem_cons.mpr ⟨lw_p32, List.forall_mem_cons.mpr ⟨lw_p33, List.forall_mem_cons.mpr ⟨lw_p34, List.forall_mem_cons.mpr ⟨lw_p35, List.forall_mem_cons.mpr ⟨lw_p36, List.forall_mem_cons.mpr ⟨lw_p37, List.forall_mem_cons.mpr ⟨lw_p38, List.forall_mem_cons.mpr ⟨lw_p39, List.forall_mem_cons.mpr ⟨lw_p40, List.forall_mem_cons.mpr ⟨lw_p41, List.forall_mem_cons.mpr ⟨lw_p42, List.forall_mem_cons.mpr ⟨lw_p43, List.forall_mem_cons.mpr ⟨lw_p44, List.forall_mem_cons.mpr ⟨lw_p45, List.forall_mem_cons.mpr ⟨lw_p46, List.forall_mem_cons.mpr ⟨lw_p47, fun _ h => absurd h List.not_mem_nil⟩⟩⟩⟩⟩⟩⟩⟩⟩⟩⟩⟩⟩⟩⟩⟩
theorem lw_p48 : lw_okq (⟨"CampYearsModel", "handsThatGo", "()I"⟩, 71) := ⟨⟨by decide +kernel, by decide +kernel⟩, List.mem_of_getElem? (i := 1006) (by decide +kernel), List.mem_of_getElem? (i := 1452) (by decide +kernel), List.mem_of_getElem? (i := 1453) (by decide +kernel)⟩
theorem lw_p49 : lw_okq (⟨"CampYearsModel", "layMoves", "()V"⟩, 71) := ⟨⟨by decide +kernel, by decide +kernel⟩, List.mem_of_getElem? (i := 1006) (by decide +kernel), List.mem_of_getElem? (i := 1464) (by decide +kernel), List.mem_of_getElem? (i := 1465) (by decide +kernel)⟩
theorem lw_p50 : lw_okq (⟨"CampYearsModel", "gainOf", "(II)J"⟩, 71) := ⟨⟨by decide +kernel, by decide +kernel⟩, List.mem_of_getElem? (i := 1006) (by decide +kernel), List.mem_of_getElem? (i := 1471) (by decide +kernel), List.mem_of_getElem? (i := 1472) (by decide +kernel)⟩
theorem lw_p51 : lw_okq (⟨"CampYearsModel", "placeOf", "(I)I"⟩, 71) := ⟨⟨by decide +kernel, by decide +kernel⟩, List.mem_of_getElem? (i := 1006) (by decide +kernel), List.mem_of_getElem? (i := 1476) (by decide +kernel), List.mem_of_getElem? (i := 1477) (by decide +kernel)⟩
theorem lw_p52 : lw_okq (⟨"CampYearsModel", "lostBeing", "(I)J"⟩, 71) := ⟨⟨by decide +kernel, by decide +kernel⟩, List.mem_of_getElem? (i := 1006) (by decide +kernel), List.mem_of_getElem? (i := 1484) (by decide +kernel), List.mem_of_getElem? (i := 1485) (by decide +kernel)⟩
theorem lw_p53 : lw_okq (⟨"CampYearsModel", "isPost", "(I)Z"⟩, 71) := ⟨⟨by decide +kernel, by decide +kernel⟩, List.mem_of_getElem? (i := 1006) (by decide +kernel), List.mem_of_getElem? (i := 1516) (by decide +kernel), List.mem_of_getElem? (i := 1517) (by decide +kernel)⟩
theorem lw_p54 : lw_okq (⟨"CampYearsModel", "begins", "(I)V"⟩, 71) := ⟨⟨by decide +kernel, by decide +kernel⟩, List.mem_of_getElem? (i := 1006) (by decide +kernel), List.mem_of_getElem? (i := 1520) (by decide +kernel), List.mem_of_getElem? (i := 1521) (by decide +kernel)⟩
def lw_privs_4 : List (MethodName × Nat) := [(⟨"CampYearsModel", "handsThatGo", "()I"⟩, 71), (⟨"CampYearsModel", "layMoves", "()V"⟩, 71), (⟨"CampYearsModel", "gainOf", "(II)J"⟩, 71), (⟨"CampYearsModel", "placeOf", "(I)I"⟩, 71), (⟨"CampYearsModel", "lostBeing", "(I)J"⟩, 71), (⟨"CampYearsModel", "isPost", "(I)Z"⟩, 71), (⟨"CampYearsModel", "begins", "(I)V"⟩, 71)]
theorem lw_r4 : ∀ q ∈ lw_privs_4, lw_okq q := List.forall_mem_cons.mpr ⟨lw_p48, List.forall_mem_cons.mpr ⟨lw_p49, List.forall_mem_cons.mpr ⟨lw_p50, List.forall_mem_cons.mpr ⟨lw_p51, List.forall_mem_cons.mpr ⟨lw_p52, List.forall_mem_cons.mpr ⟨lw_p53, List.forall_mem_cons.mpr ⟨lw_p54, fun _ h => absurd h List.not_mem_nil⟩⟩⟩⟩⟩⟩⟩
def lw_privs : List (MethodName × Nat) := lw_privs_1 ++ (lw_privs_2 ++ (lw_privs_3 ++ (lw_privs_4)))
def lw_tbl : List Cond := k2_sels lw_privs ++ tables_1
theorem lw_privs_ok : ∀ q ∈ lw_privs, lw_okq q := by
  show ∀ q ∈ lw_privs_1 ++ (lw_privs_2 ++ (lw_privs_3 ++ (lw_privs_4))), lw_okq q
  exact List.forall_mem_append.mpr ⟨lw_r1, List.forall_mem_append.mpr ⟨lw_r2, List.forall_mem_append.mpr ⟨lw_r3, lw_r4⟩⟩⟩
end
section
/-! ===== BEGIN words of one list among another's, by their places ===== -/
theorem goodIn_r {big : List Cond} (ws : List Cond) (ps : List Nat) (hp : ws = ps.filterMap (fun i => big[i]?)) (h : ws.all goodWord = true) : GoodIn big ws := by
  intro w hw
  have h1 := List.all_eq_true.mp h w hw
  rw [hp] at hw
  obtain ⟨i, -, hi⟩ := List.mem_filterMap.mp hw
  have hm : w ∈ big := by first | exact List.mem_of_getElem? hi | exact List.getElem?_mem hi
  exact ⟨hm, good_of_word h1⟩
theorem goodIn_app {big a b : List Cond} (ha : GoodIn big a) (hb : GoodIn big b) : GoodIn big (a ++ b) := fun w h => (List.mem_append.mp h).elim (ha w) (hb w)
theorem goodIn_ca {big a b : List Cond} {c : Cond} (ha : GoodIn big (c :: a)) (hb : GoodIn big b) : GoodIn big (c :: (a ++ b)) := fun w h => (List.mem_cons.mp h).elim (fun e => ha w (List.mem_cons.mpr (Or.inl e))) (fun h => (List.mem_append.mp h).elim (fun h => ha w (List.mem_cons.mpr (Or.inr h))) (hb w))
theorem goodIn_sub {big ws : List Cond} (hm : ∀ w ∈ ws, w ∈ big) (h : ws.all goodWord = true) : GoodIn big ws := fun w hw => ⟨hm w hw, good_of_word (List.all_eq_true.mp h w hw)⟩
/-! ===== END ===== -/

/-! ===== BEGIN printed: names, fields, word lists, decode rows ===== -/
def RX0 : String := "CampYears$Camps"
def TX0 : u_T := fun k => match k with
  | 0 => ("CampYears$Camps", "x", "[I", true)
  | 1 => ("CampYears$Camps", "y", "[I", true)
  | 2 => ("CampYears$Camps", "beds", "[I", true)
  | 3 => ("CampYears$Camps", "crew", "[I", true)
  | _ => ("CampYears$Camps", "count", "I", false)
def tyX0 : Nat → FieldType := fun k => match k with
  | 0 => .array .int
  | 1 => .array .int
  | 2 => .array .int
  | 3 => .array .int
  | _ => .int
abbrev wsX00 : List Cond := u_ws RX0 TX0 5
theorem nmX0 : ∀ a, a < 5 → ∀ b, b < 5 → a ≠ b → (TX0 a).2.1 ≠ (TX0 b).2.1 := by decide +kernel
theorem tyX0_ok : ∀ k, k < 5 → parseFieldDescriptor (TX0 k).2.2.1 = some (tyX0 k) := by decide +kernel
abbrev cX0_init : ByteArray := prog_2_method_1_code
def yX0_init : MethodName := ⟨RX0, "<init>", "()V"⟩
abbrev cX0_has : ByteArray := prog_2_method_2_code
def yX0_has : MethodName := ⟨RX0, "has", "(I)Z"⟩
abbrev cX0_add : ByteArray := prog_2_method_3_code
def yX0_add : MethodName := ⟨RX0, "add", "(III)I"⟩
abbrev cX0_far : ByteArray := prog_2_method_4_code
def yX0_far : MethodName := ⟨RX0, "far", "(III)I"⟩
def RX1 : String := "CampYears$Fires"
def TX1 : u_T := fun k => match k with
  | 0 => ("CampYears$Fires", "x", "[I", true)
  | 1 => ("CampYears$Fires", "y", "[I", true)
  | 2 => ("CampYears$Fires", "need", "[I", true)
  | 3 => ("CampYears$Fires", "spread", "[I", true)
  | 4 => ("CampYears$Fires", "count", "I", false)
  | 5 => ("CampYears$Fires", "hours", "[I", true)
  | 6 => ("CampYears$Fires", "queue", "[I", true)
  | 7 => ("CampYears$Fires", "sent", "[J", true)
  | _ => ("CampYears$Fires", "best", "[J", true)
def tyX1 : Nat → FieldType := fun k => match k with
  | 0 => .array .int
  | 1 => .array .int
  | 2 => .array .int
  | 3 => .array .int
  | 4 => .int
  | 5 => .array .int
  | 6 => .array .int
  | 7 => .array .long
  | _ => .array .long
abbrev wsX10 : List Cond := u_ws RX1 TX1 9
theorem nmX1 : ∀ a, a < 9 → ∀ b, b < 9 → a ≠ b → (TX1 a).2.1 ≠ (TX1 b).2.1 := by decide +kernel
theorem tyX1_ok : ∀ k, k < 9 → parseFieldDescriptor (TX1 k).2.2.1 = some (tyX1 k) := by decide +kernel
abbrev cX1_init : ByteArray := prog_3_method_1_code
def yX1_init : MethodName := ⟨RX1, "<init>", "()V"⟩
abbrev cX1_add : ByteArray := prog_3_method_2_code
def yX1_add : MethodName := ⟨RX1, "add", "(IIII)I"⟩
abbrev cX1_isCall : ByteArray := prog_3_method_3_code
def yX1_isCall : MethodName := ⟨RX1, "isCall", "(LCampYears$Camps;I)Z"⟩
abbrev cX1_lostByCall : ByteArray := prog_3_method_4_code
def yX1_lostByCall : MethodName := ⟨RX1, "lostByCall", "(LCampYears$Camps;I)I"⟩
abbrev cX1_bestCall : ByteArray := prog_3_method_5_code
def yX1_bestCall : MethodName := ⟨RX1, "bestCall", "(LCampYears$Camps;)J"⟩
abbrev cX1_lostIn : ByteArray := prog_3_method_6_code
def yX1_lostIn : MethodName := ⟨RX1, "lostIn", "(J)I"⟩
abbrev cX1_handsIn : ByteArray := prog_3_method_7_code
def yX1_handsIn : MethodName := ⟨RX1, "handsIn", "(J)I"⟩
abbrev cX1_goalIn : ByteArray := prog_3_method_8_code
def yX1_goalIn : MethodName := ⟨RX1, "goalIn", "(JI)I"⟩
abbrev cX1_rowBit : ByteArray := prog_3_method_9_code
def yX1_rowBit : MethodName := ⟨RX1, "rowBit", "(I)I"⟩
abbrev cX1_lineUp : ByteArray := prog_3_method_10_code
def yX1_lineUp : MethodName := ⟨RX1, "lineUp", "(LCampYears$Camps;I)V"⟩
abbrev cX1_lostAt : ByteArray := prog_3_method_11_code
def yX1_lostAt : MethodName := ⟨RX1, "lostAt", "(LCampYears$Camps;II)I"⟩
abbrev cX1_goersTo : ByteArray := prog_3_method_12_code
def yX1_goersTo : MethodName := ⟨RX1, "goersTo", "(LCampYears$Camps;II)I"⟩
abbrev cX1_worthOf : ByteArray := prog_3_method_13_code
def yX1_worthOf : MethodName := ⟨RX1, "worthOf", "(LCampYears$Camps;II)J"⟩
abbrev cX1_bestSplit : ByteArray := prog_3_method_14_code
def yX1_bestSplit : MethodName := ⟨RX1, "bestSplit", "(I)J"⟩
def RX2 : String := "CampYears$Order"
def TX2 : u_T := fun k => match k with
  | 0 => ("CampYears$Order", "office", "I", true)
  | 1 => ("CampYears$Order", "fromHour", "I", true)
  | 2 => ("CampYears$Order", "toHour", "I", true)
  | 3 => ("CampYears$Order", "fromDay", "I", true)
  | 4 => ("CampYears$Order", "toDay", "I", true)
  | 5 => ("CampYears$Order", "leftOut", "I", true)
  | _ => ("CampYears$Order", "given", "I", true)
def tyX2 : Nat → FieldType := fun k => match k with
  | 0 => .int
  | 1 => .int
  | 2 => .int
  | 3 => .int
  | 4 => .int
  | 5 => .int
  | _ => .int
abbrev wsX20 : List Cond := u_ws RX2 TX2 7
theorem nmX2 : ∀ a, a < 7 → ∀ b, b < 7 → a ≠ b → (TX2 a).2.1 ≠ (TX2 b).2.1 := by decide +kernel
theorem tyX2_ok : ∀ k, k < 7 → parseFieldDescriptor (TX2 k).2.2.1 = some (tyX2 k) := by decide +kernel
abbrev cX2_init : ByteArray := prog_4_method_1_code
def yX2_init : MethodName := ⟨RX2, "<init>", "(LCampYears$OrderReader;I)V"⟩
abbrev cX2_tellsOf : ByteArray := prog_4_method_2_code
def yX2_tellsOf : MethodName := ⟨RX2, "tellsOf", "(III)Z"⟩
abbrev cX2_fact : ByteArray := prog_4_method_3_code
def yX2_fact : MethodName := ⟨RX2, "fact", "(I)I"⟩
def RX3 : String := "CampYears$OrderReader"
def TX3 : u_T := fun k => match k with
  | 0 => ("CampYears$OrderReader", "cells", "LCampYears$Sheet;", true)
  | 1 => ("CampYears$OrderReader", "start", "I", true)
  | 2 => ("CampYears$OrderReader", "length", "I", true)
  | 3 => ("CampYears$OrderReader", "campCount", "I", true)
  | 4 => ("CampYears$OrderReader", "at", "I", false)
  | 5 => ("CampYears$OrderReader", "firstFault", "I", false)
  | 6 => ("CampYears$OrderReader", "office", "I", false)
  | 7 => ("CampYears$OrderReader", "fromHour", "I", false)
  | 8 => ("CampYears$OrderReader", "toHour", "I", false)
  | 9 => ("CampYears$OrderReader", "fromDay", "I", false)
  | 10 => ("CampYears$OrderReader", "toDay", "I", false)
  | _ => ("CampYears$OrderReader", "leftOut", "I", false)
def tyX3 : Nat → FieldType := fun k => match k with
  | 0 => .object "CampYears$Sheet"
  | 1 => .int
  | 2 => .int
  | 3 => .int
  | 4 => .int
  | 5 => .int
  | 6 => .int
  | 7 => .int
  | 8 => .int
  | 9 => .int
  | 10 => .int
  | _ => .int
abbrev wsX30 : List Cond := u_ws RX3 TX3 12
theorem nmX3 : ∀ a, a < 12 → ∀ b, b < 12 → a ≠ b → (TX3 a).2.1 ≠ (TX3 b).2.1 := by decide +kernel
theorem tyX3_ok : ∀ k, k < 12 → parseFieldDescriptor (TX3 k).2.2.1 = some (tyX3 k) := by decide +kernel
abbrev cX3_init : ByteArray := prog_5_method_1_code
def yX3_init : MethodName := ⟨RX3, "<init>", "(LCampYears$Sheet;III)V"⟩
abbrev cX3_isFaulty : ByteArray := prog_5_method_2_code
def yX3_isFaulty : MethodName := ⟨RX3, "isFaulty", "()Z"⟩
abbrev cX3_readAll : ByteArray := prog_5_method_3_code
def yX3_readAll : MethodName := ⟨RX3, "readAll", "()V"⟩
abbrev cX3_readLeftOut : ByteArray := prog_5_method_4_code
def yX3_readLeftOut : MethodName := ⟨RX3, "readLeftOut", "()V"⟩
abbrev cX3_readSign : ByteArray := prog_5_method_5_code
def yX3_readSign : MethodName := ⟨RX3, "readSign", "(C)V"⟩
abbrev cX3_readNumber : ByteArray := prog_5_method_6_code
def yX3_readNumber : MethodName := ⟨RX3, "readNumber", "(III)I"⟩
abbrev cX3_code : ByteArray := prog_5_method_7_code
def yX3_code : MethodName := ⟨RX3, "code", "()I"⟩
def RX4 : String := "CampYears$Payroll"
def TX4 : u_T := fun k => match k with
  | 0 => ("CampYears$Payroll", "rates", "[I", true)
  | 1 => ("CampYears$Payroll", "homeShare", "I", false)
  | 2 => ("CampYears$Payroll", "homeBy", "I", false)
  | 3 => ("CampYears$Payroll", "fineMan", "[I", true)
  | 4 => ("CampYears$Payroll", "fineDay", "[I", true)
  | 5 => ("CampYears$Payroll", "fineCents", "[I", true)
  | _ => ("CampYears$Payroll", "fineCount", "I", false)
def tyX4 : Nat → FieldType := fun k => match k with
  | 0 => .array .int
  | 1 => .int
  | 2 => .int
  | 3 => .array .int
  | 4 => .array .int
  | 5 => .array .int
  | _ => .int
abbrev wsX40 : List Cond := u_ws RX4 TX4 7
theorem nmX4 : ∀ a, a < 7 → ∀ b, b < 7 → a ≠ b → (TX4 a).2.1 ≠ (TX4 b).2.1 := by decide +kernel
theorem tyX4_ok : ∀ k, k < 7 → parseFieldDescriptor (TX4 k).2.2.1 = some (tyX4 k) := by decide +kernel
abbrev cX4_init : ByteArray := prog_6_method_1_code
def yX4_init : MethodName := ⟨RX4, "<init>", "()V"⟩
abbrev cX4_changeHome : ByteArray := prog_6_method_2_code
def yX4_changeHome : MethodName := ⟨RX4, "changeHome", "(II)Z"⟩
abbrev cX4_addFine : ByteArray := prog_6_method_3_code
def yX4_addFine : MethodName := ⟨RX4, "addFine", "(III)I"⟩
abbrev cX4_finesOf : ByteArray := prog_6_method_4_code
def yX4_finesOf : MethodName := ⟨RX4, "finesOf", "(III)I"⟩
abbrev cX4_earnedOn : ByteArray := prog_6_method_5_code
def yX4_earnedOn : MethodName := ⟨RX4, "earnedOn", "([LCampYears$Post;III)I"⟩
abbrev cX4_sentHome : ByteArray := prog_6_method_6_code
def yX4_sentHome : MethodName := ⟨RX4, "sentHome", "(I)I"⟩
def RX5 : String := "CampYears$Places"
def TX5 : u_T := fun k => match k with
  | 0 => ("CampYears$Places", "x", "[I", true)
  | 1 => ("CampYears$Places", "y", "[I", true)
  | 2 => ("CampYears$Places", "reach", "[I", true)
  | 3 => ("CampYears$Places", "water", "[Z", true)
  | 4 => ("CampYears$Places", "count", "I", false)
  | 5 => ("CampYears$Places", "most", "[I", true)
  | _ => ("CampYears$Places", "chosen", "[I", true)
def tyX5 : Nat → FieldType := fun k => match k with
  | 0 => .array .int
  | 1 => .array .int
  | 2 => .array .int
  | 3 => .array .boolean
  | 4 => .int
  | 5 => .array .int
  | _ => .array .int
abbrev wsX50 : List Cond := u_ws RX5 TX5 7
theorem nmX5 : ∀ a, a < 7 → ∀ b, b < 7 → a ≠ b → (TX5 a).2.1 ≠ (TX5 b).2.1 := by decide +kernel
theorem tyX5_ok : ∀ k, k < 7 → parseFieldDescriptor (TX5 k).2.2.1 = some (tyX5 k) := by decide +kernel
abbrev cX5_init : ByteArray := prog_7_method_1_code
def yX5_init : MethodName := ⟨RX5, "<init>", "()V"⟩
abbrev cX5_add : ByteArray := prog_7_method_2_code
def yX5_add : MethodName := ⟨RX5, "add", "(IIIZ)I"⟩
abbrev cX5_findBestMove : ByteArray := prog_7_method_3_code
def yX5_findBestMove : MethodName := ⟨RX5, "findBestMove", "(LCampYears$Camps;)Z"⟩
abbrev cX5_bestGain : ByteArray := prog_7_method_4_code
def yX5_bestGain : MethodName := ⟨RX5, "bestGain", "()I"⟩
abbrev cX5_moveCamps : ByteArray := prog_7_method_5_code
def yX5_moveCamps : MethodName := ⟨RX5, "moveCamps", "(LCampYears$Camps;)V"⟩
abbrev cX5_gainBy : ByteArray := prog_7_method_6_code
def yX5_gainBy : MethodName := ⟨RX5, "gainBy", "(LCampYears$Camps;LCampYears$Sheet;I)J"⟩
abbrev cX5_isFree : ByteArray := prog_7_method_7_code
def yX5_isFree : MethodName := ⟨RX5, "isFree", "(II)Z"⟩
abbrev cX5_gainOf : ByteArray := prog_7_method_8_code
def yX5_gainOf : MethodName := ⟨RX5, "gainOf", "(LCampYears$Camps;II)I"⟩
abbrev cX5_mostBehind : ByteArray := prog_7_method_9_code
def yX5_mostBehind : MethodName := ⟨RX5, "mostBehind", "(LCampYears$Camps;I)I"⟩
abbrev cX5_gainFrom : ByteArray := prog_7_method_10_code
def yX5_gainFrom : MethodName := ⟨RX5, "gainFrom", "(LCampYears$Camps;III)I"⟩
abbrev cX5_firstOfMost : ByteArray := prog_7_method_11_code
def yX5_firstOfMost : MethodName := ⟨RX5, "firstOfMost", "(LCampYears$Camps;II)I"⟩
def RX6 : String := "CampYears$Post"
def TX6 : u_T := fun k => match k with
  | 0 => ("CampYears$Post", "kind", "I", true)
  | 1 => ("CampYears$Post", "man", "I", true)
  | 2 => ("CampYears$Post", "camp", "I", true)
  | 3 => ("CampYears$Post", "from", "I", true)
  | _ => ("CampYears$Post", "till", "I", true)
def tyX6 : Nat → FieldType := fun k => match k with
  | 0 => .int
  | 1 => .int
  | 2 => .int
  | 3 => .int
  | _ => .int
abbrev wsX60 : List Cond := u_ws RX6 TX6 5
theorem nmX6 : ∀ a, a < 5 → ∀ b, b < 5 → a ≠ b → (TX6 a).2.1 ≠ (TX6 b).2.1 := by decide +kernel
theorem tyX6_ok : ∀ k, k < 5 → parseFieldDescriptor (TX6 k).2.2.1 = some (tyX6 k) := by decide +kernel
abbrev cX6_init : ByteArray := prog_8_method_1_code
def yX6_init : MethodName := ⟨RX6, "<init>", "(IIIII)V"⟩
abbrev cX6_holdsOn : ByteArray := prog_8_method_2_code
def yX6_holdsOn : MethodName := ⟨RX6, "holdsOn", "(I)Z"⟩
abbrev cX6_daysIn : ByteArray := prog_8_method_3_code
def yX6_daysIn : MethodName := ⟨RX6, "daysIn", "(II)I"⟩
def RX7 : String := "CampYears$Sheet"
def TX7 : u_T := fun k => match k with
  | 0 => ("CampYears$Sheet", "cells", "[I", true)
  | 1 => ("CampYears$Sheet", "lane", "I", false)
  | _ => ("CampYears$Sheet", "size", "I", false)
def tyX7 : Nat → FieldType := fun k => match k with
  | 0 => .array .int
  | 1 => .int
  | _ => .int
abbrev wsX70 : List Cond := u_ws RX7 TX7 3
theorem nmX7 : ∀ a, a < 3 → ∀ b, b < 3 → a ≠ b → (TX7 a).2.1 ≠ (TX7 b).2.1 := by decide +kernel
theorem tyX7_ok : ∀ k, k < 3 → parseFieldDescriptor (TX7 k).2.2.1 = some (tyX7 k) := by decide +kernel
abbrev cX7_init : ByteArray := prog_9_method_1_code
def yX7_init : MethodName := ⟨RX7, "<init>", "()V"⟩
abbrev cX7_renew : ByteArray := prog_9_method_2_code
def yX7_renew : MethodName := ⟨RX7, "renew", "(II)V"⟩
abbrev cX7_drop : ByteArray := prog_9_method_3_code
def yX7_drop : MethodName := ⟨RX7, "drop", "()Z"⟩
abbrev cX7_faultOf : ByteArray := prog_9_method_4_code
def yX7_faultOf : MethodName := ⟨RX7, "faultOf", "(III)I"⟩
abbrev cX7_read : ByteArray := prog_9_method_5_code
def yX7_read : MethodName := ⟨RX7, "read", "(I)I"⟩
abbrev cX7_write : ByteArray := prog_9_method_6_code
def yX7_write : MethodName := ⟨RX7, "write", "(II)V"⟩
abbrev cX7_cutToLane : ByteArray := prog_9_method_7_code
def yX7_cutToLane : MethodName := ⟨RX7, "cutToLane", "(I)I"⟩
abbrev cX7_areWithin : ByteArray := prog_9_method_8_code
def yX7_areWithin : MethodName := ⟨RX7, "areWithin", "(III)Z"⟩
abbrev cX7_copyTo : ByteArray := prog_9_method_9_code
def yX7_copyTo : MethodName := ⟨RX7, "copyTo", "([III)V"⟩
def RX8 : String := "CampYears$Trees"
def TX8 : u_T := fun k => match k with
  | 0 => ("CampYears$Trees", "kind", "[I", true)
  | 1 => ("CampYears$Trees", "slope", "[I", true)
  | 2 => ("CampYears$Trees", "planted", "[I", true)
  | 3 => ("CampYears$Trees", "year", "[I", true)
  | 4 => ("CampYears$Trees", "count", "I", false)
  | _ => ("CampYears$Trees", "table", "[I", true)
def tyX8 : Nat → FieldType := fun k => match k with
  | 0 => .array .int
  | 1 => .array .int
  | 2 => .array .int
  | 3 => .array .int
  | 4 => .int
  | _ => .array .int
abbrev wsX80 : List Cond := u_ws RX8 TX8 6
theorem nmX8 : ∀ a, a < 6 → ∀ b, b < 6 → a ≠ b → (TX8 a).2.1 ≠ (TX8 b).2.1 := by decide +kernel
theorem tyX8_ok : ∀ k, k < 6 → parseFieldDescriptor (TX8 k).2.2.1 = some (tyX8 k) := by decide +kernel
abbrev cX8_init : ByteArray := prog_10_method_1_code
def yX8_init : MethodName := ⟨RX8, "<init>", "()V"⟩
abbrev cX8_has : ByteArray := prog_10_method_2_code
def yX8_has : MethodName := ⟨RX8, "has", "(I)Z"⟩
abbrev cX8_add : ByteArray := prog_10_method_3_code
def yX8_add : MethodName := ⟨RX8, "add", "(IIII)I"⟩
abbrev cX8_takeTable : ByteArray := prog_10_method_4_code
def yX8_takeTable : MethodName := ⟨RX8, "takeTable", "(LCampYears$Sheet;II)Z"⟩
abbrev cX8_liveIn : ByteArray := prog_10_method_5_code
def yX8_liveIn : MethodName := ⟨RX8, "liveIn", "(II)I"⟩
abbrev cX8_liveOfKind : ByteArray := prog_10_method_6_code
def yX8_liveOfKind : MethodName := ⟨RX8, "liveOfKind", "(II)J"⟩
def RX9 : String := "CampYears$Work"
def TX9 : u_T := fun k => match k with
  | 0 => ("CampYears$Work", "camp", "I", true)
  | 1 => ("CampYears$Work", "need", "I", true)
  | 2 => ("CampYears$Work", "tools", "I", false)
  | 3 => ("CampYears$Work", "hands", "I", false)
  | 4 => ("CampYears$Work", "done", "I", false)
  | 5 => ("CampYears$Work", "noTool", "I", false)
  | 6 => ("CampYears$Work", "noDay", "I", false)
  | _ => ("CampYears$Work", "counted", "I", false)
def tyX9 : Nat → FieldType := fun k => match k with
  | 0 => .int
  | 1 => .int
  | 2 => .int
  | 3 => .int
  | 4 => .int
  | 5 => .int
  | 6 => .int
  | _ => .int
abbrev wsX90 : List Cond := u_ws RX9 TX9 8
theorem nmX9 : ∀ a, a < 8 → ∀ b, b < 8 → a ≠ b → (TX9 a).2.1 ≠ (TX9 b).2.1 := by decide +kernel
theorem tyX9_ok : ∀ k, k < 8 → parseFieldDescriptor (TX9 k).2.2.1 = some (tyX9 k) := by decide +kernel
abbrev cX9_init : ByteArray := prog_11_method_1_code
def yX9_init : MethodName := ⟨RX9, "<init>", "(III)V"⟩
abbrev cX9_changeHands : ByteArray := prog_11_method_2_code
def yX9_changeHands : MethodName := ⟨RX9, "changeHands", "(I)I"⟩
abbrev cX9_changeTools : ByteArray := prog_11_method_3_code
def yX9_changeTools : MethodName := ⟨RX9, "changeTools", "(I)I"⟩
abbrev cX9_passWeek : ByteArray := prog_11_method_4_code
def yX9_passWeek : MethodName := ⟨RX9, "passWeek", "(I)I"⟩
abbrev cX9_fact : ByteArray := prog_11_method_5_code
def yX9_fact : MethodName := ⟨RX9, "fact", "(I)I"⟩
def RX10 : String := "CampYears$Works"
def TX10 : u_T := fun k => match k with
  | 0 => ("CampYears$Works", "works", "[LCampYears$Work;", true)
  | 1 => ("CampYears$Works", "count", "I", false)
  | 2 => ("CampYears$Works", "weather", "[I", true)
  | 3 => ("CampYears$Works", "weatherCount", "I", false)
  | 4 => ("CampYears$Works", "weeks", "I", false)
  | 5 => ("CampYears$Works", "tellsOn", "[I", true)
  | _ => ("CampYears$Works", "tellsBy", "[I", true)
def tyX10 : Nat → FieldType := fun k => match k with
  | 0 => .array (.object "CampYears$Work")
  | 1 => .int
  | 2 => .array .int
  | 3 => .int
  | 4 => .int
  | 5 => .array .int
  | _ => .array .int
abbrev wsX100 : List Cond := u_ws RX10 TX10 7
theorem nmX10 : ∀ a, a < 7 → ∀ b, b < 7 → a ≠ b → (TX10 a).2.1 ≠ (TX10 b).2.1 := by decide +kernel
theorem tyX10_ok : ∀ k, k < 7 → parseFieldDescriptor (TX10 k).2.2.1 = some (tyX10 k) := by decide +kernel
abbrev cX10_init : ByteArray := prog_12_method_1_code
def yX10_init : MethodName := ⟨RX10, "<init>", "()V"⟩
abbrev cX10_at : ByteArray := prog_12_method_2_code
def yX10_at : MethodName := ⟨RX10, "at", "(I)LCampYears$Work;"⟩
abbrev cX10_add : ByteArray := prog_12_method_3_code
def yX10_add : MethodName := ⟨RX10, "add", "(III)I"⟩
abbrev cX10_takeWeather : ByteArray := prog_12_method_4_code
def yX10_takeWeather : MethodName := ⟨RX10, "takeWeather", "(LCampYears$Sheet;II)Z"⟩
abbrev cX10_passWeek : ByteArray := prog_12_method_5_code
def yX10_passWeek : MethodName := ⟨RX10, "passWeek", "()I"⟩
abbrev cX10_changeLevel : ByteArray := prog_12_method_6_code
def yX10_changeLevel : MethodName := ⟨RX10, "changeLevel", "(III)Z"⟩
abbrev cX10_toldOnBy : ByteArray := prog_12_method_7_code
def yX10_toldOnBy : MethodName := ⟨RX10, "toldOnBy", "(IJ)J"⟩
abbrev cX10_toldBehind : ByteArray := prog_12_method_8_code
def yX10_toldBehind : MethodName := ⟨RX10, "toldBehind", "(LCampYears$Work;I)J"⟩
abbrev cX10_greatestGrowth : ByteArray := prog_12_method_9_code
def yX10_greatestGrowth : MethodName := ⟨RX10, "greatestGrowth", "(LCampYears$Work;)I"⟩
def RX11 : String := "CampYears"
def TX11 : u_T := fun k => match k with
  | 0 => ("CampYears", "camps", "LCampYears$Camps;", true)
  | 1 => ("CampYears", "menCount", "I", false)
  | 2 => ("CampYears", "posts", "[LCampYears$Post;", true)
  | 3 => ("CampYears", "postCount", "I", false)
  | 4 => ("CampYears", "traced", "I", false)
  | 5 => ("CampYears", "delays", "[I", true)
  | 6 => ("CampYears", "orders", "[LCampYears$Order;", true)
  | 7 => ("CampYears", "orderCount", "I", false)
  | 8 => ("CampYears", "payroll", "LCampYears$Payroll;", true)
  | 9 => ("CampYears", "works", "LCampYears$Works;", true)
  | 10 => ("CampYears", "trees", "LCampYears$Trees;", true)
  | 11 => ("CampYears", "fires", "LCampYears$Fires;", true)
  | 12 => ("CampYears", "places", "LCampYears$Places;", true)
  | 13 => ("CampYears", "sheets", "[LCampYears$Sheet;", true)
  | _ => ("CampYears", "latestFault", "I", false)
def tyX11 : Nat → FieldType := fun k => match k with
  | 0 => .object "CampYears$Camps"
  | 1 => .int
  | 2 => .array (.object "CampYears$Post")
  | 3 => .int
  | 4 => .int
  | 5 => .array .int
  | 6 => .array (.object "CampYears$Order")
  | 7 => .int
  | 8 => .object "CampYears$Payroll"
  | 9 => .object "CampYears$Works"
  | 10 => .object "CampYears$Trees"
  | 11 => .object "CampYears$Fires"
  | 12 => .object "CampYears$Places"
  | 13 => .array (.object "CampYears$Sheet")
  | _ => .int
abbrev wsX110 : List Cond := u_ws RX11 TX11 15
theorem nmX11 : ∀ a, a < 15 → ∀ b, b < 15 → a ≠ b → (TX11 a).2.1 ≠ (TX11 b).2.1 := by decide +kernel
theorem tyX11_ok : ∀ k, k < 15 → parseFieldDescriptor (TX11 k).2.2.1 = some (tyX11 k) := by decide +kernel
abbrev cX11_init : ByteArray := prog_1_method_1_code
def yX11_init : MethodName := ⟨RX11, "<init>", "()V"⟩
abbrev cX11_camp : ByteArray := prog_1_method_2_code
def yX11_camp : MethodName := ⟨RX11, "camp", "(III)I"⟩
abbrev cX11_man : ByteArray := prog_1_method_3_code
def yX11_man : MethodName := ⟨RX11, "man", "()I"⟩
abbrev cX11_post : ByteArray := prog_1_method_4_code
def yX11_post : MethodName := ⟨RX11, "post", "(IIIII)I"⟩
abbrev cX11_day : ByteArray := prog_1_method_5_code
def yX11_day : MethodName := ⟨RX11, "day", "(II)I"⟩
abbrev cX11_beds : ByteArray := prog_1_method_6_code
def yX11_beds : MethodName := ⟨RX11, "beds", "(II)I"⟩
abbrev cX11_over : ByteArray := prog_1_method_7_code
def yX11_over : MethodName := ⟨RX11, "over", "(I)I"⟩
abbrev cX11_order : ByteArray := prog_1_method_8_code
def yX11_order : MethodName := ⟨RX11, "order", "(IIIII)I"⟩
abbrev cX11_ofOrder : ByteArray := prog_1_method_9_code
def yX11_ofOrder : MethodName := ⟨RX11, "ofOrder", "(II)I"⟩
abbrev cX11_delay : ByteArray := prog_1_method_10_code
def yX11_delay : MethodName := ⟨RX11, "delay", "(II)I"⟩
abbrev cX11_word : ByteArray := prog_1_method_11_code
def yX11_word : MethodName := ⟨RX11, "word", "(IIII)I"⟩
abbrev cX11_why : ByteArray := prog_1_method_12_code
def yX11_why : MethodName := ⟨RX11, "why", "(IIII)I"⟩
abbrev cX11_quarrel : ByteArray := prog_1_method_13_code
def yX11_quarrel : MethodName := ⟨RX11, "quarrel", "(II)I"⟩
abbrev cX11_rate : ByteArray := prog_1_method_14_code
def yX11_rate : MethodName := ⟨RX11, "rate", "(II)I"⟩
abbrev cX11_home : ByteArray := prog_1_method_15_code
def yX11_home : MethodName := ⟨RX11, "home", "(II)I"⟩
abbrev cX11_fine : ByteArray := prog_1_method_16_code
def yX11_fine : MethodName := ⟨RX11, "fine", "(III)I"⟩
abbrev cX11_pay : ByteArray := prog_1_method_17_code
def yX11_pay : MethodName := ⟨RX11, "pay", "(IIII)I"⟩
abbrev cX11_work : ByteArray := prog_1_method_18_code
def yX11_work : MethodName := ⟨RX11, "work", "(III)I"⟩
abbrev cX11_hands : ByteArray := prog_1_method_19_code
def yX11_hands : MethodName := ⟨RX11, "hands", "(III)I"⟩
abbrev cX11_row : ByteArray := prog_1_method_20_code
def yX11_row : MethodName := ⟨RX11, "row", "(IIIII)I"⟩
abbrev cX11_week : ByteArray := prog_1_method_21_code
def yX11_week : MethodName := ⟨RX11, "week", "()I"⟩
abbrev cX11_ofWork : ByteArray := prog_1_method_22_code
def yX11_ofWork : MethodName := ⟨RX11, "ofWork", "(II)I"⟩
abbrev cX11_level : ByteArray := prog_1_method_23_code
def yX11_level : MethodName := ⟨RX11, "level", "(III)I"⟩
abbrev cX11_told : ByteArray := prog_1_method_24_code
def yX11_told : MethodName := ⟨RX11, "told", "(II)J"⟩
abbrev cX11_grew : ByteArray := prog_1_method_25_code
def yX11_grew : MethodName := ⟨RX11, "grew", "(I)I"⟩
abbrev cX11_stand : ByteArray := prog_1_method_26_code
def yX11_stand : MethodName := ⟨RX11, "stand", "(IIII)I"⟩
abbrev cX11_live : ByteArray := prog_1_method_27_code
def yX11_live : MethodName := ⟨RX11, "live", "(II)I"⟩
abbrev cX11_forest : ByteArray := prog_1_method_28_code
def yX11_forest : MethodName := ⟨RX11, "forest", "(II)J"⟩
abbrev cX11_fire : ByteArray := prog_1_method_29_code
def yX11_fire : MethodName := ⟨RX11, "fire", "(IIII)I"⟩
abbrev cX11_crew : ByteArray := prog_1_method_30_code
def yX11_crew : MethodName := ⟨RX11, "crew", "(II)I"⟩
abbrev cX11_lost : ByteArray := prog_1_method_31_code
def yX11_lost : MethodName := ⟨RX11, "lost", "(I)I"⟩
abbrev cX11_call : ByteArray := prog_1_method_32_code
def yX11_call : MethodName := ⟨RX11, "call", "(I)I"⟩
abbrev cX11_place : ByteArray := prog_1_method_33_code
def yX11_place : MethodName := ⟨RX11, "place", "(IIIZ)I"⟩
abbrev cX11_move : ByteArray := prog_1_method_34_code
def yX11_move : MethodName := ⟨RX11, "move", "(I)J"⟩
abbrev cX11_gain : ByteArray := prog_1_method_35_code
def yX11_gain : MethodName := ⟨RX11, "gain", "(IIII)J"⟩
abbrev cX11_go : ByteArray := prog_1_method_36_code
def yX11_go : MethodName := ⟨RX11, "go", "()I"⟩
abbrev cX11_spot : ByteArray := prog_1_method_37_code
def yX11_spot : MethodName := ⟨RX11, "spot", "(II)I"⟩
abbrev cX11_sheet : ByteArray := prog_1_method_38_code
def yX11_sheet : MethodName := ⟨RX11, "sheet", "(III)I"⟩
abbrev cX11_lose : ByteArray := prog_1_method_39_code
def yX11_lose : MethodName := ⟨RX11, "lose", "(I)I"⟩
abbrev cX11_put : ByteArray := prog_1_method_40_code
def yX11_put : MethodName := ⟨RX11, "put", "(III)I"⟩
abbrev cX11_cell : ByteArray := prog_1_method_41_code
def yX11_cell : MethodName := ⟨RX11, "cell", "(III)J"⟩
abbrev cX11_tell : ByteArray := prog_1_method_42_code
def yX11_tell : MethodName := ⟨RX11, "tell", "(I)I"⟩
abbrev cX11_roll : ByteArray := prog_1_method_43_code
def yX11_roll : MethodName := ⟨RX11, "roll", "(I)I"⟩
abbrev cX11_as : ByteArray := prog_1_method_44_code
def yX11_as : MethodName := ⟨RX11, "as", "(II)I"⟩
abbrev cX11_trace : ByteArray := prog_1_method_45_code
def yX11_trace : MethodName := ⟨RX11, "trace", "()I"⟩
abbrev cX11_fault : ByteArray := prog_1_method_46_code
def yX11_fault : MethodName := ⟨RX11, "fault", "()I"⟩
abbrev cX11_many : ByteArray := prog_1_method_47_code
def yX11_many : MethodName := ⟨RX11, "many", "(I)I"⟩
abbrev cX11_isWithin : ByteArray := prog_1_method_48_code
def yX11_isWithin : MethodName := ⟨RX11, "isWithin", "(III)Z"⟩
abbrev cX11_isSpot : ByteArray := prog_1_method_49_code
def yX11_isSpot : MethodName := ⟨RX11, "isSpot", "(II)Z"⟩
abbrev cX11_isDay : ByteArray := prog_1_method_50_code
def yX11_isDay : MethodName := ⟨RX11, "isDay", "(I)Z"⟩
abbrev cX11_areDays : ByteArray := prog_1_method_51_code
def yX11_areDays : MethodName := ⟨RX11, "areDays", "(II)Z"⟩
abbrev cX11_isYear : ByteArray := prog_1_method_52_code
def yX11_isYear : MethodName := ⟨RX11, "isYear", "(I)Z"⟩
abbrev cX11_isKind : ByteArray := prog_1_method_53_code
def yX11_isKind : MethodName := ⟨RX11, "isKind", "(I)Z"⟩
abbrev cX11_isLane : ByteArray := prog_1_method_54_code
def yX11_isLane : MethodName := ⟨RX11, "isLane", "(I)Z"⟩
abbrev cX11_isOffice : ByteArray := prog_1_method_55_code
def yX11_isOffice : MethodName := ⟨RX11, "isOffice", "(I)Z"⟩
abbrev cX11_isMan : ByteArray := prog_1_method_56_code
def yX11_isMan : MethodName := ⟨RX11, "isMan", "(I)Z"⟩
abbrev cX11_quotient : ByteArray := prog_1_method_57_code
def yX11_quotient : MethodName := ⟨RX11, "quotient", "(JJ)J"⟩
abbrev cX11_remainder : ByteArray := prog_1_method_58_code
def yX11_remainder : MethodName := ⟨RX11, "remainder", "(II)I"⟩
abbrev cX11_postAt : ByteArray := prog_1_method_59_code
def yX11_postAt : MethodName := ⟨RX11, "postAt", "(I)LCampYears$Post;"⟩
abbrev cX11_orderAt : ByteArray := prog_1_method_60_code
def yX11_orderAt : MethodName := ⟨RX11, "orderAt", "(I)LCampYears$Order;"⟩
abbrev cX11_sheetAt : ByteArray := prog_1_method_61_code
def yX11_sheetAt : MethodName := ⟨RX11, "sheetAt", "(I)LCampYears$Sheet;"⟩
abbrev cX11_noteFault : ByteArray := prog_1_method_62_code
def yX11_noteFault : MethodName := ⟨RX11, "noteFault", "(I)I"⟩
abbrev cX11_daysOnPosts : ByteArray := prog_1_method_63_code
def yX11_daysOnPosts : MethodName := ⟨RX11, "daysOnPosts", "(III)I"⟩
abbrev cX11_menAt : ByteArray := prog_1_method_64_code
def yX11_menAt : MethodName := ⟨RX11, "menAt", "(II)I"⟩
abbrev cX11_latestHeard : ByteArray := prog_1_method_65_code
def yX11_latestHeard : MethodName := ⟨RX11, "latestHeard", "(IIII)I"⟩
abbrev cX11_officesThatClaim : ByteArray := prog_1_method_66_code
def yX11_officesThatClaim : MethodName := ⟨RX11, "officesThatClaim", "(III)I"⟩
abbrev cX11_leaveInTrace : ByteArray := prog_1_method_67_code
def yX11_leaveInTrace : MethodName := ⟨RX11, "leaveInTrace", "(I)V"⟩
abbrev cX11_tellingOfPost : ByteArray := prog_1_method_68_code
def yX11_tellingOfPost : MethodName := ⟨RX11, "tellingOfPost", "(LCampYears$Post;)I"⟩
abbrev cX11_tellingOfLeader : ByteArray := prog_1_method_69_code
def yX11_tellingOfLeader : MethodName := ⟨RX11, "tellingOfLeader", "(LCampYears$Post;)I"⟩
abbrev cX11_tellingOfChief : ByteArray := prog_1_method_70_code
def yX11_tellingOfChief : MethodName := ⟨RX11, "tellingOfChief", "(LCampYears$Post;)I"⟩
def RX12 : String := "CampYearsModel"
def TX12 : u_T := fun k => match k with
  | 0 => ("CampYearsModel", "fault", "I", false)
  | 1 => ("CampYearsModel", "trace", "I", false)
  | 2 => ("CampYearsModel", "lanes", "[I", true)
  | 3 => ("CampYearsModel", "sheetLong", "[I", true)
  | 4 => ("CampYearsModel", "cells", "[I", true)
  | 5 => ("CampYearsModel", "camps", "I", false)
  | 6 => ("CampYearsModel", "campX", "[I", true)
  | 7 => ("CampYearsModel", "campY", "[I", true)
  | 8 => ("CampYearsModel", "bedsOf", "[I", true)
  | 9 => ("CampYearsModel", "men", "I", false)
  | 10 => ("CampYearsModel", "posts", "I", false)
  | 11 => ("CampYearsModel", "postKind", "[I", true)
  | 12 => ("CampYearsModel", "postMan", "[I", true)
  | 13 => ("CampYearsModel", "postCamp", "[I", true)
  | 14 => ("CampYearsModel", "postFrom", "[I", true)
  | 15 => ("CampYearsModel", "postTill", "[I", true)
  | 16 => ("CampYearsModel", "orders", "I", false)
  | 17 => ("CampYearsModel", "orderOffice", "[I", true)
  | 18 => ("CampYearsModel", "hourFrom", "[I", true)
  | 19 => ("CampYearsModel", "hourTo", "[I", true)
  | 20 => ("CampYearsModel", "dayFrom", "[I", true)
  | 21 => ("CampYearsModel", "dayTo", "[I", true)
  | 22 => ("CampYearsModel", "leftOut", "[I", true)
  | 23 => ("CampYearsModel", "given", "[I", true)
  | 24 => ("CampYearsModel", "delays", "[I", true)
  | 25 => ("CampYearsModel", "at", "I", false)
  | 26 => ("CampYearsModel", "end", "I", false)
  | 27 => ("CampYearsModel", "wrongAt", "I", false)
  | 28 => ("CampYearsModel", "rates", "[I", true)
  | 29 => ("CampYearsModel", "homeA", "I", false)
  | 30 => ("CampYearsModel", "homeB", "I", false)
  | 31 => ("CampYearsModel", "fines", "I", false)
  | 32 => ("CampYearsModel", "fineMan", "[I", true)
  | 33 => ("CampYearsModel", "fineDay", "[I", true)
  | 34 => ("CampYearsModel", "fineCents", "[I", true)
  | 35 => ("CampYearsModel", "works", "I", false)
  | 36 => ("CampYearsModel", "workCamp", "[I", true)
  | 37 => ("CampYearsModel", "needs", "[I", true)
  | 38 => ("CampYearsModel", "done", "[I", true)
  | 39 => ("CampYearsModel", "toolsOf", "[I", true)
  | 40 => ("CampYearsModel", "handsOf", "[I", true)
  | 41 => ("CampYearsModel", "noTool", "[I", true)
  | 42 => ("CampYearsModel", "noDay", "[I", true)
  | 43 => ("CampYearsModel", "counted", "[I", true)
  | 44 => ("CampYearsModel", "weather", "[I", true)
  | 45 => ("CampYearsModel", "weatherLong", "I", false)
  | 46 => ("CampYearsModel", "weeks", "I", false)
  | 47 => ("CampYearsModel", "levelA", "[I", true)
  | 48 => ("CampYearsModel", "levelB", "[I", true)
  | 49 => ("CampYearsModel", "shares", "[I", true)
  | 50 => ("CampYearsModel", "stands", "I", false)
  | 51 => ("CampYearsModel", "standKind", "[I", true)
  | 52 => ("CampYearsModel", "slopes", "[I", true)
  | 53 => ("CampYearsModel", "planted", "[I", true)
  | 54 => ("CampYearsModel", "plantedIn", "[I", true)
  | 55 => ("CampYearsModel", "fires", "I", false)
  | 56 => ("CampYearsModel", "fireX", "[I", true)
  | 57 => ("CampYearsModel", "fireY", "[I", true)
  | 58 => ("CampYearsModel", "fireNeed", "[I", true)
  | 59 => ("CampYearsModel", "spreads", "[I", true)
  | 60 => ("CampYearsModel", "crews", "[I", true)
  | 61 => ("CampYearsModel", "goes", "[I", true)
  | 62 => ("CampYearsModel", "hours", "[I", true)
  | 63 => ("CampYearsModel", "places", "I", false)
  | 64 => ("CampYearsModel", "placeX", "[I", true)
  | 65 => ("CampYearsModel", "placeY", "[I", true)
  | 66 => ("CampYearsModel", "reaches", "[I", true)
  | 67 => ("CampYearsModel", "hasWater", "[Z", true)
  | 68 => ("CampYearsModel", "most", "[J", true)
  | 69 => ("CampYearsModel", "toX", "[I", true)
  | _ => ("CampYearsModel", "toY", "[I", true)
def tyX12 : Nat → FieldType := fun k => match k with
  | 0 => .int
  | 1 => .int
  | 2 => .array .int
  | 3 => .array .int
  | 4 => .array .int
  | 5 => .int
  | 6 => .array .int
  | 7 => .array .int
  | 8 => .array .int
  | 9 => .int
  | 10 => .int
  | 11 => .array .int
  | 12 => .array .int
  | 13 => .array .int
  | 14 => .array .int
  | 15 => .array .int
  | 16 => .int
  | 17 => .array .int
  | 18 => .array .int
  | 19 => .array .int
  | 20 => .array .int
  | 21 => .array .int
  | 22 => .array .int
  | 23 => .array .int
  | 24 => .array .int
  | 25 => .int
  | 26 => .int
  | 27 => .int
  | 28 => .array .int
  | 29 => .int
  | 30 => .int
  | 31 => .int
  | 32 => .array .int
  | 33 => .array .int
  | 34 => .array .int
  | 35 => .int
  | 36 => .array .int
  | 37 => .array .int
  | 38 => .array .int
  | 39 => .array .int
  | 40 => .array .int
  | 41 => .array .int
  | 42 => .array .int
  | 43 => .array .int
  | 44 => .array .int
  | 45 => .int
  | 46 => .int
  | 47 => .array .int
  | 48 => .array .int
  | 49 => .array .int
  | 50 => .int
  | 51 => .array .int
  | 52 => .array .int
  | 53 => .array .int
  | 54 => .array .int
  | 55 => .int
  | 56 => .array .int
  | 57 => .array .int
  | 58 => .array .int
  | 59 => .array .int
  | 60 => .array .int
  | 61 => .array .int
  | 62 => .array .int
  | 63 => .int
  | 64 => .array .int
  | 65 => .array .int
  | 66 => .array .int
  | 67 => .array .boolean
  | 68 => .array .long
  | 69 => .array .int
  | _ => .array .int
abbrev wsX120 : List Cond := u_ws RX12 TX12 71
theorem nmX12 : ∀ a, a < 71 → ∀ b, b < 71 → a ≠ b → (TX12 a).2.1 ≠ (TX12 b).2.1 := by decide +kernel
theorem tyX12_ok : ∀ k, k < 71 → parseFieldDescriptor (TX12 k).2.2.1 = some (tyX12 k) := by decide +kernel
abbrev cX12_init : ByteArray := prog_14_method_1_code
def yX12_init : MethodName := ⟨RX12, "<init>", "()V"⟩
abbrev cX12_fails : ByteArray := prog_14_method_3_code
def yX12_fails : MethodName := ⟨RX12, "fails", "(I)I"⟩
abbrev cX12_lostBeing : ByteArray := prog_14_method_4_code
def yX12_lostBeing : MethodName := ⟨RX12, "lostBeing", "(I)J"⟩
abbrev cX12_within : ByteArray := prog_14_method_5_code
def yX12_within : MethodName := ⟨RX12, "within", "(III)Z"⟩
abbrev cX12_size : ByteArray := prog_14_method_6_code
def yX12_size : MethodName := ⟨RX12, "size", "(I)I"⟩
abbrev cX12_isDay : ByteArray := prog_14_method_7_code
def yX12_isDay : MethodName := ⟨RX12, "isDay", "(I)Z"⟩
abbrev cX12_isSheet : ByteArray := prog_14_method_8_code
def yX12_isSheet : MethodName := ⟨RX12, "isSheet", "(I)Z"⟩
abbrev cX12_isLane : ByteArray := prog_14_method_9_code
def yX12_isLane : MethodName := ⟨RX12, "isLane", "(I)Z"⟩
abbrev cX12_against : ByteArray := prog_14_method_10_code
def yX12_against : MethodName := ⟨RX12, "against", "(IIII)I"⟩
abbrev cX12_isCamp : ByteArray := prog_14_method_11_code
def yX12_isCamp : MethodName := ⟨RX12, "isCamp", "(I)Z"⟩
abbrev cX12_isMan : ByteArray := prog_14_method_12_code
def yX12_isMan : MethodName := ⟨RX12, "isMan", "(I)Z"⟩
abbrev cX12_isPost : ByteArray := prog_14_method_13_code
def yX12_isPost : MethodName := ⟨RX12, "isPost", "(I)Z"⟩
abbrev cX12_isSpot : ByteArray := prog_14_method_14_code
def yX12_isSpot : MethodName := ⟨RX12, "isSpot", "(II)Z"⟩
abbrev cX12_camp : ByteArray := prog_14_method_15_code
def yX12_camp : MethodName := ⟨RX12, "camp", "(III)I"⟩
abbrev cX12_man : ByteArray := prog_14_method_16_code
def yX12_man : MethodName := ⟨RX12, "man", "()I"⟩
abbrev cX12_areDays : ByteArray := prog_14_method_17_code
def yX12_areDays : MethodName := ⟨RX12, "areDays", "(II)Z"⟩
abbrev cX12_post : ByteArray := prog_14_method_18_code
def yX12_post : MethodName := ⟨RX12, "post", "(IIIII)I"⟩
abbrev cX12_postOn : ByteArray := prog_14_method_19_code
def yX12_postOn : MethodName := ⟨RX12, "postOn", "(II)I"⟩
abbrev cX12_day : ByteArray := prog_14_method_20_code
def yX12_day : MethodName := ⟨RX12, "day", "(II)I"⟩
abbrev cX12_menAt : ByteArray := prog_14_method_21_code
def yX12_menAt : MethodName := ⟨RX12, "menAt", "(II)I"⟩
abbrev cX12_beds : ByteArray := prog_14_method_22_code
def yX12_beds : MethodName := ⟨RX12, "beds", "(II)I"⟩
abbrev cX12_over : ByteArray := prog_14_method_23_code
def yX12_over : MethodName := ⟨RX12, "over", "(I)I"⟩
abbrev cX12_isSign : ByteArray := prog_14_method_24_code
def yX12_isSign : MethodName := ⟨RX12, "isSign", "(I)Z"⟩
abbrev cX12_number : ByteArray := prog_14_method_25_code
def yX12_number : MethodName := ⟨RX12, "number", "(III)I"⟩
abbrev cX12_reads : ByteArray := prog_14_method_26_code
def yX12_reads : MethodName := ⟨RX12, "reads", "(II)Z"⟩
abbrev cX12_order : ByteArray := prog_14_method_27_code
def yX12_order : MethodName := ⟨RX12, "order", "(IIIII)I"⟩
abbrev cX12_ofOrder : ByteArray := prog_14_method_28_code
def yX12_ofOrder : MethodName := ⟨RX12, "ofOrder", "(II)I"⟩
abbrev cX12_isOffice : ByteArray := prog_14_method_29_code
def yX12_isOffice : MethodName := ⟨RX12, "isOffice", "(I)Z"⟩
abbrev cX12_delay : ByteArray := prog_14_method_30_code
def yX12_delay : MethodName := ⟨RX12, "delay", "(II)I"⟩
abbrev cX12_whyOf : ByteArray := prog_14_method_31_code
def yX12_whyOf : MethodName := ⟨RX12, "whyOf", "(IIII)I"⟩
abbrev cX12_wordOf : ByteArray := prog_14_method_32_code
def yX12_wordOf : MethodName := ⟨RX12, "wordOf", "(IIII)I"⟩
abbrev cX12_word : ByteArray := prog_14_method_33_code
def yX12_word : MethodName := ⟨RX12, "word", "(IIII)I"⟩
abbrev cX12_why : ByteArray := prog_14_method_34_code
def yX12_why : MethodName := ⟨RX12, "why", "(IIII)I"⟩
abbrev cX12_quarrel : ByteArray := prog_14_method_35_code
def yX12_quarrel : MethodName := ⟨RX12, "quarrel", "(II)I"⟩
abbrev cX12_rate : ByteArray := prog_14_method_36_code
def yX12_rate : MethodName := ⟨RX12, "rate", "(II)I"⟩
abbrev cX12_home : ByteArray := prog_14_method_37_code
def yX12_home : MethodName := ⟨RX12, "home", "(II)I"⟩
abbrev cX12_fine : ByteArray := prog_14_method_38_code
def yX12_fine : MethodName := ⟨RX12, "fine", "(III)I"⟩
abbrev cX12_pay : ByteArray := prog_14_method_39_code
def yX12_pay : MethodName := ⟨RX12, "pay", "(IIII)I"⟩
abbrev cX12_isWork : ByteArray := prog_14_method_40_code
def yX12_isWork : MethodName := ⟨RX12, "isWork", "(I)Z"⟩
abbrev cX12_work : ByteArray := prog_14_method_41_code
def yX12_work : MethodName := ⟨RX12, "work", "(III)I"⟩
abbrev cX12_hands : ByteArray := prog_14_method_42_code
def yX12_hands : MethodName := ⟨RX12, "hands", "(III)I"⟩
abbrev cX12_row : ByteArray := prog_14_method_43_code
def yX12_row : MethodName := ⟨RX12, "row", "(IIIII)I"⟩
abbrev cX12_week : ByteArray := prog_14_method_44_code
def yX12_week : MethodName := ⟨RX12, "week", "()I"⟩
abbrev cX12_ofWork : ByteArray := prog_14_method_45_code
def yX12_ofWork : MethodName := ⟨RX12, "ofWork", "(II)I"⟩
abbrev cX12_level : ByteArray := prog_14_method_46_code
def yX12_level : MethodName := ⟨RX12, "level", "(III)I"⟩
abbrev cX12_toldBy : ByteArray := prog_14_method_47_code
def yX12_toldBy : MethodName := ⟨RX12, "toldBy", "(II)J"⟩
abbrev cX12_told : ByteArray := prog_14_method_48_code
def yX12_told : MethodName := ⟨RX12, "told", "(II)J"⟩
abbrev cX12_grew : ByteArray := prog_14_method_49_code
def yX12_grew : MethodName := ⟨RX12, "grew", "(I)I"⟩
abbrev cX12_stand : ByteArray := prog_14_method_50_code
def yX12_stand : MethodName := ⟨RX12, "stand", "(IIII)I"⟩
abbrev cX12_liveOf : ByteArray := prog_14_method_51_code
def yX12_liveOf : MethodName := ⟨RX12, "liveOf", "(II)I"⟩
abbrev cX12_live : ByteArray := prog_14_method_52_code
def yX12_live : MethodName := ⟨RX12, "live", "(II)I"⟩
abbrev cX12_forest : ByteArray := prog_14_method_53_code
def yX12_forest : MethodName := ⟨RX12, "forest", "(II)J"⟩
abbrev cX12_fire : ByteArray := prog_14_method_54_code
def yX12_fire : MethodName := ⟨RX12, "fire", "(IIII)I"⟩
abbrev cX12_crew : ByteArray := prog_14_method_55_code
def yX12_crew : MethodName := ⟨RX12, "crew", "(II)I"⟩
abbrev cX12_layHours : ByteArray := prog_14_method_56_code
def yX12_layHours : MethodName := ⟨RX12, "layHours", "()V"⟩
abbrev cX12_calls : ByteArray := prog_14_method_57_code
def yX12_calls : MethodName := ⟨RX12, "calls", "()I"⟩
abbrev cX12_layCall : ByteArray := prog_14_method_58_code
def yX12_layCall : MethodName := ⟨RX12, "layCall", "(I)V"⟩
abbrev cX12_heldIn : ByteArray := prog_14_method_59_code
def yX12_heldIn : MethodName := ⟨RX12, "heldIn", "(I)I"⟩
abbrev cX12_lostBy : ByteArray := prog_14_method_60_code
def yX12_lostBy : MethodName := ⟨RX12, "lostBy", "(I)I"⟩
abbrev cX12_handsThatGo : ByteArray := prog_14_method_61_code
def yX12_handsThatGo : MethodName := ⟨RX12, "handsThatGo", "()I"⟩
abbrev cX12_lost : ByteArray := prog_14_method_62_code
def yX12_lost : MethodName := ⟨RX12, "lost", "(I)I"⟩
abbrev cX12_call : ByteArray := prog_14_method_63_code
def yX12_call : MethodName := ⟨RX12, "call", "(I)I"⟩
abbrev cX12_place : ByteArray := prog_14_method_64_code
def yX12_place : MethodName := ⟨RX12, "place", "(IIIZ)I"⟩
abbrev cX12_bitsOf : ByteArray := prog_14_method_65_code
def yX12_bitsOf : MethodName := ⟨RX12, "bitsOf", "(I)I"⟩
abbrev cX12_gainOf : ByteArray := prog_14_method_66_code
def yX12_gainOf : MethodName := ⟨RX12, "gainOf", "(II)J"⟩
abbrev cX12_layMoves : ByteArray := prog_14_method_67_code
def yX12_layMoves : MethodName := ⟨RX12, "layMoves", "()V"⟩
abbrev cX12_placeOf : ByteArray := prog_14_method_68_code
def yX12_placeOf : MethodName := ⟨RX12, "placeOf", "(I)I"⟩
abbrev cX12_move : ByteArray := prog_14_method_69_code
def yX12_move : MethodName := ⟨RX12, "move", "(I)J"⟩
abbrev cX12_gain : ByteArray := prog_14_method_70_code
def yX12_gain : MethodName := ⟨RX12, "gain", "(IIII)J"⟩
abbrev cX12_go : ByteArray := prog_14_method_71_code
def yX12_go : MethodName := ⟨RX12, "go", "()I"⟩
abbrev cX12_spot : ByteArray := prog_14_method_72_code
def yX12_spot : MethodName := ⟨RX12, "spot", "(II)I"⟩
abbrev cX12_sheet : ByteArray := prog_14_method_73_code
def yX12_sheet : MethodName := ⟨RX12, "sheet", "(III)I"⟩
abbrev cX12_lose : ByteArray := prog_14_method_74_code
def yX12_lose : MethodName := ⟨RX12, "lose", "(I)I"⟩
abbrev cX12_put : ByteArray := prog_14_method_75_code
def yX12_put : MethodName := ⟨RX12, "put", "(III)I"⟩
abbrev cX12_cell : ByteArray := prog_14_method_76_code
def yX12_cell : MethodName := ⟨RX12, "cell", "(III)J"⟩
abbrev cX12_begins : ByteArray := prog_14_method_77_code
def yX12_begins : MethodName := ⟨RX12, "begins", "(I)V"⟩
abbrev cX12_tell : ByteArray := prog_14_method_78_code
def yX12_tell : MethodName := ⟨RX12, "tell", "(I)I"⟩
abbrev cX12_roll : ByteArray := prog_14_method_79_code
def yX12_roll : MethodName := ⟨RX12, "roll", "(I)I"⟩
abbrev cX12_as : ByteArray := prog_14_method_80_code
def yX12_as : MethodName := ⟨RX12, "as", "(II)I"⟩
abbrev cX12_trace : ByteArray := prog_14_method_81_code
def yX12_trace : MethodName := ⟨RX12, "trace", "()I"⟩
abbrev cX12_fault : ByteArray := prog_14_method_82_code
def yX12_fault : MethodName := ⟨RX12, "fault", "()I"⟩
abbrev cX12_many : ByteArray := prog_14_method_83_code
def yX12_many : MethodName := ⟨RX12, "many", "(I)I"⟩
def RJ6 : String := "java/lang/Integer"
def TJ6 : u_T := fun k => match k with
  | _ => ("", "", "", false)
def tyJ6 : Nat → FieldType := fun k => match k with
  | _ => .int
abbrev wsJ60 : List Cond := u_ws RJ6 TJ6 0
theorem nmJ6 : ∀ a, a < 0 → ∀ b, b < 0 → a ≠ b → (TJ6 a).2.1 ≠ (TJ6 b).2.1 := by decide +kernel
theorem tyJ6_ok : ∀ k, k < 0 → parseFieldDescriptor (TJ6 k).2.2.1 = some (tyJ6 k) := by decide +kernel
abbrev cJ6_bitCount_0f7a4 : ByteArray := prog_15_method_49_code
def yJ6_bitCount_0f7a4 : MethodName := ⟨RJ6, "bitCount", "(I)I"⟩
def RJ9 : String := "java/lang/Math"
def TJ9 : u_T := fun k => match k with
  | _ => ("", "", "", false)
def tyJ9 : Nat → FieldType := fun k => match k with
  | _ => .int
abbrev wsJ90 : List Cond := u_ws RJ9 TJ9 0
theorem nmJ9 : ∀ a, a < 0 → ∀ b, b < 0 → a ≠ b → (TJ9 a).2.1 ≠ (TJ9 b).2.1 := by decide +kernel
theorem tyJ9_ok : ∀ k, k < 0 → parseFieldDescriptor (TJ9 k).2.2.1 = some (tyJ9 k) := by decide +kernel
abbrev cJ9_floorMod_7cf53 : ByteArray := prog_16_method_50_code
def yJ9_floorMod_7cf53 : MethodName := ⟨RJ9, "floorMod", "(II)I"⟩
abbrev cJ9_abs_0f7a4 : ByteArray := prog_16_method_59_code
def yJ9_abs_0f7a4 : MethodName := ⟨RJ9, "abs", "(I)I"⟩
abbrev cJ9_max_7cf53 : ByteArray := prog_16_method_65_code
def yJ9_max_7cf53 : MethodName := ⟨RJ9, "max", "(II)I"⟩
abbrev cJ9_min_7cf53 : ByteArray := prog_16_method_69_code
def yJ9_min_7cf53 : MethodName := ⟨RJ9, "min", "(II)I"⟩
abbrev cJ9_min_f86c9 : ByteArray := prog_16_method_70_code
def yJ9_min_f86c9 : MethodName := ⟨RJ9, "min", "(JJ)J"⟩
def RJ7 : String := "java/util/Arrays"
def TJ7 : u_T := fun k => match k with
  | _ => ("", "", "", false)
def tyJ7 : Nat → FieldType := fun k => match k with
  | _ => .int
abbrev wsJ70 : List Cond := u_ws RJ7 TJ7 0
theorem nmJ7 : ∀ a, a < 0 → ∀ b, b < 0 → a ≠ b → (TJ7 a).2.1 ≠ (TJ7 b).2.1 := by decide +kernel
theorem tyJ7_ok : ∀ k, k < 0 → parseFieldDescriptor (TJ7 k).2.2.1 = some (tyJ7 k) := by decide +kernel
abbrev cJ7_fill_d0a16 : ByteArray := prog_17_method_101_code
def yJ7_fill_d0a16 : MethodName := ⟨RJ7, "fill", "([JJ)V"⟩
abbrev cJ7_fill_53178 : ByteArray := prog_17_method_103_code
def yJ7_fill_53178 : MethodName := ⟨RJ7, "fill", "([II)V"⟩
def RL : String := "CampYearsLaw"
abbrev cL_law : ByteArray := code
def yL_law : MethodName := ⟨RL, "law", "([I)Z"⟩
end
section
/-- the words that outlast a call: those of lw_tbl that are good -/
def gw : List Cond := lw_tbl.filter goodWord
theorem gw_t {w : Cond} (h : w ∈ tables_1) (hg : goodWord w = true) : w ∈ gw := List.mem_filter.mpr ⟨List.mem_append_right _ h, hg⟩
theorem gw_1 {w : Cond} (i : Nat) (h0 : tables_1_1[i]? = some w) (hg : goodWord w = true) : w ∈ gw := gw_t (have h := List.mem_of_getElem? h0; List.mem_append_left _ h) hg
theorem tb_1 {w : Cond} (i : Nat) (h0 : tables_1_1[i]? = some w) : w ∈ lw_tbl := List.mem_append_right _ (have h := List.mem_of_getElem? h0; List.mem_append_left _ h)
theorem gw_2 {w : Cond} (i : Nat) (h0 : tables_1_2[i]? = some w) (hg : goodWord w = true) : w ∈ gw := gw_t (have h := List.mem_of_getElem? h0; List.mem_append_right _ (List.mem_append_left _ h)) hg
theorem tb_2 {w : Cond} (i : Nat) (h0 : tables_1_2[i]? = some w) : w ∈ lw_tbl := List.mem_append_right _ (have h := List.mem_of_getElem? h0; List.mem_append_right _ (List.mem_append_left _ h))
theorem gw_3 {w : Cond} (i : Nat) (h0 : tables_1_3[i]? = some w) (hg : goodWord w = true) : w ∈ gw := gw_t (have h := List.mem_of_getElem? h0; List.mem_append_right _ (List.mem_append_right _ (List.mem_append_left _ h))) hg
theorem tb_3 {w : Cond} (i : Nat) (h0 : tables_1_3[i]? = some w) : w ∈ lw_tbl := List.mem_append_right _ (have h := List.mem_of_getElem? h0; List.mem_append_right _ (List.mem_append_right _ (List.mem_append_left _ h)))
theorem gw_4 {w : Cond} (i : Nat) (h0 : tables_1_4[i]? = some w) (hg : goodWord w = true) : w ∈ gw := gw_t (have h := List.mem_of_getElem? h0; List.mem_append_right _ (List.mem_append_right _ (List.mem_append_right _ (List.mem_append_left _ h)))) hg
theorem tb_4 {w : Cond} (i : Nat) (h0 : tables_1_4[i]? = some w) : w ∈ lw_tbl := List.mem_append_right _ (have h := List.mem_of_getElem? h0; List.mem_append_right _ (List.mem_append_right _ (List.mem_append_right _ (List.mem_append_left _ h))))
theorem gw_5 {w : Cond} (i : Nat) (h0 : tables_1_5[i]? = some w) (hg : goodWord w = true) : w ∈ gw := gw_t (have h := List.mem_of_getElem? h0; List.mem_append_right _ (List.mem_append_right _ (List.mem_append_right _ (List.mem_append_right _ (List.mem_append_left _ h))))) hg
theorem tb_5 {w : Cond} (i : Nat) (h0 : tables_1_5[i]? = some w) : w ∈ lw_tbl := List.mem_append_right _ (have h := List.mem_of_getElem? h0; List.mem_append_right _ (List.mem_append_right _ (List.mem_append_right _ (List.mem_append_right _ (List.mem_append_left _ h)))))
theorem gw_6 {w : Cond} (i : Nat) (h0 : tables_1_6[i]? = some w) (hg : goodWord w = true) : w ∈ gw := gw_t (have h := List.mem_of_getElem? h0; List.mem_append_right _ (List.mem_append_right _ (List.mem_append_right _ (List.mem_append_right _ (List.mem_append_right _ (List.mem_append_left _ h)))))) hg
theorem tb_6 {w : Cond} (i : Nat) (h0 : tables_1_6[i]? = some w) : w ∈ lw_tbl := List.mem_append_right _ (have h := List.mem_of_getElem? h0; List.mem_append_right _ (List.mem_append_right _ (List.mem_append_right _ (List.mem_append_right _ (List.mem_append_right _ (List.mem_append_left _ h))))))
theorem gw_7 {w : Cond} (i : Nat) (h0 : tables_1_7[i]? = some w) (hg : goodWord w = true) : w ∈ gw := gw_t (have h := List.mem_of_getElem? h0; List.mem_append_right _ (List.mem_append_right _ (List.mem_append_right _ (List.mem_append_right _ (List.mem_append_right _ (List.mem_append_right _ (h))))))) hg
theorem tb_7 {w : Cond} (i : Nat) (h0 : tables_1_7[i]? = some w) : w ∈ lw_tbl := List.mem_append_right _ (have h := List.mem_of_getElem? h0; List.mem_append_right _ (List.mem_append_right _ (List.mem_append_right _ (List.mem_append_right _ (List.mem_append_right _ (List.mem_append_right _ (h)))))))
theorem gw_s {q : MethodName × Nat} (h : q ∈ lw_privs) : Cond.selects q.1.cls q.1 q.1 ∈ gw := List.mem_filter.mpr ⟨List.mem_append_left _ (List.mem_map.mpr ⟨q, h, rfl⟩), rfl⟩
theorem gw_ok : ∀ w ∈ gw, (w.onTables && w.keeps) = true ∨ ∃ ty, w = .arrayClass ty := fun w h => good_of_word (List.mem_filter.mp h).2
theorem gw_hts {av : Array Value} {s : State} (h : ∀ w ∈ lw_tbl, w.before av s = true) : ∀ w ∈ gw, w.before av s = true := fun w hw => h w (List.mem_filter.mp hw).1
theorem ii_RL : Cond.initialized RL ∈ gw := gw_1 0 rfl rfl
theorem ii_RX11 : Cond.initialized RX11 ∈ gw := gw_1 1 rfl rfl
theorem ii_RX0 : Cond.initialized RX0 ∈ gw := gw_1 2 rfl rfl
theorem ii_RX4 : Cond.initialized RX4 ∈ gw := gw_1 3 rfl rfl
theorem ii_RX10 : Cond.initialized RX10 ∈ gw := gw_1 4 rfl rfl
theorem ii_RX8 : Cond.initialized RX8 ∈ gw := gw_1 5 rfl rfl
theorem ii_RJ7 : Cond.initialized RJ7 ∈ gw := gw_1 6 rfl rfl
theorem ii_RX1 : Cond.initialized RX1 ∈ gw := gw_1 7 rfl rfl
theorem ii_RX5 : Cond.initialized RX5 ∈ gw := gw_1 8 rfl rfl
theorem ii_RX7 : Cond.initialized RX7 ∈ gw := gw_1 9 rfl rfl
theorem ii_RX12 : Cond.initialized RX12 ∈ gw := gw_1 10 rfl rfl
theorem ii_RJ9 : Cond.initialized RJ9 ∈ gw := gw_1 11 rfl rfl
theorem ii_RX6 : Cond.initialized RX6 ∈ gw := gw_1 12 rfl rfl
theorem ii_RX3 : Cond.initialized RX3 ∈ gw := gw_1 13 rfl rfl
theorem ii_RX2 : Cond.initialized RX2 ∈ gw := gw_1 14 rfl rfl
theorem ii_RX9 : Cond.initialized RX9 ∈ gw := gw_1 15 rfl rfl
theorem ii_RJ6 : Cond.initialized RJ6 ∈ gw := gw_1 16 rfl rfl
theorem cl_RL_7 : Cond.classLink RL 7 RX11 ∈ gw := gw_1 17 rfl rfl
theorem it_RX11 : Cond.instantiable RX11 15 ∈ gw := gw_1 18 rfl rfl
theorem ml_RL_9 : Cond.methodLink RL 9 yX11_init ∈ gw := gw_1 19 rfl rfl
theorem im_X11_init : Cond.instanceMethod yX11_init ∈ gw := gw_1 20 rfl rfl
theorem cd_X11_init : Cond.code yX11_init cX11_init 2 none ∈ gw := gw_1 21 rfl rfl
theorem ml_RX11_3 : Cond.methodLink RX11 3 Lib.objectInit ∈ gw := gw_1 22 rfl rfl
theorem im_objInit : Cond.instanceMethod Lib.objectInit ∈ gw := gw_1 23 rfl rfl
theorem cd_objInit : Cond.code Lib.objectInit ⟨#[0xb1]⟩ 1 none ∈ gw := gw_1 24 rfl rfl
theorem cl_RX11_9 : Cond.classLink RX11 9 RX0 ∈ gw := gw_1 25 rfl rfl
theorem it_RX0 : Cond.instantiable RX0 5 ∈ gw := gw_1 26 rfl rfl
theorem im_X0_init : Cond.instanceMethod yX0_init ∈ gw := gw_1 28 rfl rfl
theorem cd_X0_init : Cond.code yX0_init cX0_init 1 none ∈ gw := gw_1 29 rfl rfl
theorem ml_RX0_3 : Cond.methodLink RX0 3 Lib.objectInit ∈ gw := gw_1 30 rfl rfl
theorem fl_RX0_9 : Cond.fieldLink RX0 9 "CampYears$Camps" "x" "[I" ∈ gw := gw_1 31 rfl rfl
theorem fl_RX5_49 : Cond.fieldLink RX5 49 "CampYears$Camps" "x" "[I" ∈ gw := gw_1 32 rfl rfl
theorem fl_RX11_326 : Cond.fieldLink RX11 326 "CampYears$Camps" "x" "[I" ∈ gw := gw_1 33 rfl rfl
theorem fl_RX0_15 : Cond.fieldLink RX0 15 "CampYears$Camps" "y" "[I" ∈ gw := gw_1 34 rfl rfl
theorem fl_RX5_50 : Cond.fieldLink RX5 50 "CampYears$Camps" "y" "[I" ∈ gw := gw_1 35 rfl rfl
theorem fl_RX11_329 : Cond.fieldLink RX11 329 "CampYears$Camps" "y" "[I" ∈ gw := gw_1 36 rfl rfl
theorem fl_RX0_18 : Cond.fieldLink RX0 18 "CampYears$Camps" "beds" "[I" ∈ gw := gw_1 37 rfl rfl
theorem fl_RX11_133 : Cond.fieldLink RX11 133 "CampYears$Camps" "beds" "[I" ∈ gw := gw_1 38 rfl rfl
theorem fl_RX0_21 : Cond.fieldLink RX0 21 "CampYears$Camps" "crew" "[I" ∈ gw := gw_1 39 rfl rfl
theorem fl_RX1_89 : Cond.fieldLink RX1 89 "CampYears$Camps" "crew" "[I" ∈ gw := gw_1 40 rfl rfl
theorem fl_RX11_277 : Cond.fieldLink RX11 277 "CampYears$Camps" "crew" "[I" ∈ gw := gw_1 41 rfl rfl
theorem fl_RX0_24 : Cond.fieldLink RX0 24 "CampYears$Camps" "count" "I" ∈ gw := gw_1 42 rfl rfl
theorem fl_RX1_41 : Cond.fieldLink RX1 41 "CampYears$Camps" "count" "I" ∈ gw := gw_1 43 rfl rfl
theorem fl_RX5_42 : Cond.fieldLink RX5 42 "CampYears$Camps" "count" "I" ∈ gw := gw_1 44 rfl rfl
theorem fl_RX11_155 : Cond.fieldLink RX11 155 "CampYears$Camps" "count" "I" ∈ gw := gw_1 45 rfl rfl
theorem ac_int : Cond.arrayClass .int ∈ gw := gw_1 57 rfl rfl
theorem cl_RX11_18 : Cond.classLink RX11 18 RX6 ∈ gw := gw_1 58 rfl rfl
theorem ao_RX6 : Cond.arrayOver (.object "CampYears$Post") ∈ lw_tbl := tb_1 59 rfl
theorem cl_RX11_28 : Cond.classLink RX11 28 RX2 ∈ gw := gw_1 60 rfl rfl
theorem ao_RX2 : Cond.arrayOver (.object "CampYears$Order") ∈ lw_tbl := tb_1 61 rfl
theorem cl_RX11_34 : Cond.classLink RX11 34 RX4 ∈ gw := gw_1 62 rfl rfl
theorem it_RX4 : Cond.instantiable RX4 7 ∈ gw := gw_1 63 rfl rfl
theorem im_X4_init : Cond.instanceMethod yX4_init ∈ gw := gw_1 65 rfl rfl
theorem cd_X4_init : Cond.code yX4_init cX4_init 1 none ∈ gw := gw_1 66 rfl rfl
theorem ml_RX4_3 : Cond.methodLink RX4 3 Lib.objectInit ∈ gw := gw_1 67 rfl rfl
theorem fl_RX4_9 : Cond.fieldLink RX4 9 "CampYears$Payroll" "rates" "[I" ∈ gw := gw_1 68 rfl rfl
theorem fl_RX11_200 : Cond.fieldLink RX11 200 "CampYears$Payroll" "rates" "[I" ∈ gw := gw_1 69 rfl rfl
theorem fl_RX4_15 : Cond.fieldLink RX4 15 "CampYears$Payroll" "homeShare" "I" ∈ gw := gw_1 70 rfl rfl
theorem fl_RX4_19 : Cond.fieldLink RX4 19 "CampYears$Payroll" "homeBy" "I" ∈ gw := gw_1 71 rfl rfl
theorem fl_RX4_22 : Cond.fieldLink RX4 22 "CampYears$Payroll" "fineMan" "[I" ∈ gw := gw_1 72 rfl rfl
theorem fl_RX4_25 : Cond.fieldLink RX4 25 "CampYears$Payroll" "fineDay" "[I" ∈ gw := gw_1 73 rfl rfl
theorem fl_RX4_28 : Cond.fieldLink RX4 28 "CampYears$Payroll" "fineCents" "[I" ∈ gw := gw_1 74 rfl rfl
theorem fl_RX4_31 : Cond.fieldLink RX4 31 "CampYears$Payroll" "fineCount" "I" ∈ gw := gw_1 75 rfl rfl
theorem fl_RX11_372 : Cond.fieldLink RX11 372 "CampYears$Payroll" "fineCount" "I" ∈ gw := gw_1 76 rfl rfl
theorem cl_RX11_41 : Cond.classLink RX11 41 RX10 ∈ gw := gw_1 92 rfl rfl
theorem it_RX10 : Cond.instantiable RX10 7 ∈ gw := gw_1 93 rfl rfl
theorem im_X10_init : Cond.instanceMethod yX10_init ∈ gw := gw_1 95 rfl rfl
theorem cd_X10_init : Cond.code yX10_init cX10_init 1 none ∈ gw := gw_1 96 rfl rfl
theorem ml_RX10_3 : Cond.methodLink RX10 3 Lib.objectInit ∈ gw := gw_1 97 rfl rfl
theorem cl_RX10_11 : Cond.classLink RX10 11 RX9 ∈ gw := gw_1 98 rfl rfl
theorem ao_RX9 : Cond.arrayOver (.object "CampYears$Work") ∈ lw_tbl := tb_1 99 rfl
theorem fl_RX10_13 : Cond.fieldLink RX10 13 "CampYears$Works" "works" "[LCampYears$Work;" ∈ gw := gw_1 100 rfl rfl
theorem fl_RX10_35 : Cond.fieldLink RX10 35 "CampYears$Works" "count" "I" ∈ gw := gw_1 101 rfl rfl
theorem fl_RX11_375 : Cond.fieldLink RX11 375 "CampYears$Works" "count" "I" ∈ gw := gw_1 102 rfl rfl
theorem fl_RX10_17 : Cond.fieldLink RX10 17 "CampYears$Works" "weather" "[I" ∈ gw := gw_1 103 rfl rfl
theorem fl_RX10_21 : Cond.fieldLink RX10 21 "CampYears$Works" "weatherCount" "I" ∈ gw := gw_1 104 rfl rfl
theorem fl_RX10_50 : Cond.fieldLink RX10 50 "CampYears$Works" "weeks" "I" ∈ gw := gw_1 105 rfl rfl
theorem fl_RX11_376 : Cond.fieldLink RX11 376 "CampYears$Works" "weeks" "I" ∈ gw := gw_1 106 rfl rfl
theorem fl_RX10_25 : Cond.fieldLink RX10 25 "CampYears$Works" "tellsOn" "[I" ∈ gw := gw_1 107 rfl rfl
theorem fl_RX10_28 : Cond.fieldLink RX10 28 "CampYears$Works" "tellsBy" "[I" ∈ gw := gw_1 108 rfl rfl
theorem cl_RX11_48 : Cond.classLink RX11 48 RX8 ∈ gw := gw_1 124 rfl rfl
theorem it_RX8 : Cond.instantiable RX8 6 ∈ gw := gw_1 125 rfl rfl
theorem ml_RX11_50 : Cond.methodLink RX11 50 yX8_init ∈ gw := gw_1 126 rfl rfl
theorem im_X8_init : Cond.instanceMethod yX8_init ∈ gw := gw_1 127 rfl rfl
theorem cd_X8_init : Cond.code yX8_init cX8_init 1 none ∈ gw := gw_1 128 rfl rfl
theorem ml_RX8_3 : Cond.methodLink RX8 3 Lib.objectInit ∈ gw := gw_1 129 rfl rfl
theorem ml_RX8_27 : Cond.methodLink RX8 27 yJ7_fill_53178 ∈ gw := gw_1 130 rfl rfl
theorem sm_J7_fill_53178 : Cond.static yJ7_fill_53178 ∈ gw := gw_1 131 rfl rfl
theorem cd_J7_fill_53178 : Cond.code yJ7_fill_53178 cJ7_fill_53178 4 none ∈ gw := gw_1 132 rfl rfl
theorem fl_RX8_11 : Cond.fieldLink RX8 11 "CampYears$Trees" "kind" "[I" ∈ gw := gw_1 133 rfl rfl
theorem fl_RX8_15 : Cond.fieldLink RX8 15 "CampYears$Trees" "slope" "[I" ∈ gw := gw_1 134 rfl rfl
theorem fl_RX8_18 : Cond.fieldLink RX8 18 "CampYears$Trees" "planted" "[I" ∈ gw := gw_1 135 rfl rfl
theorem fl_RX8_21 : Cond.fieldLink RX8 21 "CampYears$Trees" "year" "[I" ∈ gw := gw_1 136 rfl rfl
theorem fl_RX8_33 : Cond.fieldLink RX8 33 "CampYears$Trees" "count" "I" ∈ gw := gw_1 137 rfl rfl
theorem fl_RX11_379 : Cond.fieldLink RX11 379 "CampYears$Trees" "count" "I" ∈ gw := gw_1 138 rfl rfl
theorem fl_RX8_24 : Cond.fieldLink RX8 24 "CampYears$Trees" "table" "[I" ∈ gw := gw_1 139 rfl rfl
theorem cl_RX11_55 : Cond.classLink RX11 55 RX1 ∈ gw := gw_1 153 rfl rfl
theorem it_RX1 : Cond.instantiable RX1 9 ∈ gw := gw_1 154 rfl rfl
theorem im_X1_init : Cond.instanceMethod yX1_init ∈ gw := gw_1 156 rfl rfl
theorem cd_X1_init : Cond.code yX1_init cX1_init 1 none ∈ gw := gw_1 157 rfl rfl
theorem ml_RX1_5 : Cond.methodLink RX1 5 Lib.objectInit ∈ gw := gw_1 158 rfl rfl
theorem fl_RX1_11 : Cond.fieldLink RX1 11 "CampYears$Fires" "x" "[I" ∈ gw := gw_1 159 rfl rfl
theorem fl_RX1_15 : Cond.fieldLink RX1 15 "CampYears$Fires" "y" "[I" ∈ gw := gw_1 160 rfl rfl
theorem fl_RX1_18 : Cond.fieldLink RX1 18 "CampYears$Fires" "need" "[I" ∈ gw := gw_1 161 rfl rfl
theorem fl_RX1_21 : Cond.fieldLink RX1 21 "CampYears$Fires" "spread" "[I" ∈ gw := gw_1 162 rfl rfl
theorem fl_RX1_37 : Cond.fieldLink RX1 37 "CampYears$Fires" "count" "I" ∈ gw := gw_1 163 rfl rfl
theorem fl_RX11_380 : Cond.fieldLink RX11 380 "CampYears$Fires" "count" "I" ∈ gw := gw_1 164 rfl rfl
theorem fl_RX1_24 : Cond.fieldLink RX1 24 "CampYears$Fires" "hours" "[I" ∈ gw := gw_1 165 rfl rfl
theorem fl_RX1_27 : Cond.fieldLink RX1 27 "CampYears$Fires" "queue" "[I" ∈ gw := gw_1 166 rfl rfl
theorem fl_RX1_30 : Cond.fieldLink RX1 30 "CampYears$Fires" "sent" "[J" ∈ gw := gw_1 167 rfl rfl
theorem fl_RX1_34 : Cond.fieldLink RX1 34 "CampYears$Fires" "best" "[J" ∈ gw := gw_1 168 rfl rfl
theorem ac_long : Cond.arrayClass .long ∈ gw := gw_1 188 rfl rfl
theorem cl_RX11_62 : Cond.classLink RX11 62 RX5 ∈ gw := gw_1 189 rfl rfl
theorem it_RX5 : Cond.instantiable RX5 7 ∈ gw := gw_1 190 rfl rfl
theorem im_X5_init : Cond.instanceMethod yX5_init ∈ gw := gw_1 192 rfl rfl
theorem cd_X5_init : Cond.code yX5_init cX5_init 1 none ∈ gw := gw_1 193 rfl rfl
theorem ml_RX5_5 : Cond.methodLink RX5 5 Lib.objectInit ∈ gw := gw_1 194 rfl rfl
theorem fl_RX5_13 : Cond.fieldLink RX5 13 "CampYears$Places" "x" "[I" ∈ gw := gw_1 195 rfl rfl
theorem fl_RX5_17 : Cond.fieldLink RX5 17 "CampYears$Places" "y" "[I" ∈ gw := gw_1 196 rfl rfl
theorem fl_RX5_20 : Cond.fieldLink RX5 20 "CampYears$Places" "reach" "[I" ∈ gw := gw_1 197 rfl rfl
theorem fl_RX5_23 : Cond.fieldLink RX5 23 "CampYears$Places" "water" "[Z" ∈ gw := gw_1 198 rfl rfl
theorem fl_RX5_33 : Cond.fieldLink RX5 33 "CampYears$Places" "count" "I" ∈ gw := gw_1 199 rfl rfl
theorem fl_RX11_381 : Cond.fieldLink RX11 381 "CampYears$Places" "count" "I" ∈ gw := gw_1 200 rfl rfl
theorem fl_RX5_27 : Cond.fieldLink RX5 27 "CampYears$Places" "most" "[I" ∈ gw := gw_1 201 rfl rfl
theorem fl_RX5_30 : Cond.fieldLink RX5 30 "CampYears$Places" "chosen" "[I" ∈ gw := gw_1 202 rfl rfl
theorem fl_RX11_313 : Cond.fieldLink RX11 313 "CampYears$Places" "chosen" "[I" ∈ gw := gw_1 203 rfl rfl
theorem ac_boolean : Cond.arrayClass .boolean ∈ gw := gw_1 219 rfl rfl
theorem cl_RX11_69 : Cond.classLink RX11 69 RX7 ∈ gw := gw_1 220 rfl rfl
theorem ao_RX7 : Cond.arrayOver (.object "CampYears$Sheet") ∈ lw_tbl := tb_1 221 rfl
theorem it_RX7 : Cond.instantiable RX7 3 ∈ gw := gw_1 222 rfl rfl
theorem im_X7_init : Cond.instanceMethod yX7_init ∈ gw := gw_1 224 rfl rfl
theorem cd_X7_init : Cond.code yX7_init cX7_init 1 none ∈ gw := gw_1 225 rfl rfl
theorem ml_RX7_3 : Cond.methodLink RX7 3 Lib.objectInit ∈ gw := gw_1 226 rfl rfl
theorem fl_RX7_11 : Cond.fieldLink RX7 11 "CampYears$Sheet" "cells" "[I" ∈ gw := gw_1 227 rfl rfl
theorem fl_RX7_15 : Cond.fieldLink RX7 15 "CampYears$Sheet" "lane" "I" ∈ gw := gw_1 228 rfl rfl
theorem fl_RX11_339 : Cond.fieldLink RX11 339 "CampYears$Sheet" "lane" "I" ∈ gw := gw_1 229 rfl rfl
theorem fl_RX7_25 : Cond.fieldLink RX7 25 "CampYears$Sheet" "size" "I" ∈ gw := gw_1 230 rfl rfl
theorem fl_RX11_12 : Cond.fieldLink RX11 12 "CampYears" "camps" "LCampYears$Camps;" ∈ gw := gw_1 238 rfl rfl
theorem fl_RX11_88 : Cond.fieldLink RX11 88 "CampYears" "menCount" "I" ∈ gw := gw_1 239 rfl rfl
theorem fl_RX11_20 : Cond.fieldLink RX11 20 "CampYears" "posts" "[LCampYears$Post;" ∈ gw := gw_2 0 rfl rfl
theorem fl_RX11_108 : Cond.fieldLink RX11 108 "CampYears" "postCount" "I" ∈ gw := gw_2 1 rfl rfl
theorem fl_RX11_369 : Cond.fieldLink RX11 369 "CampYears" "traced" "I" ∈ gw := gw_2 2 rfl rfl
theorem fl_RX11_24 : Cond.fieldLink RX11 24 "CampYears" "delays" "[I" ∈ gw := gw_2 3 rfl rfl
theorem fl_RX11_30 : Cond.fieldLink RX11 30 "CampYears" "orders" "[LCampYears$Order;" ∈ gw := gw_2 4 rfl rfl
theorem fl_RX11_171 : Cond.fieldLink RX11 171 "CampYears" "orderCount" "I" ∈ gw := gw_2 5 rfl rfl
theorem fl_RX11_37 : Cond.fieldLink RX11 37 "CampYears" "payroll" "LCampYears$Payroll;" ∈ gw := gw_2 6 rfl rfl
theorem fl_RX11_44 : Cond.fieldLink RX11 44 "CampYears" "works" "LCampYears$Works;" ∈ gw := gw_2 7 rfl rfl
theorem fl_RX11_51 : Cond.fieldLink RX11 51 "CampYears" "trees" "LCampYears$Trees;" ∈ gw := gw_2 8 rfl rfl
theorem fl_RX11_58 : Cond.fieldLink RX11 58 "CampYears" "fires" "LCampYears$Fires;" ∈ gw := gw_2 9 rfl rfl
theorem fl_RX11_65 : Cond.fieldLink RX11 65 "CampYears" "places" "LCampYears$Places;" ∈ gw := gw_2 10 rfl rfl
theorem fl_RX11_71 : Cond.fieldLink RX11 71 "CampYears" "sheets" "[LCampYears$Sheet;" ∈ gw := gw_2 11 rfl rfl
theorem fl_RX11_136 : Cond.fieldLink RX11 136 "CampYears" "latestFault" "I" ∈ gw := gw_2 12 rfl rfl
theorem ml_RL_13 : Cond.methodLink RL 13 yX11_camp ∈ gw := gw_2 44 rfl rfl
theorem im_X11_camp : Cond.instanceMethod yX11_camp ∈ gw := gw_2 45 rfl rfl
theorem se_X11_camp : Cond.selects RX11 yX11_camp yX11_camp ∈ gw := gw_2 46 rfl rfl
theorem cd_X11_camp : Cond.code yX11_camp cX11_camp 4 (some .int) ∈ gw := gw_2 47 rfl rfl
theorem ml_RX11_76 : Cond.methodLink RX11 76 yX11_isSpot ∈ gw := gw_2 48 rfl rfl
theorem sm_X11_isSpot : Cond.static yX11_isSpot ∈ gw := gw_2 49 rfl rfl
theorem cd_X11_isSpot : Cond.code yX11_isSpot cX11_isSpot 2 (some .boolean) ∈ gw := gw_2 50 rfl rfl
theorem ml_RX11_80 : Cond.methodLink RX11 80 yX11_isWithin ∈ gw := gw_2 51 rfl rfl
theorem sm_X11_isWithin : Cond.static yX11_isWithin ∈ gw := gw_2 52 rfl rfl
theorem cd_X11_isWithin : Cond.code yX11_isWithin cX11_isWithin 3 (some .boolean) ∈ gw := gw_2 53 rfl rfl
theorem ml_RX11_84 : Cond.methodLink RX11 84 yX0_add ∈ gw := gw_2 54 rfl rfl
theorem im_X0_add : Cond.instanceMethod yX0_add ∈ gw := gw_2 55 rfl rfl
theorem se_X0_add : Cond.selects RX0 yX0_add yX0_add ∈ gw := gw_2 56 rfl rfl
theorem cd_X0_add : Cond.code yX0_add cX0_add 4 (some .int) ∈ gw := gw_2 57 rfl rfl
theorem ml_RL_18 : Cond.methodLink RL 18 yX11_man ∈ gw := gw_2 58 rfl rfl
theorem im_X11_man : Cond.instanceMethod yX11_man ∈ gw := gw_2 59 rfl rfl
theorem se_X11_man : Cond.selects RX11 yX11_man yX11_man ∈ gw := gw_2 60 rfl rfl
theorem cd_X11_man : Cond.code yX11_man cX11_man 1 (some .int) ∈ gw := gw_2 61 rfl rfl
theorem ml_RL_23 : Cond.methodLink RL 23 yX11_post ∈ gw := gw_2 62 rfl rfl
theorem im_X11_post : Cond.instanceMethod yX11_post ∈ gw := gw_2 63 rfl rfl
theorem se_X11_post : Cond.selects RX11 yX11_post yX11_post ∈ gw := gw_2 64 rfl rfl
theorem cd_X11_post : Cond.code yX11_post cX11_post 6 (some .int) ∈ gw := gw_2 65 rfl rfl
theorem ml_RX11_92 : Cond.methodLink RX11 92 yX11_isMan ∈ gw := gw_2 66 rfl rfl
theorem im_X11_isMan : Cond.instanceMethod yX11_isMan ∈ gw := gw_2 68 rfl rfl
theorem cd_X11_isMan : Cond.code yX11_isMan cX11_isMan 2 (some .boolean) ∈ gw := gw_2 69 rfl rfl
theorem ml_RX11_96 : Cond.methodLink RX11 96 yX0_has ∈ gw := gw_2 70 rfl rfl
theorem im_X0_has : Cond.instanceMethod yX0_has ∈ gw := gw_2 71 rfl rfl
theorem se_X0_has : Cond.selects RX0 yX0_has yX0_has ∈ gw := gw_2 72 rfl rfl
theorem cd_X0_has : Cond.code yX0_has cX0_has 2 (some .boolean) ∈ gw := gw_2 73 rfl rfl
theorem ml_RX11_99 : Cond.methodLink RX11 99 yX11_isKind ∈ gw := gw_2 75 rfl rfl
theorem sm_X11_isKind : Cond.static yX11_isKind ∈ gw := gw_2 76 rfl rfl
theorem cd_X11_isKind : Cond.code yX11_isKind cX11_isKind 1 (some .boolean) ∈ gw := gw_2 77 rfl rfl
theorem ml_RX11_102 : Cond.methodLink RX11 102 yX11_areDays ∈ gw := gw_2 78 rfl rfl
theorem sm_X11_areDays : Cond.static yX11_areDays ∈ gw := gw_2 79 rfl rfl
theorem cd_X11_areDays : Cond.code yX11_areDays cX11_areDays 2 (some .boolean) ∈ gw := gw_2 80 rfl rfl
theorem ml_RX11_114 : Cond.methodLink RX11 114 yX11_isDay ∈ gw := gw_2 81 rfl rfl
theorem sm_X11_isDay : Cond.static yX11_isDay ∈ gw := gw_2 82 rfl rfl
theorem cd_X11_isDay : Cond.code yX11_isDay cX11_isDay 1 (some .boolean) ∈ gw := gw_2 83 rfl rfl
theorem ml_RX11_105 : Cond.methodLink RX11 105 yX11_daysOnPosts ∈ gw := gw_2 84 rfl rfl
theorem im_X11_daysOnPosts : Cond.instanceMethod yX11_daysOnPosts ∈ gw := gw_2 86 rfl rfl
theorem cd_X11_daysOnPosts : Cond.code yX11_daysOnPosts cX11_daysOnPosts 9 (some .int) ∈ gw := gw_2 87 rfl rfl
theorem ml_RX11_385 : Cond.methodLink RX11 385 yX6_daysIn ∈ gw := gw_2 88 rfl rfl
theorem im_X6_daysIn : Cond.instanceMethod yX6_daysIn ∈ gw := gw_2 89 rfl rfl
theorem se_X6_daysIn : Cond.selects RX6 yX6_daysIn yX6_daysIn ∈ gw := gw_2 90 rfl rfl
theorem cd_X6_daysIn : Cond.code yX6_daysIn cX6_daysIn 3 (some .int) ∈ gw := gw_2 91 rfl rfl
theorem ml_RX6_31 : Cond.methodLink RX6 31 yJ9_min_7cf53 ∈ gw := gw_2 92 rfl rfl
theorem sm_J9_min_7cf53 : Cond.static yJ9_min_7cf53 ∈ gw := gw_2 93 rfl rfl
theorem cd_J9_min_7cf53 : Cond.code yJ9_min_7cf53 cJ9_min_7cf53 2 (some .int) ∈ gw := gw_2 94 rfl rfl
theorem ml_RX6_37 : Cond.methodLink RX6 37 yJ9_max_7cf53 ∈ gw := gw_2 95 rfl rfl
theorem sm_J9_max_7cf53 : Cond.static yJ9_max_7cf53 ∈ gw := gw_2 96 rfl rfl
theorem cd_J9_max_7cf53 : Cond.code yJ9_max_7cf53 cJ9_max_7cf53 2 (some .int) ∈ gw := gw_2 97 rfl rfl
theorem it_RX6 : Cond.instantiable RX6 5 ∈ gw := gw_2 98 rfl rfl
theorem ml_RX11_111 : Cond.methodLink RX11 111 yX6_init ∈ gw := gw_2 99 rfl rfl
theorem im_X6_init : Cond.instanceMethod yX6_init ∈ gw := gw_2 100 rfl rfl
theorem cd_X6_init : Cond.code yX6_init cX6_init 6 none ∈ gw := gw_2 101 rfl rfl
theorem ml_RX6_1 : Cond.methodLink RX6 1 Lib.objectInit ∈ gw := gw_2 102 rfl rfl
theorem fl_RX6_7 : Cond.fieldLink RX6 7 "CampYears$Post" "kind" "I" ∈ gw := gw_2 103 rfl rfl
theorem fl_RX4_47 : Cond.fieldLink RX4 47 "CampYears$Post" "kind" "I" ∈ gw := gw_2 104 rfl rfl
theorem fl_RX11_352 : Cond.fieldLink RX11 352 "CampYears$Post" "kind" "I" ∈ gw := gw_2 105 rfl rfl
theorem fl_RX6_13 : Cond.fieldLink RX6 13 "CampYears$Post" "man" "I" ∈ gw := gw_2 106 rfl rfl
theorem fl_RX4_38 : Cond.fieldLink RX4 38 "CampYears$Post" "man" "I" ∈ gw := gw_2 107 rfl rfl
theorem fl_RX11_117 : Cond.fieldLink RX11 117 "CampYears$Post" "man" "I" ∈ gw := gw_2 108 rfl rfl
theorem fl_RX6_16 : Cond.fieldLink RX6 16 "CampYears$Post" "camp" "I" ∈ gw := gw_2 109 rfl rfl
theorem fl_RX11_127 : Cond.fieldLink RX11 127 "CampYears$Post" "camp" "I" ∈ gw := gw_2 110 rfl rfl
theorem fl_RX6_19 : Cond.fieldLink RX6 19 "CampYears$Post" "from" "I" ∈ gw := gw_2 111 rfl rfl
theorem fl_RX11_130 : Cond.fieldLink RX11 130 "CampYears$Post" "from" "I" ∈ gw := gw_2 112 rfl rfl
theorem fl_RX6_22 : Cond.fieldLink RX6 22 "CampYears$Post" "till" "I" ∈ gw := gw_2 113 rfl rfl
theorem ml_RL_28 : Cond.methodLink RL 28 yX11_day ∈ gw := gw_2 125 rfl rfl
theorem im_X11_day : Cond.instanceMethod yX11_day ∈ gw := gw_2 126 rfl rfl
theorem se_X11_day : Cond.selects RX11 yX11_day yX11_day ∈ gw := gw_2 127 rfl rfl
theorem cd_X11_day : Cond.code yX11_day cX11_day 5 (some .int) ∈ gw := gw_2 128 rfl rfl
theorem ml_RX11_120 : Cond.methodLink RX11 120 yX6_holdsOn ∈ gw := gw_2 129 rfl rfl
theorem im_X6_holdsOn : Cond.instanceMethod yX6_holdsOn ∈ gw := gw_2 130 rfl rfl
theorem se_X6_holdsOn : Cond.selects RX6 yX6_holdsOn yX6_holdsOn ∈ gw := gw_2 131 rfl rfl
theorem cd_X6_holdsOn : Cond.code yX6_holdsOn cX6_holdsOn 2 (some .boolean) ∈ gw := gw_2 132 rfl rfl
theorem ml_RL_33 : Cond.methodLink RL 33 yX11_beds ∈ gw := gw_2 134 rfl rfl
theorem im_X11_beds : Cond.instanceMethod yX11_beds ∈ gw := gw_2 135 rfl rfl
theorem se_X11_beds : Cond.selects RX11 yX11_beds yX11_beds ∈ gw := gw_2 136 rfl rfl
theorem cd_X11_beds : Cond.code yX11_beds cX11_beds 3 (some .int) ∈ gw := gw_2 137 rfl rfl
theorem ml_RX11_123 : Cond.methodLink RX11 123 yX11_menAt ∈ gw := gw_2 138 rfl rfl
theorem im_X11_menAt : Cond.instanceMethod yX11_menAt ∈ gw := gw_2 140 rfl rfl
theorem cd_X11_menAt : Cond.code yX11_menAt cX11_menAt 8 (some .int) ∈ gw := gw_2 141 rfl rfl
theorem ml_RL_37 : Cond.methodLink RL 37 yX11_over ∈ gw := gw_2 142 rfl rfl
theorem im_X11_over : Cond.instanceMethod yX11_over ∈ gw := gw_2 143 rfl rfl
theorem se_X11_over : Cond.selects RX11 yX11_over yX11_over ∈ gw := gw_2 144 rfl rfl
theorem cd_X11_over : Cond.code yX11_over cX11_over 7 (some .int) ∈ gw := gw_2 145 rfl rfl
theorem ml_RL_42 : Cond.methodLink RL 42 yX11_order ∈ gw := gw_2 146 rfl rfl
theorem im_X11_order : Cond.instanceMethod yX11_order ∈ gw := gw_2 147 rfl rfl
theorem se_X11_order : Cond.selects RX11 yX11_order yX11_order ∈ gw := gw_2 148 rfl rfl
theorem cd_X11_order : Cond.code yX11_order cX11_order 9 (some .int) ∈ gw := gw_2 149 rfl rfl
theorem ml_RX11_139 : Cond.methodLink RX11 139 yX11_sheetAt ∈ gw := gw_2 150 rfl rfl
theorem im_X11_sheetAt : Cond.instanceMethod yX11_sheetAt ∈ gw := gw_2 152 rfl rfl
theorem cd_X11_sheetAt : Cond.code yX11_sheetAt cX11_sheetAt 2 (some (.object "CampYears$Sheet")) ∈ gw := gw_2 153 rfl rfl
theorem ml_RX11_143 : Cond.methodLink RX11 143 yX11_isLane ∈ gw := gw_2 154 rfl rfl
theorem sm_X11_isLane : Cond.static yX11_isLane ∈ gw := gw_2 155 rfl rfl
theorem cd_X11_isLane : Cond.code yX11_isLane cX11_isLane 1 (some .boolean) ∈ gw := gw_2 156 rfl rfl
theorem ml_RX11_146 : Cond.methodLink RX11 146 yX7_faultOf ∈ gw := gw_2 157 rfl rfl
theorem im_X7_faultOf : Cond.instanceMethod yX7_faultOf ∈ gw := gw_2 158 rfl rfl
theorem se_X7_faultOf : Cond.selects RX7 yX7_faultOf yX7_faultOf ∈ gw := gw_2 159 rfl rfl
theorem cd_X7_faultOf : Cond.code yX7_faultOf cX7_faultOf 4 (some .int) ∈ gw := gw_2 160 rfl rfl
theorem ml_RX11_149 : Cond.methodLink RX11 149 yX11_noteFault ∈ gw := gw_2 162 rfl rfl
theorem im_X11_noteFault : Cond.instanceMethod yX11_noteFault ∈ gw := gw_2 164 rfl rfl
theorem cd_X11_noteFault : Cond.code yX11_noteFault cX11_noteFault 2 (some .int) ∈ gw := gw_2 165 rfl rfl
theorem cl_RX11_153 : Cond.classLink RX11 153 RX3 ∈ gw := gw_2 166 rfl rfl
theorem it_RX3 : Cond.instantiable RX3 12 ∈ gw := gw_2 167 rfl rfl
theorem ml_RX11_158 : Cond.methodLink RX11 158 yX3_init ∈ gw := gw_2 168 rfl rfl
theorem im_X3_init : Cond.instanceMethod yX3_init ∈ gw := gw_2 169 rfl rfl
theorem cd_X3_init : Cond.code yX3_init cX3_init 5 none ∈ gw := gw_2 170 rfl rfl
theorem ml_RX3_3 : Cond.methodLink RX3 3 Lib.objectInit ∈ gw := gw_2 171 rfl rfl
theorem fl_RX3_15 : Cond.fieldLink RX3 15 "CampYears$OrderReader" "cells" "LCampYears$Sheet;" ∈ gw := gw_2 172 rfl rfl
theorem fl_RX3_19 : Cond.fieldLink RX3 19 "CampYears$OrderReader" "start" "I" ∈ gw := gw_2 173 rfl rfl
theorem fl_RX3_22 : Cond.fieldLink RX3 22 "CampYears$OrderReader" "length" "I" ∈ gw := gw_2 174 rfl rfl
theorem fl_RX3_25 : Cond.fieldLink RX3 25 "CampYears$OrderReader" "campCount" "I" ∈ gw := gw_2 175 rfl rfl
theorem fl_RX3_51 : Cond.fieldLink RX3 51 "CampYears$OrderReader" "at" "I" ∈ gw := gw_2 176 rfl rfl
theorem fl_RX3_11 : Cond.fieldLink RX3 11 "CampYears$OrderReader" "firstFault" "I" ∈ gw := gw_2 177 rfl rfl
theorem fl_RX11_168 : Cond.fieldLink RX11 168 "CampYears$OrderReader" "firstFault" "I" ∈ gw := gw_2 178 rfl rfl
theorem fl_RX2_9 : Cond.fieldLink RX2 9 "CampYears$OrderReader" "office" "I" ∈ gw := gw_2 179 rfl rfl
theorem fl_RX3_36 : Cond.fieldLink RX3 36 "CampYears$OrderReader" "office" "I" ∈ gw := gw_2 180 rfl rfl
theorem fl_RX2_18 : Cond.fieldLink RX2 18 "CampYears$OrderReader" "fromHour" "I" ∈ gw := gw_2 181 rfl rfl
theorem fl_RX3_39 : Cond.fieldLink RX3 39 "CampYears$OrderReader" "fromHour" "I" ∈ gw := gw_2 182 rfl rfl
theorem fl_RX2_22 : Cond.fieldLink RX2 22 "CampYears$OrderReader" "toHour" "I" ∈ gw := gw_2 183 rfl rfl
theorem fl_RX3_42 : Cond.fieldLink RX3 42 "CampYears$OrderReader" "toHour" "I" ∈ gw := gw_2 184 rfl rfl
theorem fl_RX2_26 : Cond.fieldLink RX2 26 "CampYears$OrderReader" "fromDay" "I" ∈ gw := gw_2 185 rfl rfl
theorem fl_RX3_45 : Cond.fieldLink RX3 45 "CampYears$OrderReader" "fromDay" "I" ∈ gw := gw_2 186 rfl rfl
theorem fl_RX2_30 : Cond.fieldLink RX2 30 "CampYears$OrderReader" "toDay" "I" ∈ gw := gw_2 187 rfl rfl
theorem fl_RX3_48 : Cond.fieldLink RX3 48 "CampYears$OrderReader" "toDay" "I" ∈ gw := gw_2 188 rfl rfl
theorem fl_RX2_34 : Cond.fieldLink RX2 34 "CampYears$OrderReader" "leftOut" "I" ∈ gw := gw_2 189 rfl rfl
theorem fl_RX3_61 : Cond.fieldLink RX3 61 "CampYears$OrderReader" "leftOut" "I" ∈ gw := gw_2 190 rfl rfl
theorem ml_RX11_161 : Cond.methodLink RX11 161 yX3_readAll ∈ gw := gw_2 216 rfl rfl
theorem im_X3_readAll : Cond.instanceMethod yX3_readAll ∈ gw := gw_2 217 rfl rfl
theorem se_X3_readAll : Cond.selects RX3 yX3_readAll yX3_readAll ∈ gw := gw_2 218 rfl rfl
theorem cd_X3_readAll : Cond.code yX3_readAll cX3_readAll 1 none ∈ gw := gw_2 219 rfl rfl
theorem ml_RX3_28 : Cond.methodLink RX3 28 yX3_readSign ∈ gw := gw_2 220 rfl rfl
theorem im_X3_readSign : Cond.instanceMethod yX3_readSign ∈ gw := gw_2 222 rfl rfl
theorem cd_X3_readSign : Cond.code yX3_readSign cX3_readSign 2 none ∈ gw := gw_2 223 rfl rfl
theorem ml_RX3_57 : Cond.methodLink RX3 57 yX3_isFaulty ∈ gw := gw_2 224 rfl rfl
theorem im_X3_isFaulty : Cond.instanceMethod yX3_isFaulty ∈ gw := gw_2 225 rfl rfl
theorem se_X3_isFaulty : Cond.selects RX3 yX3_isFaulty yX3_isFaulty ∈ gw := gw_2 226 rfl rfl
theorem cd_X3_isFaulty : Cond.code yX3_isFaulty cX3_isFaulty 1 (some .boolean) ∈ gw := gw_2 227 rfl rfl
theorem ml_RX3_64 : Cond.methodLink RX3 64 yX3_code ∈ gw := gw_2 228 rfl rfl
theorem im_X3_code : Cond.instanceMethod yX3_code ∈ gw := gw_2 230 rfl rfl
theorem cd_X3_code : Cond.code yX3_code cX3_code 1 (some .int) ∈ gw := gw_2 231 rfl rfl
theorem ml_RX3_72 : Cond.methodLink RX3 72 yX7_read ∈ gw := gw_2 232 rfl rfl
theorem im_X7_read : Cond.instanceMethod yX7_read ∈ gw := gw_2 233 rfl rfl
theorem se_X7_read : Cond.selects RX7 yX7_read yX7_read ∈ gw := gw_2 234 rfl rfl
theorem cd_X7_read : Cond.code yX7_read cX7_read 2 (some .int) ∈ gw := gw_2 235 rfl rfl
theorem ml_RX3_32 : Cond.methodLink RX3 32 yX3_readNumber ∈ gw := gw_2 236 rfl rfl
theorem im_X3_readNumber : Cond.instanceMethod yX3_readNumber ∈ gw := gw_2 238 rfl rfl
theorem cd_X3_readNumber : Cond.code yX3_readNumber cX3_readNumber 6 (some .int) ∈ gw := gw_2 239 rfl rfl
theorem ml_RX3_54 : Cond.methodLink RX3 54 yX3_readLeftOut ∈ gw := gw_3 1 rfl rfl
theorem im_X3_readLeftOut : Cond.instanceMethod yX3_readLeftOut ∈ gw := gw_3 3 rfl rfl
theorem cd_X3_readLeftOut : Cond.code yX3_readLeftOut cX3_readLeftOut 3 none ∈ gw := gw_3 4 rfl rfl
theorem ml_RX11_164 : Cond.methodLink RX11 164 yX3_isFaulty ∈ gw := gw_3 5 rfl rfl
theorem it_RX2 : Cond.instantiable RX2 7 ∈ gw := gw_3 6 rfl rfl
theorem ml_RX11_174 : Cond.methodLink RX11 174 yX2_init ∈ gw := gw_3 7 rfl rfl
theorem im_X2_init : Cond.instanceMethod yX2_init ∈ gw := gw_3 8 rfl rfl
theorem cd_X2_init : Cond.code yX2_init cX2_init 3 none ∈ gw := gw_3 9 rfl rfl
theorem ml_RX2_3 : Cond.methodLink RX2 3 Lib.objectInit ∈ gw := gw_3 10 rfl rfl
theorem fl_RX2_15 : Cond.fieldLink RX2 15 "CampYears$Order" "office" "I" ∈ gw := gw_3 11 rfl rfl
theorem fl_RX11_191 : Cond.fieldLink RX11 191 "CampYears$Order" "office" "I" ∈ gw := gw_3 12 rfl rfl
theorem fl_RX2_21 : Cond.fieldLink RX2 21 "CampYears$Order" "fromHour" "I" ∈ gw := gw_3 13 rfl rfl
theorem fl_RX2_25 : Cond.fieldLink RX2 25 "CampYears$Order" "toHour" "I" ∈ gw := gw_3 14 rfl rfl
theorem fl_RX2_29 : Cond.fieldLink RX2 29 "CampYears$Order" "fromDay" "I" ∈ gw := gw_3 15 rfl rfl
theorem fl_RX2_33 : Cond.fieldLink RX2 33 "CampYears$Order" "toDay" "I" ∈ gw := gw_3 16 rfl rfl
theorem fl_RX2_37 : Cond.fieldLink RX2 37 "CampYears$Order" "leftOut" "I" ∈ gw := gw_3 17 rfl rfl
theorem fl_RX2_38 : Cond.fieldLink RX2 38 "CampYears$Order" "given" "I" ∈ gw := gw_3 18 rfl rfl
theorem fl_RX11_388 : Cond.fieldLink RX11 388 "CampYears$Order" "given" "I" ∈ gw := gw_3 19 rfl rfl
theorem ml_RL_46 : Cond.methodLink RL 46 yX11_ofOrder ∈ gw := gw_3 35 rfl rfl
theorem im_X11_ofOrder : Cond.instanceMethod yX11_ofOrder ∈ gw := gw_3 36 rfl rfl
theorem se_X11_ofOrder : Cond.selects RX11 yX11_ofOrder yX11_ofOrder ∈ gw := gw_3 37 rfl rfl
theorem cd_X11_ofOrder : Cond.code yX11_ofOrder cX11_ofOrder 4 (some .int) ∈ gw := gw_3 38 rfl rfl
theorem ml_RX11_177 : Cond.methodLink RX11 177 yX11_orderAt ∈ gw := gw_3 39 rfl rfl
theorem im_X11_orderAt : Cond.instanceMethod yX11_orderAt ∈ gw := gw_3 41 rfl rfl
theorem cd_X11_orderAt : Cond.code yX11_orderAt cX11_orderAt 2 (some (.object "CampYears$Order")) ∈ gw := gw_3 42 rfl rfl
theorem ml_RX11_181 : Cond.methodLink RX11 181 yX2_fact ∈ gw := gw_3 43 rfl rfl
theorem im_X2_fact : Cond.instanceMethod yX2_fact ∈ gw := gw_3 44 rfl rfl
theorem se_X2_fact : Cond.selects RX2 yX2_fact yX2_fact ∈ gw := gw_3 45 rfl rfl
theorem cd_X2_fact : Cond.code yX2_fact cX2_fact 2 (some .int) ∈ gw := gw_3 46 rfl rfl
theorem ml_RL_50 : Cond.methodLink RL 50 yX11_delay ∈ gw := gw_3 47 rfl rfl
theorem im_X11_delay : Cond.instanceMethod yX11_delay ∈ gw := gw_3 48 rfl rfl
theorem se_X11_delay : Cond.selects RX11 yX11_delay yX11_delay ∈ gw := gw_3 49 rfl rfl
theorem cd_X11_delay : Cond.code yX11_delay cX11_delay 4 (some .int) ∈ gw := gw_3 50 rfl rfl
theorem ml_RX11_184 : Cond.methodLink RX11 184 yX11_isOffice ∈ gw := gw_3 51 rfl rfl
theorem sm_X11_isOffice : Cond.static yX11_isOffice ∈ gw := gw_3 52 rfl rfl
theorem cd_X11_isOffice : Cond.code yX11_isOffice cX11_isOffice 1 (some .boolean) ∈ gw := gw_3 53 rfl rfl
theorem ml_RL_54 : Cond.methodLink RL 54 yX11_word ∈ gw := gw_3 54 rfl rfl
theorem im_X11_word : Cond.instanceMethod yX11_word ∈ gw := gw_3 55 rfl rfl
theorem se_X11_word : Cond.selects RX11 yX11_word yX11_word ∈ gw := gw_3 56 rfl rfl
theorem cd_X11_word : Cond.code yX11_word cX11_word 7 (some .int) ∈ gw := gw_3 57 rfl rfl
theorem ml_RX11_187 : Cond.methodLink RX11 187 yX11_why ∈ gw := gw_3 58 rfl rfl
theorem im_X11_why : Cond.instanceMethod yX11_why ∈ gw := gw_3 59 rfl rfl
theorem se_X11_why : Cond.selects RX11 yX11_why yX11_why ∈ gw := gw_3 60 rfl rfl
theorem cd_X11_why : Cond.code yX11_why cX11_why 5 (some .int) ∈ gw := gw_3 61 rfl rfl
theorem ml_RX11_194 : Cond.methodLink RX11 194 yX11_latestHeard ∈ gw := gw_3 62 rfl rfl
theorem im_X11_latestHeard : Cond.instanceMethod yX11_latestHeard ∈ gw := gw_3 64 rfl rfl
theorem cd_X11_latestHeard : Cond.code yX11_latestHeard cX11_latestHeard 7 (some .int) ∈ gw := gw_3 65 rfl rfl
theorem ml_RX11_391 : Cond.methodLink RX11 391 yX2_tellsOf ∈ gw := gw_3 66 rfl rfl
theorem im_X2_tellsOf : Cond.instanceMethod yX2_tellsOf ∈ gw := gw_3 67 rfl rfl
theorem se_X2_tellsOf : Cond.selects RX2 yX2_tellsOf yX2_tellsOf ∈ gw := gw_3 68 rfl rfl
theorem cd_X2_tellsOf : Cond.code yX2_tellsOf cX2_tellsOf 4 (some .boolean) ∈ gw := gw_3 69 rfl rfl
theorem ml_RL_59 : Cond.methodLink RL 59 yX11_why ∈ gw := gw_3 71 rfl rfl
theorem ml_RL_63 : Cond.methodLink RL 63 yX11_quarrel ∈ gw := gw_3 72 rfl rfl
theorem im_X11_quarrel : Cond.instanceMethod yX11_quarrel ∈ gw := gw_3 73 rfl rfl
theorem se_X11_quarrel : Cond.selects RX11 yX11_quarrel yX11_quarrel ∈ gw := gw_3 74 rfl rfl
theorem cd_X11_quarrel : Cond.code yX11_quarrel cX11_quarrel 5 (some .int) ∈ gw := gw_3 75 rfl rfl
theorem ml_RX11_197 : Cond.methodLink RX11 197 yX11_officesThatClaim ∈ gw := gw_3 76 rfl rfl
theorem im_X11_officesThatClaim : Cond.instanceMethod yX11_officesThatClaim ∈ gw := gw_3 78 rfl rfl
theorem cd_X11_officesThatClaim : Cond.code yX11_officesThatClaim cX11_officesThatClaim 7 (some .int) ∈ gw := gw_3 79 rfl rfl
theorem ml_RL_67 : Cond.methodLink RL 67 yX11_rate ∈ gw := gw_3 80 rfl rfl
theorem im_X11_rate : Cond.instanceMethod yX11_rate ∈ gw := gw_3 81 rfl rfl
theorem se_X11_rate : Cond.selects RX11 yX11_rate yX11_rate ∈ gw := gw_3 82 rfl rfl
theorem cd_X11_rate : Cond.code yX11_rate cX11_rate 4 (some .int) ∈ gw := gw_3 83 rfl rfl
theorem ml_RL_71 : Cond.methodLink RL 71 yX11_home ∈ gw := gw_3 84 rfl rfl
theorem im_X11_home : Cond.instanceMethod yX11_home ∈ gw := gw_3 85 rfl rfl
theorem se_X11_home : Cond.selects RX11 yX11_home yX11_home ∈ gw := gw_3 86 rfl rfl
theorem cd_X11_home : Cond.code yX11_home cX11_home 3 (some .int) ∈ gw := gw_3 87 rfl rfl
theorem ml_RX11_203 : Cond.methodLink RX11 203 yX4_changeHome ∈ gw := gw_3 88 rfl rfl
theorem im_X4_changeHome : Cond.instanceMethod yX4_changeHome ∈ gw := gw_3 89 rfl rfl
theorem se_X4_changeHome : Cond.selects RX4 yX4_changeHome yX4_changeHome ∈ gw := gw_3 90 rfl rfl
theorem cd_X4_changeHome : Cond.code yX4_changeHome cX4_changeHome 4 (some .boolean) ∈ gw := gw_3 91 rfl rfl
theorem ml_RL_75 : Cond.methodLink RL 75 yX11_fine ∈ gw := gw_3 92 rfl rfl
theorem im_X11_fine : Cond.instanceMethod yX11_fine ∈ gw := gw_3 93 rfl rfl
theorem se_X11_fine : Cond.selects RX11 yX11_fine yX11_fine ∈ gw := gw_3 94 rfl rfl
theorem cd_X11_fine : Cond.code yX11_fine cX11_fine 4 (some .int) ∈ gw := gw_3 95 rfl rfl
theorem ml_RX11_206 : Cond.methodLink RX11 206 yX4_addFine ∈ gw := gw_3 96 rfl rfl
theorem im_X4_addFine : Cond.instanceMethod yX4_addFine ∈ gw := gw_3 97 rfl rfl
theorem se_X4_addFine : Cond.selects RX4 yX4_addFine yX4_addFine ∈ gw := gw_3 98 rfl rfl
theorem cd_X4_addFine : Cond.code yX4_addFine cX4_addFine 4 (some .int) ∈ gw := gw_3 99 rfl rfl
theorem ml_RL_79 : Cond.methodLink RL 79 yX11_pay ∈ gw := gw_3 100 rfl rfl
theorem im_X11_pay : Cond.instanceMethod yX11_pay ∈ gw := gw_3 101 rfl rfl
theorem se_X11_pay : Cond.selects RX11 yX11_pay yX11_pay ∈ gw := gw_3 102 rfl rfl
theorem cd_X11_pay : Cond.code yX11_pay cX11_pay 9 (some .int) ∈ gw := gw_3 103 rfl rfl
theorem ml_RX11_209 : Cond.methodLink RX11 209 yX4_earnedOn ∈ gw := gw_3 104 rfl rfl
theorem im_X4_earnedOn : Cond.instanceMethod yX4_earnedOn ∈ gw := gw_3 105 rfl rfl
theorem se_X4_earnedOn : Cond.selects RX4 yX4_earnedOn yX4_earnedOn ∈ gw := gw_3 106 rfl rfl
theorem cd_X4_earnedOn : Cond.code yX4_earnedOn cX4_earnedOn 10 (some .int) ∈ gw := gw_3 107 rfl rfl
theorem ml_RX4_43 : Cond.methodLink RX4 43 yX6_daysIn ∈ gw := gw_3 108 rfl rfl
theorem ml_RX11_213 : Cond.methodLink RX11 213 yX4_sentHome ∈ gw := gw_3 109 rfl rfl
theorem im_X4_sentHome : Cond.instanceMethod yX4_sentHome ∈ gw := gw_3 110 rfl rfl
theorem se_X4_sentHome : Cond.selects RX4 yX4_sentHome yX4_sentHome ∈ gw := gw_3 111 rfl rfl
theorem cd_X4_sentHome : Cond.code yX4_sentHome cX4_sentHome 2 (some .int) ∈ gw := gw_3 112 rfl rfl
theorem sm_X11_quotient : Cond.static yX11_quotient ∈ gw := gw_3 114 rfl rfl
theorem cd_X11_quotient : Cond.code yX11_quotient cX11_quotient 4 (some .long) ∈ gw := gw_3 115 rfl rfl
theorem ml_RX11_216 : Cond.methodLink RX11 216 yX4_finesOf ∈ gw := gw_3 116 rfl rfl
theorem im_X4_finesOf : Cond.instanceMethod yX4_finesOf ∈ gw := gw_3 117 rfl rfl
theorem se_X4_finesOf : Cond.selects RX4 yX4_finesOf yX4_finesOf ∈ gw := gw_3 118 rfl rfl
theorem cd_X4_finesOf : Cond.code yX4_finesOf cX4_finesOf 6 (some .int) ∈ gw := gw_3 119 rfl rfl
theorem ml_RX11_219 : Cond.methodLink RX11 219 yJ9_min_7cf53 ∈ gw := gw_3 121 rfl rfl
theorem ml_RL_83 : Cond.methodLink RL 83 yX11_work ∈ gw := gw_3 122 rfl rfl
theorem im_X11_work : Cond.instanceMethod yX11_work ∈ gw := gw_3 123 rfl rfl
theorem se_X11_work : Cond.selects RX11 yX11_work yX11_work ∈ gw := gw_3 124 rfl rfl
theorem cd_X11_work : Cond.code yX11_work cX11_work 4 (some .int) ∈ gw := gw_3 125 rfl rfl
theorem ml_RX11_224 : Cond.methodLink RX11 224 yX10_add ∈ gw := gw_3 126 rfl rfl
theorem im_X10_add : Cond.instanceMethod yX10_add ∈ gw := gw_3 127 rfl rfl
theorem se_X10_add : Cond.selects RX10 yX10_add yX10_add ∈ gw := gw_3 128 rfl rfl
theorem cd_X10_add : Cond.code yX10_add cX10_add 4 (some .int) ∈ gw := gw_3 129 rfl rfl
theorem it_RX9 : Cond.instantiable RX9 8 ∈ gw := gw_3 130 rfl rfl
theorem ml_RX10_38 : Cond.methodLink RX10 38 yX9_init ∈ gw := gw_3 131 rfl rfl
theorem im_X9_init : Cond.instanceMethod yX9_init ∈ gw := gw_3 132 rfl rfl
theorem cd_X9_init : Cond.code yX9_init cX9_init 4 none ∈ gw := gw_3 133 rfl rfl
theorem ml_RX9_3 : Cond.methodLink RX9 3 Lib.objectInit ∈ gw := gw_3 134 rfl rfl
theorem fl_RX9_9 : Cond.fieldLink RX9 9 "CampYears$Work" "camp" "I" ∈ gw := gw_3 135 rfl rfl
theorem fl_RX9_15 : Cond.fieldLink RX9 15 "CampYears$Work" "need" "I" ∈ gw := gw_3 136 rfl rfl
theorem fl_RX9_18 : Cond.fieldLink RX9 18 "CampYears$Work" "tools" "I" ∈ gw := gw_3 137 rfl rfl
theorem fl_RX9_21 : Cond.fieldLink RX9 21 "CampYears$Work" "hands" "I" ∈ gw := gw_3 138 rfl rfl
theorem fl_RX9_24 : Cond.fieldLink RX9 24 "CampYears$Work" "done" "I" ∈ gw := gw_3 139 rfl rfl
theorem fl_RX9_33 : Cond.fieldLink RX9 33 "CampYears$Work" "noTool" "I" ∈ gw := gw_3 140 rfl rfl
theorem fl_RX9_36 : Cond.fieldLink RX9 36 "CampYears$Work" "noDay" "I" ∈ gw := gw_3 141 rfl rfl
theorem fl_RX9_39 : Cond.fieldLink RX9 39 "CampYears$Work" "counted" "I" ∈ gw := gw_3 142 rfl rfl
theorem fl_RX10_65 : Cond.fieldLink RX10 65 "CampYears$Work" "counted" "I" ∈ gw := gw_3 143 rfl rfl
theorem ml_RL_87 : Cond.methodLink RL 87 yX11_hands ∈ gw := gw_3 161 rfl rfl
theorem im_X11_hands : Cond.instanceMethod yX11_hands ∈ gw := gw_3 162 rfl rfl
theorem se_X11_hands : Cond.selects RX11 yX11_hands yX11_hands ∈ gw := gw_3 163 rfl rfl
theorem cd_X11_hands : Cond.code yX11_hands cX11_hands 5 (some .int) ∈ gw := gw_3 164 rfl rfl
theorem ml_RX11_225 : Cond.methodLink RX11 225 yX10_at ∈ gw := gw_3 165 rfl rfl
theorem im_X10_at : Cond.instanceMethod yX10_at ∈ gw := gw_3 166 rfl rfl
theorem se_X10_at : Cond.selects RX10 yX10_at yX10_at ∈ gw := gw_3 167 rfl rfl
theorem cd_X10_at : Cond.code yX10_at cX10_at 2 (some (.object "CampYears$Work")) ∈ gw := gw_3 168 rfl rfl
theorem ml_RX11_229 : Cond.methodLink RX11 229 yX9_changeHands ∈ gw := gw_3 170 rfl rfl
theorem im_X9_changeHands : Cond.instanceMethod yX9_changeHands ∈ gw := gw_3 171 rfl rfl
theorem se_X9_changeHands : Cond.selects RX9 yX9_changeHands yX9_changeHands ∈ gw := gw_3 172 rfl rfl
theorem cd_X9_changeHands : Cond.code yX9_changeHands cX9_changeHands 3 (some .int) ∈ gw := gw_3 173 rfl rfl
theorem ml_RX11_234 : Cond.methodLink RX11 234 yX9_changeTools ∈ gw := gw_3 174 rfl rfl
theorem im_X9_changeTools : Cond.instanceMethod yX9_changeTools ∈ gw := gw_3 175 rfl rfl
theorem se_X9_changeTools : Cond.selects RX9 yX9_changeTools yX9_changeTools ∈ gw := gw_3 176 rfl rfl
theorem cd_X9_changeTools : Cond.code yX9_changeTools cX9_changeTools 3 (some .int) ∈ gw := gw_3 177 rfl rfl
theorem ml_RL_91 : Cond.methodLink RL 91 yX11_row ∈ gw := gw_3 178 rfl rfl
theorem im_X11_row : Cond.instanceMethod yX11_row ∈ gw := gw_3 179 rfl rfl
theorem se_X11_row : Cond.selects RX11 yX11_row yX11_row ∈ gw := gw_3 180 rfl rfl
theorem cd_X11_row : Cond.code yX11_row cX11_row 9 (some .int) ∈ gw := gw_3 181 rfl rfl
theorem ml_RX11_237 : Cond.methodLink RX11 237 yX10_takeWeather ∈ gw := gw_3 182 rfl rfl
theorem im_X10_takeWeather : Cond.instanceMethod yX10_takeWeather ∈ gw := gw_3 183 rfl rfl
theorem se_X10_takeWeather : Cond.selects RX10 yX10_takeWeather yX10_takeWeather ∈ gw := gw_3 184 rfl rfl
theorem cd_X10_takeWeather : Cond.code yX10_takeWeather cX10_takeWeather 4 (some .boolean) ∈ gw := gw_3 185 rfl rfl
theorem ml_RX10_41 : Cond.methodLink RX10 41 yX7_areWithin ∈ gw := gw_3 186 rfl rfl
theorem im_X7_areWithin : Cond.instanceMethod yX7_areWithin ∈ gw := gw_3 187 rfl rfl
theorem se_X7_areWithin : Cond.selects RX7 yX7_areWithin yX7_areWithin ∈ gw := gw_3 188 rfl rfl
theorem cd_X7_areWithin : Cond.code yX7_areWithin cX7_areWithin 5 (some .boolean) ∈ gw := gw_3 189 rfl rfl
theorem ml_RX7_36 : Cond.methodLink RX7 36 yX7_read ∈ gw := gw_3 190 rfl rfl
theorem ml_RX10_46 : Cond.methodLink RX10 46 yX7_copyTo ∈ gw := gw_3 191 rfl rfl
theorem im_X7_copyTo : Cond.instanceMethod yX7_copyTo ∈ gw := gw_3 192 rfl rfl
theorem se_X7_copyTo : Cond.selects RX7 yX7_copyTo yX7_copyTo ∈ gw := gw_3 193 rfl rfl
theorem cd_X7_copyTo : Cond.code yX7_copyTo cX7_copyTo 5 none ∈ gw := gw_3 194 rfl rfl
theorem ml_RX11_241 : Cond.methodLink RX11 241 yX8_takeTable ∈ gw := gw_3 195 rfl rfl
theorem im_X8_takeTable : Cond.instanceMethod yX8_takeTable ∈ gw := gw_3 196 rfl rfl
theorem se_X8_takeTable : Cond.selects RX8 yX8_takeTable yX8_takeTable ∈ gw := gw_3 197 rfl rfl
theorem cd_X8_takeTable : Cond.code yX8_takeTable cX8_takeTable 4 (some .boolean) ∈ gw := gw_3 198 rfl rfl
theorem ml_RX8_41 : Cond.methodLink RX8 41 yX7_areWithin ∈ gw := gw_3 199 rfl rfl
theorem ml_RX8_46 : Cond.methodLink RX8 46 yX7_copyTo ∈ gw := gw_3 200 rfl rfl
theorem ml_RL_95 : Cond.methodLink RL 95 yX11_week ∈ gw := gw_3 201 rfl rfl
theorem im_X11_week : Cond.instanceMethod yX11_week ∈ gw := gw_3 202 rfl rfl
theorem se_X11_week : Cond.selects RX11 yX11_week yX11_week ∈ gw := gw_3 203 rfl rfl
theorem cd_X11_week : Cond.code yX11_week cX11_week 1 (some .int) ∈ gw := gw_3 204 rfl rfl
theorem ml_RX11_244 : Cond.methodLink RX11 244 yX10_passWeek ∈ gw := gw_3 205 rfl rfl
theorem im_X10_passWeek : Cond.instanceMethod yX10_passWeek ∈ gw := gw_3 206 rfl rfl
theorem se_X10_passWeek : Cond.selects RX10 yX10_passWeek yX10_passWeek ∈ gw := gw_3 207 rfl rfl
theorem cd_X10_passWeek : Cond.code yX10_passWeek cX10_passWeek 7 (some .int) ∈ gw := gw_3 208 rfl rfl
theorem sm_X11_remainder : Cond.static yX11_remainder ∈ gw := gw_3 210 rfl rfl
theorem cd_X11_remainder : Cond.code yX11_remainder cX11_remainder 2 (some .int) ∈ gw := gw_3 211 rfl rfl
theorem ml_RX11_382 : Cond.methodLink RX11 382 yJ9_floorMod_7cf53 ∈ gw := gw_3 212 rfl rfl
theorem sm_J9_floorMod_7cf53 : Cond.static yJ9_floorMod_7cf53 ∈ gw := gw_3 213 rfl rfl
theorem cd_J9_floorMod_7cf53 : Cond.code yJ9_floorMod_7cf53 cJ9_floorMod_7cf53 3 (some .int) ∈ gw := gw_3 214 rfl rfl
theorem ml_RX10_57 : Cond.methodLink RX10 57 yX9_passWeek ∈ gw := gw_3 215 rfl rfl
theorem im_X9_passWeek : Cond.instanceMethod yX9_passWeek ∈ gw := gw_3 216 rfl rfl
theorem se_X9_passWeek : Cond.selects RX9 yX9_passWeek yX9_passWeek ∈ gw := gw_3 217 rfl rfl
theorem cd_X9_passWeek : Cond.code yX9_passWeek cX9_passWeek 5 (some .int) ∈ gw := gw_3 218 rfl rfl
theorem ml_RX9_27 : Cond.methodLink RX9 27 yJ9_min_7cf53 ∈ gw := gw_3 219 rfl rfl
theorem ml_RL_99 : Cond.methodLink RL 99 yX11_ofWork ∈ gw := gw_3 220 rfl rfl
theorem im_X11_ofWork : Cond.instanceMethod yX11_ofWork ∈ gw := gw_3 221 rfl rfl
theorem se_X11_ofWork : Cond.selects RX11 yX11_ofWork yX11_ofWork ∈ gw := gw_3 222 rfl rfl
theorem cd_X11_ofWork : Cond.code yX11_ofWork cX11_ofWork 4 (some .int) ∈ gw := gw_3 223 rfl rfl
theorem ml_RX11_248 : Cond.methodLink RX11 248 yX9_fact ∈ gw := gw_3 224 rfl rfl
theorem im_X9_fact : Cond.instanceMethod yX9_fact ∈ gw := gw_3 225 rfl rfl
theorem se_X9_fact : Cond.selects RX9 yX9_fact yX9_fact ∈ gw := gw_3 226 rfl rfl
theorem cd_X9_fact : Cond.code yX9_fact cX9_fact 2 (some .int) ∈ gw := gw_3 227 rfl rfl
theorem ml_RL_103 : Cond.methodLink RL 103 yX11_level ∈ gw := gw_3 228 rfl rfl
theorem im_X11_level : Cond.instanceMethod yX11_level ∈ gw := gw_3 229 rfl rfl
theorem se_X11_level : Cond.selects RX11 yX11_level yX11_level ∈ gw := gw_3 230 rfl rfl
theorem cd_X11_level : Cond.code yX11_level cX11_level 4 (some .int) ∈ gw := gw_3 231 rfl rfl
theorem ml_RX11_249 : Cond.methodLink RX11 249 yX10_changeLevel ∈ gw := gw_3 232 rfl rfl
theorem im_X10_changeLevel : Cond.instanceMethod yX10_changeLevel ∈ gw := gw_3 233 rfl rfl
theorem se_X10_changeLevel : Cond.selects RX10 yX10_changeLevel yX10_changeLevel ∈ gw := gw_3 234 rfl rfl
theorem cd_X10_changeLevel : Cond.code yX10_changeLevel cX10_changeLevel 5 (some .boolean) ∈ gw := gw_3 235 rfl rfl
theorem ml_RL_107 : Cond.methodLink RL 107 yX11_told ∈ gw := gw_3 236 rfl rfl
theorem im_X11_told : Cond.instanceMethod yX11_told ∈ gw := gw_3 237 rfl rfl
theorem se_X11_told : Cond.selects RX11 yX11_told yX11_told ∈ gw := gw_3 238 rfl rfl
theorem cd_X11_told : Cond.code yX11_told cX11_told 4 (some .long) ∈ gw := gw_3 239 rfl rfl
theorem cn_RX11_252 : Cond.constantLong RX11 252 (-9223372036854775808) ∈ gw := gw_4 0 rfl rfl
theorem ml_RX11_254 : Cond.methodLink RX11 254 yX10_toldBehind ∈ gw := gw_4 1 rfl rfl
theorem im_X10_toldBehind : Cond.instanceMethod yX10_toldBehind ∈ gw := gw_4 2 rfl rfl
theorem se_X10_toldBehind : Cond.selects RX10 yX10_toldBehind yX10_toldBehind ∈ gw := gw_4 3 rfl rfl
theorem cd_X10_toldBehind : Cond.code yX10_toldBehind cX10_toldBehind 6 (some .long) ∈ gw := gw_4 4 rfl rfl
theorem ml_RX10_68 : Cond.methodLink RX10 68 yX10_toldOnBy ∈ gw := gw_4 5 rfl rfl
theorem im_X10_toldOnBy : Cond.instanceMethod yX10_toldOnBy ∈ gw := gw_4 7 rfl rfl
theorem cd_X10_toldOnBy : Cond.code yX10_toldOnBy cX10_toldOnBy 4 (some .long) ∈ gw := gw_4 8 rfl rfl
theorem ml_RL_112 : Cond.methodLink RL 112 yX11_grew ∈ gw := gw_4 10 rfl rfl
theorem im_X11_grew : Cond.instanceMethod yX11_grew ∈ gw := gw_4 11 rfl rfl
theorem se_X11_grew : Cond.selects RX11 yX11_grew yX11_grew ∈ gw := gw_4 12 rfl rfl
theorem cd_X11_grew : Cond.code yX11_grew cX11_grew 3 (some .int) ∈ gw := gw_4 13 rfl rfl
theorem ml_RX11_258 : Cond.methodLink RX11 258 yX10_greatestGrowth ∈ gw := gw_4 14 rfl rfl
theorem im_X10_greatestGrowth : Cond.instanceMethod yX10_greatestGrowth ∈ gw := gw_4 15 rfl rfl
theorem se_X10_greatestGrowth : Cond.selects RX10 yX10_greatestGrowth yX10_greatestGrowth ∈ gw := gw_4 16 rfl rfl
theorem cd_X10_greatestGrowth : Cond.code yX10_greatestGrowth cX10_greatestGrowth 10 (some .int) ∈ gw := gw_4 17 rfl rfl
theorem ml_RL_116 : Cond.methodLink RL 116 yX11_stand ∈ gw := gw_4 18 rfl rfl
theorem im_X11_stand : Cond.instanceMethod yX11_stand ∈ gw := gw_4 19 rfl rfl
theorem se_X11_stand : Cond.selects RX11 yX11_stand yX11_stand ∈ gw := gw_4 20 rfl rfl
theorem cd_X11_stand : Cond.code yX11_stand cX11_stand 5 (some .int) ∈ gw := gw_4 21 rfl rfl
theorem cn_RX11_262 : Cond.constant RX11 262 (99999) ∈ gw := gw_4 22 rfl rfl
theorem ml_RX11_263 : Cond.methodLink RX11 263 yX8_add ∈ gw := gw_4 23 rfl rfl
theorem im_X8_add : Cond.instanceMethod yX8_add ∈ gw := gw_4 24 rfl rfl
theorem se_X8_add : Cond.selects RX8 yX8_add yX8_add ∈ gw := gw_4 25 rfl rfl
theorem cd_X8_add : Cond.code yX8_add cX8_add 5 (some .int) ∈ gw := gw_4 26 rfl rfl
theorem ml_RL_120 : Cond.methodLink RL 120 yX11_live ∈ gw := gw_4 27 rfl rfl
theorem im_X11_live : Cond.instanceMethod yX11_live ∈ gw := gw_4 28 rfl rfl
theorem se_X11_live : Cond.selects RX11 yX11_live yX11_live ∈ gw := gw_4 29 rfl rfl
theorem cd_X11_live : Cond.code yX11_live cX11_live 3 (some .int) ∈ gw := gw_4 30 rfl rfl
theorem ml_RX11_265 : Cond.methodLink RX11 265 yX8_has ∈ gw := gw_4 31 rfl rfl
theorem im_X8_has : Cond.instanceMethod yX8_has ∈ gw := gw_4 32 rfl rfl
theorem se_X8_has : Cond.selects RX8 yX8_has yX8_has ∈ gw := gw_4 33 rfl rfl
theorem cd_X8_has : Cond.code yX8_has cX8_has 2 (some .boolean) ∈ gw := gw_4 34 rfl rfl
theorem ml_RX11_266 : Cond.methodLink RX11 266 yX11_isYear ∈ gw := gw_4 36 rfl rfl
theorem sm_X11_isYear : Cond.static yX11_isYear ∈ gw := gw_4 37 rfl rfl
theorem cd_X11_isYear : Cond.code yX11_isYear cX11_isYear 1 (some .boolean) ∈ gw := gw_4 38 rfl rfl
theorem ml_RX11_269 : Cond.methodLink RX11 269 yX8_liveIn ∈ gw := gw_4 39 rfl rfl
theorem im_X8_liveIn : Cond.instanceMethod yX8_liveIn ∈ gw := gw_4 40 rfl rfl
theorem se_X8_liveIn : Cond.selects RX8 yX8_liveIn yX8_liveIn ∈ gw := gw_4 41 rfl rfl
theorem cd_X8_liveIn : Cond.code yX8_liveIn cX8_liveIn 6 (some .int) ∈ gw := gw_4 42 rfl rfl
theorem ml_RL_124 : Cond.methodLink RL 124 yX11_forest ∈ gw := gw_4 43 rfl rfl
theorem im_X11_forest : Cond.instanceMethod yX11_forest ∈ gw := gw_4 44 rfl rfl
theorem se_X11_forest : Cond.selects RX11 yX11_forest yX11_forest ∈ gw := gw_4 45 rfl rfl
theorem cd_X11_forest : Cond.code yX11_forest cX11_forest 3 (some .long) ∈ gw := gw_4 46 rfl rfl
theorem ml_RX11_272 : Cond.methodLink RX11 272 yX8_liveOfKind ∈ gw := gw_4 47 rfl rfl
theorem im_X8_liveOfKind : Cond.instanceMethod yX8_liveOfKind ∈ gw := gw_4 48 rfl rfl
theorem se_X8_liveOfKind : Cond.selects RX8 yX8_liveOfKind yX8_liveOfKind ∈ gw := gw_4 49 rfl rfl
theorem cd_X8_liveOfKind : Cond.code yX8_liveOfKind cX8_liveOfKind 6 (some .long) ∈ gw := gw_4 50 rfl rfl
theorem ml_RX8_50 : Cond.methodLink RX8 50 yX8_liveIn ∈ gw := gw_4 51 rfl rfl
theorem ml_RL_128 : Cond.methodLink RL 128 yX11_fire ∈ gw := gw_4 52 rfl rfl
theorem im_X11_fire : Cond.instanceMethod yX11_fire ∈ gw := gw_4 53 rfl rfl
theorem se_X11_fire : Cond.selects RX11 yX11_fire yX11_fire ∈ gw := gw_4 54 rfl rfl
theorem cd_X11_fire : Cond.code yX11_fire cX11_fire 5 (some .int) ∈ gw := gw_4 55 rfl rfl
theorem ml_RX11_276 : Cond.methodLink RX11 276 yX1_add ∈ gw := gw_4 56 rfl rfl
theorem im_X1_add : Cond.instanceMethod yX1_add ∈ gw := gw_4 57 rfl rfl
theorem se_X1_add : Cond.selects RX1 yX1_add yX1_add ∈ gw := gw_4 58 rfl rfl
theorem cd_X1_add : Cond.code yX1_add cX1_add 5 (some .int) ∈ gw := gw_4 59 rfl rfl
theorem ml_RL_132 : Cond.methodLink RL 132 yX11_crew ∈ gw := gw_4 60 rfl rfl
theorem im_X11_crew : Cond.instanceMethod yX11_crew ∈ gw := gw_4 61 rfl rfl
theorem se_X11_crew : Cond.selects RX11 yX11_crew yX11_crew ∈ gw := gw_4 62 rfl rfl
theorem cd_X11_crew : Cond.code yX11_crew cX11_crew 4 (some .int) ∈ gw := gw_4 63 rfl rfl
theorem ml_RL_136 : Cond.methodLink RL 136 yX11_lost ∈ gw := gw_4 64 rfl rfl
theorem im_X11_lost : Cond.instanceMethod yX11_lost ∈ gw := gw_4 65 rfl rfl
theorem se_X11_lost : Cond.selects RX11 yX11_lost yX11_lost ∈ gw := gw_4 66 rfl rfl
theorem cd_X11_lost : Cond.code yX11_lost cX11_lost 2 (some .int) ∈ gw := gw_4 67 rfl rfl
theorem ml_RX11_280 : Cond.methodLink RX11 280 yX1_isCall ∈ gw := gw_4 68 rfl rfl
theorem im_X1_isCall : Cond.instanceMethod yX1_isCall ∈ gw := gw_4 69 rfl rfl
theorem se_X1_isCall : Cond.selects RX1 yX1_isCall yX1_isCall ∈ gw := gw_4 70 rfl rfl
theorem cd_X1_isCall : Cond.code yX1_isCall cX1_isCall 5 (some .boolean) ∈ gw := gw_4 71 rfl rfl
theorem ml_RX11_284 : Cond.methodLink RX11 284 yX1_lostByCall ∈ gw := gw_4 73 rfl rfl
theorem im_X1_lostByCall : Cond.instanceMethod yX1_lostByCall ∈ gw := gw_4 74 rfl rfl
theorem se_X1_lostByCall : Cond.selects RX1 yX1_lostByCall yX1_lostByCall ∈ gw := gw_4 75 rfl rfl
theorem cd_X1_lostByCall : Cond.code yX1_lostByCall cX1_lostByCall 5 (some .int) ∈ gw := gw_4 76 rfl rfl
theorem ml_RX1_48 : Cond.methodLink RX1 48 yX1_lineUp ∈ gw := gw_4 77 rfl rfl
theorem im_X1_lineUp : Cond.instanceMethod yX1_lineUp ∈ gw := gw_4 79 rfl rfl
theorem cd_X1_lineUp : Cond.code yX1_lineUp cX1_lineUp 5 none ∈ gw := gw_4 80 rfl rfl
theorem ml_RX1_85 : Cond.methodLink RX1 85 yX0_far ∈ gw := gw_4 81 rfl rfl
theorem im_X0_far : Cond.instanceMethod yX0_far ∈ gw := gw_4 82 rfl rfl
theorem se_X0_far : Cond.selects RX0 yX0_far yX0_far ∈ gw := gw_4 83 rfl rfl
theorem cd_X0_far : Cond.code yX0_far cX0_far 4 (some .int) ∈ gw := gw_4 84 rfl rfl
theorem ml_RX0_32 : Cond.methodLink RX0 32 yJ9_abs_0f7a4 ∈ gw := gw_4 85 rfl rfl
theorem sm_J9_abs_0f7a4 : Cond.static yJ9_abs_0f7a4 ∈ gw := gw_4 86 rfl rfl
theorem cd_J9_abs_0f7a4 : Cond.code yJ9_abs_0f7a4 cJ9_abs_0f7a4 1 (some .int) ∈ gw := gw_4 87 rfl rfl
theorem ml_RX1_52 : Cond.methodLink RX1 52 yX1_goersTo ∈ gw := gw_4 88 rfl rfl
theorem im_X1_goersTo : Cond.instanceMethod yX1_goersTo ∈ gw := gw_4 90 rfl rfl
theorem cd_X1_goersTo : Cond.code yX1_goersTo cX1_goersTo 7 (some .int) ∈ gw := gw_4 91 rfl rfl
theorem ml_RX1_56 : Cond.methodLink RX1 56 yX1_lostAt ∈ gw := gw_4 94 rfl rfl
theorem im_X1_lostAt : Cond.instanceMethod yX1_lostAt ∈ gw := gw_4 96 rfl rfl
theorem cd_X1_lostAt : Cond.code yX1_lostAt cX1_lostAt 7 (some .int) ∈ gw := gw_4 97 rfl rfl
theorem ml_RX1_92 : Cond.methodLink RX1 92 yJ9_min_7cf53 ∈ gw := gw_4 98 rfl rfl
theorem ml_RL_140 : Cond.methodLink RL 140 yX11_call ∈ gw := gw_4 99 rfl rfl
theorem im_X11_call : Cond.instanceMethod yX11_call ∈ gw := gw_4 100 rfl rfl
theorem se_X11_call : Cond.selects RX11 yX11_call yX11_call ∈ gw := gw_4 101 rfl rfl
theorem cd_X11_call : Cond.code yX11_call cX11_call 2 (some .int) ∈ gw := gw_4 102 rfl rfl
theorem ml_RX11_288 : Cond.methodLink RX11 288 yX1_bestCall ∈ gw := gw_4 103 rfl rfl
theorem im_X1_bestCall : Cond.instanceMethod yX1_bestCall ∈ gw := gw_4 104 rfl rfl
theorem se_X1_bestCall : Cond.selects RX1 yX1_bestCall yX1_bestCall ∈ gw := gw_4 105 rfl rfl
theorem cd_X1_bestCall : Cond.code yX1_bestCall cX1_bestCall 6 (some .long) ∈ gw := gw_4 106 rfl rfl
theorem cn_RX1_59 : Cond.constantLong RX1 59 (1152921504606846976) ∈ gw := gw_4 107 rfl rfl
theorem ml_RX1_61 : Cond.methodLink RX1 61 yJ7_fill_d0a16 ∈ gw := gw_4 108 rfl rfl
theorem sm_J7_fill_d0a16 : Cond.static yJ7_fill_d0a16 ∈ gw := gw_4 109 rfl rfl
theorem cd_J7_fill_d0a16 : Cond.code yJ7_fill_d0a16 cJ7_fill_d0a16 5 none ∈ gw := gw_4 110 rfl rfl
theorem ml_RX1_67 : Cond.methodLink RX1 67 yX1_worthOf ∈ gw := gw_4 111 rfl rfl
theorem im_X1_worthOf : Cond.instanceMethod yX1_worthOf ∈ gw := gw_4 113 rfl rfl
theorem cd_X1_worthOf : Cond.code yX1_worthOf cX1_worthOf 7 (some .long) ∈ gw := gw_4 114 rfl rfl
theorem ml_RX1_81 : Cond.methodLink RX1 81 yX1_rowBit ∈ gw := gw_4 115 rfl rfl
theorem sm_X1_rowBit : Cond.static yX1_rowBit ∈ gw := gw_4 116 rfl rfl
theorem cd_X1_rowBit : Cond.code yX1_rowBit cX1_rowBit 1 (some .int) ∈ gw := gw_4 117 rfl rfl
theorem ml_RX1_71 : Cond.methodLink RX1 71 yX1_bestSplit ∈ gw := gw_4 118 rfl rfl
theorem im_X1_bestSplit : Cond.instanceMethod yX1_bestSplit ∈ gw := gw_4 120 rfl rfl
theorem cd_X1_bestSplit : Cond.code yX1_bestSplit cX1_bestSplit 5 (some .long) ∈ gw := gw_4 121 rfl rfl
theorem ml_RX1_75 : Cond.methodLink RX1 75 yJ9_min_f86c9 ∈ gw := gw_4 122 rfl rfl
theorem sm_J9_min_f86c9 : Cond.static yJ9_min_f86c9 ∈ gw := gw_4 123 rfl rfl
theorem cd_J9_min_f86c9 : Cond.code yJ9_min_f86c9 cJ9_min_f86c9 4 (some .long) ∈ gw := gw_4 124 rfl rfl
theorem ml_RX11_292 : Cond.methodLink RX11 292 yX1_lostIn ∈ gw := gw_4 125 rfl rfl
theorem sm_X1_lostIn : Cond.static yX1_lostIn ∈ gw := gw_4 126 rfl rfl
theorem cd_X1_lostIn : Cond.code yX1_lostIn cX1_lostIn 2 (some .int) ∈ gw := gw_4 127 rfl rfl
theorem ml_RX11_296 : Cond.methodLink RX11 296 yX1_handsIn ∈ gw := gw_4 128 rfl rfl
theorem sm_X1_handsIn : Cond.static yX1_handsIn ∈ gw := gw_4 129 rfl rfl
theorem cd_X1_handsIn : Cond.code yX1_handsIn cX1_handsIn 2 (some .int) ∈ gw := gw_4 130 rfl rfl
theorem ml_RX11_299 : Cond.methodLink RX11 299 yX1_goalIn ∈ gw := gw_4 131 rfl rfl
theorem sm_X1_goalIn : Cond.static yX1_goalIn ∈ gw := gw_4 132 rfl rfl
theorem cd_X1_goalIn : Cond.code yX1_goalIn cX1_goalIn 3 (some .int) ∈ gw := gw_4 133 rfl rfl
theorem ml_RL_144 : Cond.methodLink RL 144 yX11_place ∈ gw := gw_4 134 rfl rfl
theorem im_X11_place : Cond.instanceMethod yX11_place ∈ gw := gw_4 135 rfl rfl
theorem se_X11_place : Cond.selects RX11 yX11_place yX11_place ∈ gw := gw_4 136 rfl rfl
theorem cd_X11_place : Cond.code yX11_place cX11_place 5 (some .int) ∈ gw := gw_4 137 rfl rfl
theorem ml_RX11_303 : Cond.methodLink RX11 303 yX5_add ∈ gw := gw_4 138 rfl rfl
theorem im_X5_add : Cond.instanceMethod yX5_add ∈ gw := gw_4 139 rfl rfl
theorem se_X5_add : Cond.selects RX5 yX5_add yX5_add ∈ gw := gw_4 140 rfl rfl
theorem cd_X5_add : Cond.code yX5_add cX5_add 5 (some .int) ∈ gw := gw_4 141 rfl rfl
theorem ml_RL_149 : Cond.methodLink RL 149 yX11_move ∈ gw := gw_4 142 rfl rfl
theorem im_X11_move : Cond.instanceMethod yX11_move ∈ gw := gw_4 143 rfl rfl
theorem se_X11_move : Cond.selects RX11 yX11_move yX11_move ∈ gw := gw_4 144 rfl rfl
theorem cd_X11_move : Cond.code yX11_move cX11_move 3 (some .long) ∈ gw := gw_4 145 rfl rfl
theorem ml_RX11_306 : Cond.methodLink RX11 306 yX5_findBestMove ∈ gw := gw_4 146 rfl rfl
theorem im_X5_findBestMove : Cond.instanceMethod yX5_findBestMove ∈ gw := gw_4 147 rfl rfl
theorem se_X5_findBestMove : Cond.selects RX5 yX5_findBestMove yX5_findBestMove ∈ gw := gw_4 148 rfl rfl
theorem cd_X5_findBestMove : Cond.code yX5_findBestMove cX5_findBestMove 4 (some .boolean) ∈ gw := gw_4 149 rfl rfl
theorem ml_RX5_37 : Cond.methodLink RX5 37 yX5_mostBehind ∈ gw := gw_4 150 rfl rfl
theorem im_X5_mostBehind : Cond.instanceMethod yX5_mostBehind ∈ gw := gw_4 152 rfl rfl
theorem cd_X5_mostBehind : Cond.code yX5_mostBehind cX5_mostBehind 6 (some .int) ∈ gw := gw_4 153 rfl rfl
theorem ml_RX5_74 : Cond.methodLink RX5 74 yJ6_bitCount_0f7a4 ∈ gw := gw_4 154 rfl rfl
theorem sm_J6_bitCount_0f7a4 : Cond.static yJ6_bitCount_0f7a4 ∈ gw := gw_4 155 rfl rfl
theorem cd_J6_bitCount_0f7a4 : Cond.code yJ6_bitCount_0f7a4 cJ6_bitCount_0f7a4 1 (some .int) ∈ gw := gw_4 156 rfl rfl
theorem cn_RJ6_265 : Cond.constant RJ6 265 (1431655765) ∈ gw := gw_4 157 rfl rfl
theorem cn_RJ6_266 : Cond.constant RJ6 266 (858993459) ∈ gw := gw_4 158 rfl rfl
theorem cn_RJ6_267 : Cond.constant RJ6 267 (252645135) ∈ gw := gw_4 159 rfl rfl
theorem cn_RX5_41 : Cond.constant RX5 41 (-2147483648) ∈ gw := gw_4 160 rfl rfl
theorem ml_RX5_77 : Cond.methodLink RX5 77 yX5_gainFrom ∈ gw := gw_4 161 rfl rfl
theorem im_X5_gainFrom : Cond.instanceMethod yX5_gainFrom ∈ gw := gw_4 163 rfl rfl
theorem cd_X5_gainFrom : Cond.code yX5_gainFrom cX5_gainFrom 5 (some .int) ∈ gw := gw_4 164 rfl rfl
theorem ml_RX5_61 : Cond.methodLink RX5 61 yX5_isFree ∈ gw := gw_4 165 rfl rfl
theorem im_X5_isFree : Cond.instanceMethod yX5_isFree ∈ gw := gw_4 167 rfl rfl
theorem cd_X5_isFree : Cond.code yX5_isFree cX5_isFree 3 (some .boolean) ∈ gw := gw_4 168 rfl rfl
theorem ml_RX5_67 : Cond.methodLink RX5 67 yX5_gainOf ∈ gw := gw_4 169 rfl rfl
theorem im_X5_gainOf : Cond.instanceMethod yX5_gainOf ∈ gw := gw_4 171 rfl rfl
theorem cd_X5_gainOf : Cond.code yX5_gainOf cX5_gainOf 4 (some .int) ∈ gw := gw_4 172 rfl rfl
theorem ml_RX5_70 : Cond.methodLink RX5 70 yX0_far ∈ gw := gw_4 173 rfl rfl
theorem ml_RX5_81 : Cond.methodLink RX5 81 yJ9_max_7cf53 ∈ gw := gw_4 174 rfl rfl
theorem ml_RX5_45 : Cond.methodLink RX5 45 yX5_firstOfMost ∈ gw := gw_4 175 rfl rfl
theorem im_X5_firstOfMost : Cond.instanceMethod yX5_firstOfMost ∈ gw := gw_4 177 rfl rfl
theorem cd_X5_firstOfMost : Cond.code yX5_firstOfMost cX5_firstOfMost 5 (some .int) ∈ gw := gw_4 178 rfl rfl
theorem ml_RX11_310 : Cond.methodLink RX11 310 yX5_bestGain ∈ gw := gw_4 179 rfl rfl
theorem im_X5_bestGain : Cond.instanceMethod yX5_bestGain ∈ gw := gw_4 180 rfl rfl
theorem se_X5_bestGain : Cond.selects RX5 yX5_bestGain yX5_bestGain ∈ gw := gw_4 181 rfl rfl
theorem cd_X5_bestGain : Cond.code yX5_bestGain cX5_bestGain 1 (some .int) ∈ gw := gw_4 182 rfl rfl
theorem cn_RX11_316 : Cond.constantLong RX11 316 (-9) ∈ gw := gw_4 183 rfl rfl
theorem ml_RL_154 : Cond.methodLink RL 154 yX11_gain ∈ gw := gw_4 184 rfl rfl
theorem im_X11_gain : Cond.instanceMethod yX11_gain ∈ gw := gw_4 185 rfl rfl
theorem se_X11_gain : Cond.selects RX11 yX11_gain yX11_gain ∈ gw := gw_4 186 rfl rfl
theorem cd_X11_gain : Cond.code yX11_gain cX11_gain 7 (some .long) ∈ gw := gw_4 187 rfl rfl
theorem ml_RX11_318 : Cond.methodLink RX11 318 yX5_gainBy ∈ gw := gw_4 188 rfl rfl
theorem im_X5_gainBy : Cond.instanceMethod yX5_gainBy ∈ gw := gw_4 189 rfl rfl
theorem se_X5_gainBy : Cond.selects RX5 yX5_gainBy yX5_gainBy ∈ gw := gw_4 190 rfl rfl
theorem cd_X5_gainBy : Cond.code yX5_gainBy cX5_gainBy 9 (some .long) ∈ gw := gw_4 191 rfl rfl
theorem ml_RX5_51 : Cond.methodLink RX5 51 yX7_read ∈ gw := gw_4 192 rfl rfl
theorem cn_RX5_65 : Cond.constantLong RX5 65 (-9223372036854775808) ∈ gw := gw_4 194 rfl rfl
theorem ml_RL_159 : Cond.methodLink RL 159 yX11_go ∈ gw := gw_4 195 rfl rfl
theorem im_X11_go : Cond.instanceMethod yX11_go ∈ gw := gw_4 196 rfl rfl
theorem se_X11_go : Cond.selects RX11 yX11_go yX11_go ∈ gw := gw_4 197 rfl rfl
theorem cd_X11_go : Cond.code yX11_go cX11_go 1 (some .int) ∈ gw := gw_4 198 rfl rfl
theorem ml_RX11_322 : Cond.methodLink RX11 322 yX5_moveCamps ∈ gw := gw_4 199 rfl rfl
theorem im_X5_moveCamps : Cond.instanceMethod yX5_moveCamps ∈ gw := gw_4 200 rfl rfl
theorem se_X5_moveCamps : Cond.selects RX5 yX5_moveCamps yX5_moveCamps ∈ gw := gw_4 201 rfl rfl
theorem cd_X5_moveCamps : Cond.code yX5_moveCamps cX5_moveCamps 3 none ∈ gw := gw_4 202 rfl rfl
theorem ml_RL_163 : Cond.methodLink RL 163 yX11_spot ∈ gw := gw_4 203 rfl rfl
theorem im_X11_spot : Cond.instanceMethod yX11_spot ∈ gw := gw_4 204 rfl rfl
theorem se_X11_spot : Cond.selects RX11 yX11_spot yX11_spot ∈ gw := gw_4 205 rfl rfl
theorem cd_X11_spot : Cond.code yX11_spot cX11_spot 3 (some .int) ∈ gw := gw_4 206 rfl rfl
theorem ml_RL_167 : Cond.methodLink RL 167 yX11_sheet ∈ gw := gw_4 207 rfl rfl
theorem im_X11_sheet : Cond.instanceMethod yX11_sheet ∈ gw := gw_4 208 rfl rfl
theorem se_X11_sheet : Cond.selects RX11 yX11_sheet yX11_sheet ∈ gw := gw_4 209 rfl rfl
theorem cd_X11_sheet : Cond.code yX11_sheet cX11_sheet 5 (some .int) ∈ gw := gw_4 210 rfl rfl
theorem ml_RX11_332 : Cond.methodLink RX11 332 yX7_renew ∈ gw := gw_4 211 rfl rfl
theorem im_X7_renew : Cond.instanceMethod yX7_renew ∈ gw := gw_4 212 rfl rfl
theorem se_X7_renew : Cond.selects RX7 yX7_renew yX7_renew ∈ gw := gw_4 213 rfl rfl
theorem cd_X7_renew : Cond.code yX7_renew cX7_renew 3 none ∈ gw := gw_4 214 rfl rfl
theorem ml_RX7_19 : Cond.methodLink RX7 19 yJ7_fill_53178 ∈ gw := gw_4 215 rfl rfl
theorem ml_RL_171 : Cond.methodLink RL 171 yX11_lose ∈ gw := gw_4 216 rfl rfl
theorem im_X11_lose : Cond.instanceMethod yX11_lose ∈ gw := gw_4 217 rfl rfl
theorem se_X11_lose : Cond.selects RX11 yX11_lose yX11_lose ∈ gw := gw_4 218 rfl rfl
theorem cd_X11_lose : Cond.code yX11_lose cX11_lose 3 (some .int) ∈ gw := gw_4 219 rfl rfl
theorem ml_RX11_336 : Cond.methodLink RX11 336 yX7_drop ∈ gw := gw_4 220 rfl rfl
theorem im_X7_drop : Cond.instanceMethod yX7_drop ∈ gw := gw_4 221 rfl rfl
theorem se_X7_drop : Cond.selects RX7 yX7_drop yX7_drop ∈ gw := gw_4 222 rfl rfl
theorem cd_X7_drop : Cond.code yX7_drop cX7_drop 2 (some .boolean) ∈ gw := gw_4 223 rfl rfl
theorem ml_RL_175 : Cond.methodLink RL 175 yX11_put ∈ gw := gw_4 224 rfl rfl
theorem im_X11_put : Cond.instanceMethod yX11_put ∈ gw := gw_4 225 rfl rfl
theorem se_X11_put : Cond.selects RX11 yX11_put yX11_put ∈ gw := gw_4 226 rfl rfl
theorem cd_X11_put : Cond.code yX11_put cX11_put 6 (some .int) ∈ gw := gw_4 227 rfl rfl
theorem ml_RX11_342 : Cond.methodLink RX11 342 yX7_write ∈ gw := gw_4 228 rfl rfl
theorem im_X7_write : Cond.instanceMethod yX7_write ∈ gw := gw_4 229 rfl rfl
theorem se_X7_write : Cond.selects RX7 yX7_write yX7_write ∈ gw := gw_4 230 rfl rfl
theorem cd_X7_write : Cond.code yX7_write cX7_write 3 none ∈ gw := gw_4 231 rfl rfl
theorem ml_RX7_32 : Cond.methodLink RX7 32 yX7_cutToLane ∈ gw := gw_4 232 rfl rfl
theorem im_X7_cutToLane : Cond.instanceMethod yX7_cutToLane ∈ gw := gw_4 234 rfl rfl
theorem cd_X7_cutToLane : Cond.code yX7_cutToLane cX7_cutToLane 2 (some .int) ∈ gw := gw_4 235 rfl rfl
theorem ml_RL_179 : Cond.methodLink RL 179 yX11_cell ∈ gw := gw_4 236 rfl rfl
theorem im_X11_cell : Cond.instanceMethod yX11_cell ∈ gw := gw_4 237 rfl rfl
theorem se_X11_cell : Cond.selects RX11 yX11_cell yX11_cell ∈ gw := gw_4 238 rfl rfl
theorem cd_X11_cell : Cond.code yX11_cell cX11_cell 6 (some .long) ∈ gw := gw_4 239 rfl rfl
theorem ml_RX11_345 : Cond.methodLink RX11 345 yX7_read ∈ gw := gw_5 0 rfl rfl
theorem ml_RL_184 : Cond.methodLink RL 184 yX11_tell ∈ gw := gw_5 1 rfl rfl
theorem im_X11_tell : Cond.instanceMethod yX11_tell ∈ gw := gw_5 2 rfl rfl
theorem se_X11_tell : Cond.selects RX11 yX11_tell yX11_tell ∈ gw := gw_5 3 rfl rfl
theorem cd_X11_tell : Cond.code yX11_tell cX11_tell 3 (some .int) ∈ gw := gw_5 4 rfl rfl
theorem ml_RX11_348 : Cond.methodLink RX11 348 yX11_postAt ∈ gw := gw_5 5 rfl rfl
theorem im_X11_postAt : Cond.instanceMethod yX11_postAt ∈ gw := gw_5 7 rfl rfl
theorem cd_X11_postAt : Cond.code yX11_postAt cX11_postAt 2 (some (.object "CampYears$Post")) ∈ gw := gw_5 8 rfl rfl
theorem ml_RX11_355 : Cond.methodLink RX11 355 yX11_tellingOfChief ∈ gw := gw_5 9 rfl rfl
theorem im_X11_tellingOfChief : Cond.instanceMethod yX11_tellingOfChief ∈ gw := gw_5 11 rfl rfl
theorem cd_X11_tellingOfChief : Cond.code yX11_tellingOfChief cX11_tellingOfChief 3 (some .int) ∈ gw := gw_5 12 rfl rfl
theorem ml_RX11_365 : Cond.methodLink RX11 365 yX11_leaveInTrace ∈ gw := gw_5 13 rfl rfl
theorem im_X11_leaveInTrace : Cond.instanceMethod yX11_leaveInTrace ∈ gw := gw_5 15 rfl rfl
theorem cd_X11_leaveInTrace : Cond.code yX11_leaveInTrace cX11_leaveInTrace 2 none ∈ gw := gw_5 16 rfl rfl
theorem ml_RX11_359 : Cond.methodLink RX11 359 yX11_tellingOfLeader ∈ gw := gw_5 17 rfl rfl
theorem im_X11_tellingOfLeader : Cond.instanceMethod yX11_tellingOfLeader ∈ gw := gw_5 19 rfl rfl
theorem cd_X11_tellingOfLeader : Cond.code yX11_tellingOfLeader cX11_tellingOfLeader 2 (some .int) ∈ gw := gw_5 20 rfl rfl
theorem ml_RX11_362 : Cond.methodLink RX11 362 yX11_tellingOfPost ∈ gw := gw_5 21 rfl rfl
theorem im_X11_tellingOfPost : Cond.instanceMethod yX11_tellingOfPost ∈ gw := gw_5 23 rfl rfl
theorem cd_X11_tellingOfPost : Cond.code yX11_tellingOfPost cX11_tellingOfPost 2 (some .int) ∈ gw := gw_5 24 rfl rfl
theorem ml_RL_188 : Cond.methodLink RL 188 yX11_roll ∈ gw := gw_5 25 rfl rfl
theorem im_X11_roll : Cond.instanceMethod yX11_roll ∈ gw := gw_5 26 rfl rfl
theorem se_X11_roll : Cond.selects RX11 yX11_roll yX11_roll ∈ gw := gw_5 27 rfl rfl
theorem cd_X11_roll : Cond.code yX11_roll cX11_roll 3 (some .int) ∈ gw := gw_5 28 rfl rfl
theorem ml_RL_192 : Cond.methodLink RL 192 yX11_as ∈ gw := gw_5 29 rfl rfl
theorem im_X11_as : Cond.instanceMethod yX11_as ∈ gw := gw_5 30 rfl rfl
theorem se_X11_as : Cond.selects RX11 yX11_as yX11_as ∈ gw := gw_5 31 rfl rfl
theorem cd_X11_as : Cond.code yX11_as cX11_as 4 (some .int) ∈ gw := gw_5 32 rfl rfl
theorem ml_RL_196 : Cond.methodLink RL 196 yX11_trace ∈ gw := gw_5 33 rfl rfl
theorem im_X11_trace : Cond.instanceMethod yX11_trace ∈ gw := gw_5 34 rfl rfl
theorem se_X11_trace : Cond.selects RX11 yX11_trace yX11_trace ∈ gw := gw_5 35 rfl rfl
theorem cd_X11_trace : Cond.code yX11_trace cX11_trace 1 (some .int) ∈ gw := gw_5 36 rfl rfl
theorem ml_RL_200 : Cond.methodLink RL 200 yX11_fault ∈ gw := gw_5 37 rfl rfl
theorem im_X11_fault : Cond.instanceMethod yX11_fault ∈ gw := gw_5 38 rfl rfl
theorem se_X11_fault : Cond.selects RX11 yX11_fault yX11_fault ∈ gw := gw_5 39 rfl rfl
theorem cd_X11_fault : Cond.code yX11_fault cX11_fault 1 (some .int) ∈ gw := gw_5 40 rfl rfl
theorem ml_RL_204 : Cond.methodLink RL 204 yX11_many ∈ gw := gw_5 41 rfl rfl
theorem im_X11_many : Cond.instanceMethod yX11_many ∈ gw := gw_5 42 rfl rfl
theorem se_X11_many : Cond.selects RX11 yX11_many yX11_many ∈ gw := gw_5 43 rfl rfl
theorem cd_X11_many : Cond.code yX11_many cX11_many 2 (some .int) ∈ gw := gw_5 44 rfl rfl
theorem cl_RL_10 : Cond.classLink RL 10 RX12 ∈ gw := gw_5 45 rfl rfl
theorem it_RX12 : Cond.instantiable RX12 71 ∈ gw := gw_5 46 rfl rfl
theorem ml_RL_12 : Cond.methodLink RL 12 yX12_init ∈ gw := gw_5 47 rfl rfl
theorem im_X12_init : Cond.instanceMethod yX12_init ∈ gw := gw_5 48 rfl rfl
theorem cd_X12_init : Cond.code yX12_init cX12_init 1 none ∈ gw := gw_5 49 rfl rfl
theorem ml_RX12_1 : Cond.methodLink RX12 1 Lib.objectInit ∈ gw := gw_5 50 rfl rfl
theorem fl_RX12_181 : Cond.fieldLink RX12 181 "CampYearsModel" "fault" "I" ∈ gw := gw_5 51 rfl rfl
theorem fl_RX12_338 : Cond.fieldLink RX12 338 "CampYearsModel" "trace" "I" ∈ gw := gw_5 52 rfl rfl
theorem fl_RX12_9 : Cond.fieldLink RX12 9 "CampYearsModel" "lanes" "[I" ∈ gw := gw_5 53 rfl rfl
theorem fl_RX12_13 : Cond.fieldLink RX12 13 "CampYearsModel" "sheetLong" "[I" ∈ gw := gw_5 54 rfl rfl
theorem fl_RX12_16 : Cond.fieldLink RX12 16 "CampYearsModel" "cells" "[I" ∈ gw := gw_5 55 rfl rfl
theorem fl_RX12_190 : Cond.fieldLink RX12 190 "CampYearsModel" "camps" "I" ∈ gw := gw_5 56 rfl rfl
theorem fl_RX12_19 : Cond.fieldLink RX12 19 "CampYearsModel" "campX" "[I" ∈ gw := gw_5 57 rfl rfl
theorem fl_RX12_22 : Cond.fieldLink RX12 22 "CampYearsModel" "campY" "[I" ∈ gw := gw_5 58 rfl rfl
theorem fl_RX12_25 : Cond.fieldLink RX12 25 "CampYearsModel" "bedsOf" "[I" ∈ gw := gw_5 59 rfl rfl
theorem fl_RX12_193 : Cond.fieldLink RX12 193 "CampYearsModel" "men" "I" ∈ gw := gw_5 60 rfl rfl
theorem fl_RX12_196 : Cond.fieldLink RX12 196 "CampYearsModel" "posts" "I" ∈ gw := gw_5 61 rfl rfl
theorem fl_RX12_28 : Cond.fieldLink RX12 28 "CampYearsModel" "postKind" "[I" ∈ gw := gw_5 62 rfl rfl
theorem fl_RX12_31 : Cond.fieldLink RX12 31 "CampYearsModel" "postMan" "[I" ∈ gw := gw_5 63 rfl rfl
theorem fl_RX12_34 : Cond.fieldLink RX12 34 "CampYearsModel" "postCamp" "[I" ∈ gw := gw_5 64 rfl rfl
theorem fl_RX12_37 : Cond.fieldLink RX12 37 "CampYearsModel" "postFrom" "[I" ∈ gw := gw_5 65 rfl rfl
theorem fl_RX12_40 : Cond.fieldLink RX12 40 "CampYearsModel" "postTill" "[I" ∈ gw := gw_5 66 rfl rfl
theorem fl_RX12_256 : Cond.fieldLink RX12 256 "CampYearsModel" "orders" "I" ∈ gw := gw_5 67 rfl rfl
theorem fl_RX12_43 : Cond.fieldLink RX12 43 "CampYearsModel" "orderOffice" "[I" ∈ gw := gw_5 68 rfl rfl
theorem fl_RX12_46 : Cond.fieldLink RX12 46 "CampYearsModel" "hourFrom" "[I" ∈ gw := gw_5 69 rfl rfl
theorem fl_RX12_49 : Cond.fieldLink RX12 49 "CampYearsModel" "hourTo" "[I" ∈ gw := gw_5 70 rfl rfl
theorem fl_RX12_52 : Cond.fieldLink RX12 52 "CampYearsModel" "dayFrom" "[I" ∈ gw := gw_5 71 rfl rfl
theorem fl_RX12_55 : Cond.fieldLink RX12 55 "CampYearsModel" "dayTo" "[I" ∈ gw := gw_5 72 rfl rfl
theorem fl_RX12_58 : Cond.fieldLink RX12 58 "CampYearsModel" "leftOut" "[I" ∈ gw := gw_5 73 rfl rfl
theorem fl_RX12_61 : Cond.fieldLink RX12 61 "CampYearsModel" "given" "[I" ∈ gw := gw_5 74 rfl rfl
theorem fl_RX12_64 : Cond.fieldLink RX12 64 "CampYearsModel" "delays" "[I" ∈ gw := gw_5 75 rfl rfl
theorem fl_RX12_223 : Cond.fieldLink RX12 223 "CampYearsModel" "at" "I" ∈ gw := gw_5 76 rfl rfl
theorem fl_RX12_226 : Cond.fieldLink RX12 226 "CampYearsModel" "end" "I" ∈ gw := gw_5 77 rfl rfl
theorem fl_RX12_229 : Cond.fieldLink RX12 229 "CampYearsModel" "wrongAt" "I" ∈ gw := gw_5 78 rfl rfl
theorem fl_RX12_67 : Cond.fieldLink RX12 67 "CampYearsModel" "rates" "[I" ∈ gw := gw_5 79 rfl rfl
theorem fl_RX12_70 : Cond.fieldLink RX12 70 "CampYearsModel" "homeA" "I" ∈ gw := gw_5 80 rfl rfl
theorem fl_RX12_74 : Cond.fieldLink RX12 74 "CampYearsModel" "homeB" "I" ∈ gw := gw_5 81 rfl rfl
theorem fl_RX12_268 : Cond.fieldLink RX12 268 "CampYearsModel" "fines" "I" ∈ gw := gw_5 82 rfl rfl
theorem fl_RX12_77 : Cond.fieldLink RX12 77 "CampYearsModel" "fineMan" "[I" ∈ gw := gw_5 83 rfl rfl
theorem fl_RX12_80 : Cond.fieldLink RX12 80 "CampYearsModel" "fineDay" "[I" ∈ gw := gw_5 84 rfl rfl
theorem fl_RX12_83 : Cond.fieldLink RX12 83 "CampYearsModel" "fineCents" "[I" ∈ gw := gw_5 85 rfl rfl
theorem fl_RX12_271 : Cond.fieldLink RX12 271 "CampYearsModel" "works" "I" ∈ gw := gw_5 86 rfl rfl
theorem fl_RX12_86 : Cond.fieldLink RX12 86 "CampYearsModel" "workCamp" "[I" ∈ gw := gw_5 87 rfl rfl
theorem fl_RX12_89 : Cond.fieldLink RX12 89 "CampYearsModel" "needs" "[I" ∈ gw := gw_5 88 rfl rfl
theorem fl_RX12_92 : Cond.fieldLink RX12 92 "CampYearsModel" "done" "[I" ∈ gw := gw_5 89 rfl rfl
theorem fl_RX12_95 : Cond.fieldLink RX12 95 "CampYearsModel" "toolsOf" "[I" ∈ gw := gw_5 90 rfl rfl
theorem fl_RX12_98 : Cond.fieldLink RX12 98 "CampYearsModel" "handsOf" "[I" ∈ gw := gw_5 91 rfl rfl
theorem fl_RX12_101 : Cond.fieldLink RX12 101 "CampYearsModel" "noTool" "[I" ∈ gw := gw_5 92 rfl rfl
theorem fl_RX12_104 : Cond.fieldLink RX12 104 "CampYearsModel" "noDay" "[I" ∈ gw := gw_5 93 rfl rfl
theorem fl_RX12_107 : Cond.fieldLink RX12 107 "CampYearsModel" "counted" "[I" ∈ gw := gw_5 94 rfl rfl
theorem fl_RX12_110 : Cond.fieldLink RX12 110 "CampYearsModel" "weather" "[I" ∈ gw := gw_5 95 rfl rfl
theorem fl_RX12_113 : Cond.fieldLink RX12 113 "CampYearsModel" "weatherLong" "I" ∈ gw := gw_5 96 rfl rfl
theorem fl_RX12_277 : Cond.fieldLink RX12 277 "CampYearsModel" "weeks" "I" ∈ gw := gw_5 97 rfl rfl
theorem fl_RX12_116 : Cond.fieldLink RX12 116 "CampYearsModel" "levelA" "[I" ∈ gw := gw_5 98 rfl rfl
theorem fl_RX12_119 : Cond.fieldLink RX12 119 "CampYearsModel" "levelB" "[I" ∈ gw := gw_5 99 rfl rfl
theorem fl_RX12_122 : Cond.fieldLink RX12 122 "CampYearsModel" "shares" "[I" ∈ gw := gw_5 100 rfl rfl
theorem fl_RX12_285 : Cond.fieldLink RX12 285 "CampYearsModel" "stands" "I" ∈ gw := gw_5 101 rfl rfl
theorem fl_RX12_125 : Cond.fieldLink RX12 125 "CampYearsModel" "standKind" "[I" ∈ gw := gw_5 102 rfl rfl
theorem fl_RX12_128 : Cond.fieldLink RX12 128 "CampYearsModel" "slopes" "[I" ∈ gw := gw_5 103 rfl rfl
theorem fl_RX12_131 : Cond.fieldLink RX12 131 "CampYearsModel" "planted" "[I" ∈ gw := gw_5 104 rfl rfl
theorem fl_RX12_134 : Cond.fieldLink RX12 134 "CampYearsModel" "plantedIn" "[I" ∈ gw := gw_5 105 rfl rfl
theorem fl_RX12_291 : Cond.fieldLink RX12 291 "CampYearsModel" "fires" "I" ∈ gw := gw_5 106 rfl rfl
theorem fl_RX12_137 : Cond.fieldLink RX12 137 "CampYearsModel" "fireX" "[I" ∈ gw := gw_5 107 rfl rfl
theorem fl_RX12_140 : Cond.fieldLink RX12 140 "CampYearsModel" "fireY" "[I" ∈ gw := gw_5 108 rfl rfl
theorem fl_RX12_143 : Cond.fieldLink RX12 143 "CampYearsModel" "fireNeed" "[I" ∈ gw := gw_5 109 rfl rfl
theorem fl_RX12_146 : Cond.fieldLink RX12 146 "CampYearsModel" "spreads" "[I" ∈ gw := gw_5 110 rfl rfl
theorem fl_RX12_149 : Cond.fieldLink RX12 149 "CampYearsModel" "crews" "[I" ∈ gw := gw_5 111 rfl rfl
theorem fl_RX12_152 : Cond.fieldLink RX12 152 "CampYearsModel" "goes" "[I" ∈ gw := gw_5 112 rfl rfl
theorem fl_RX12_155 : Cond.fieldLink RX12 155 "CampYearsModel" "hours" "[I" ∈ gw := gw_5 113 rfl rfl
theorem fl_RX12_317 : Cond.fieldLink RX12 317 "CampYearsModel" "places" "I" ∈ gw := gw_5 114 rfl rfl
theorem fl_RX12_158 : Cond.fieldLink RX12 158 "CampYearsModel" "placeX" "[I" ∈ gw := gw_5 115 rfl rfl
theorem fl_RX12_161 : Cond.fieldLink RX12 161 "CampYearsModel" "placeY" "[I" ∈ gw := gw_5 116 rfl rfl
theorem fl_RX12_164 : Cond.fieldLink RX12 164 "CampYearsModel" "reaches" "[I" ∈ gw := gw_5 117 rfl rfl
theorem fl_RX12_167 : Cond.fieldLink RX12 167 "CampYearsModel" "hasWater" "[Z" ∈ gw := gw_5 118 rfl rfl
theorem fl_RX12_171 : Cond.fieldLink RX12 171 "CampYearsModel" "most" "[J" ∈ gw := gw_5 119 rfl rfl
theorem fl_RX12_175 : Cond.fieldLink RX12 175 "CampYearsModel" "toX" "[I" ∈ gw := gw_5 120 rfl rfl
theorem fl_RX12_178 : Cond.fieldLink RX12 178 "CampYearsModel" "toY" "[I" ∈ gw := gw_5 121 rfl rfl
theorem ml_RL_17 : Cond.methodLink RL 17 yX12_camp ∈ gw := gw_6 25 rfl rfl
theorem im_X12_camp : Cond.instanceMethod yX12_camp ∈ gw := gw_6 26 rfl rfl
theorem se_X12_camp : Cond.selects RX12 yX12_camp yX12_camp ∈ gw := gw_6 27 rfl rfl
theorem cd_X12_camp : Cond.code yX12_camp cX12_camp 4 (some .int) ∈ gw := gw_6 28 rfl rfl
theorem ml_RX12_199 : Cond.methodLink RX12 199 yX12_isSpot ∈ gw := gw_6 29 rfl rfl
theorem sm_X12_isSpot : Cond.static yX12_isSpot ∈ gw := gw_6 30 rfl rfl
theorem cd_X12_isSpot : Cond.code yX12_isSpot cX12_isSpot 2 (some .boolean) ∈ gw := gw_6 31 rfl rfl
theorem ml_RX12_186 : Cond.methodLink RX12 186 yX12_within ∈ gw := gw_6 32 rfl rfl
theorem sm_X12_within : Cond.static yX12_within ∈ gw := gw_6 33 rfl rfl
theorem cd_X12_within : Cond.code yX12_within cX12_within 3 (some .boolean) ∈ gw := gw_6 34 rfl rfl
theorem ml_RL_22 : Cond.methodLink RL 22 yX12_man ∈ gw := gw_6 35 rfl rfl
theorem im_X12_man : Cond.instanceMethod yX12_man ∈ gw := gw_6 36 rfl rfl
theorem se_X12_man : Cond.selects RX12 yX12_man yX12_man ∈ gw := gw_6 37 rfl rfl
theorem cd_X12_man : Cond.code yX12_man cX12_man 1 (some .int) ∈ gw := gw_6 38 rfl rfl
theorem ml_RL_27 : Cond.methodLink RL 27 yX12_post ∈ gw := gw_6 39 rfl rfl
theorem im_X12_post : Cond.instanceMethod yX12_post ∈ gw := gw_6 40 rfl rfl
theorem se_X12_post : Cond.selects RX12 yX12_post yX12_post ∈ gw := gw_6 41 rfl rfl
theorem cd_X12_post : Cond.code yX12_post cX12_post 7 (some .int) ∈ gw := gw_6 42 rfl rfl
theorem ml_RX12_207 : Cond.methodLink RX12 207 yX12_isMan ∈ gw := gw_6 43 rfl rfl
theorem im_X12_isMan : Cond.instanceMethod yX12_isMan ∈ gw := gw_6 45 rfl rfl
theorem cd_X12_isMan : Cond.code yX12_isMan cX12_isMan 2 (some .boolean) ∈ gw := gw_6 46 rfl rfl
theorem ml_RX12_210 : Cond.methodLink RX12 210 yX12_isCamp ∈ gw := gw_6 47 rfl rfl
theorem im_X12_isCamp : Cond.instanceMethod yX12_isCamp ∈ gw := gw_6 49 rfl rfl
theorem cd_X12_isCamp : Cond.code yX12_isCamp cX12_isCamp 2 (some .boolean) ∈ gw := gw_6 50 rfl rfl
theorem ml_RX12_213 : Cond.methodLink RX12 213 yX12_areDays ∈ gw := gw_6 51 rfl rfl
theorem sm_X12_areDays : Cond.static yX12_areDays ∈ gw := gw_6 52 rfl rfl
theorem cd_X12_areDays : Cond.code yX12_areDays cX12_areDays 2 (some .boolean) ∈ gw := gw_6 53 rfl rfl
theorem ml_RX12_203 : Cond.methodLink RX12 203 yX12_isDay ∈ gw := gw_6 54 rfl rfl
theorem sm_X12_isDay : Cond.static yX12_isDay ∈ gw := gw_6 55 rfl rfl
theorem cd_X12_isDay : Cond.code yX12_isDay cX12_isDay 1 (some .boolean) ∈ gw := gw_6 56 rfl rfl
theorem ml_RL_32 : Cond.methodLink RL 32 yX12_day ∈ gw := gw_6 57 rfl rfl
theorem im_X12_day : Cond.instanceMethod yX12_day ∈ gw := gw_6 58 rfl rfl
theorem se_X12_day : Cond.selects RX12 yX12_day yX12_day ∈ gw := gw_6 59 rfl rfl
theorem cd_X12_day : Cond.code yX12_day cX12_day 3 (some .int) ∈ gw := gw_6 60 rfl rfl
theorem ml_RX12_216 : Cond.methodLink RX12 216 yX12_postOn ∈ gw := gw_6 61 rfl rfl
theorem im_X12_postOn : Cond.instanceMethod yX12_postOn ∈ gw := gw_6 63 rfl rfl
theorem cd_X12_postOn : Cond.code yX12_postOn cX12_postOn 4 (some .int) ∈ gw := gw_6 64 rfl rfl
theorem ml_RL_36 : Cond.methodLink RL 36 yX12_beds ∈ gw := gw_6 65 rfl rfl
theorem im_X12_beds : Cond.instanceMethod yX12_beds ∈ gw := gw_6 66 rfl rfl
theorem se_X12_beds : Cond.selects RX12 yX12_beds yX12_beds ∈ gw := gw_6 67 rfl rfl
theorem cd_X12_beds : Cond.code yX12_beds cX12_beds 3 (some .int) ∈ gw := gw_6 68 rfl rfl
theorem ml_RX12_220 : Cond.methodLink RX12 220 yX12_menAt ∈ gw := gw_6 69 rfl rfl
theorem im_X12_menAt : Cond.instanceMethod yX12_menAt ∈ gw := gw_6 71 rfl rfl
theorem cd_X12_menAt : Cond.code yX12_menAt cX12_menAt 5 (some .int) ∈ gw := gw_6 72 rfl rfl
theorem ml_RL_41 : Cond.methodLink RL 41 yX12_over ∈ gw := gw_6 73 rfl rfl
theorem im_X12_over : Cond.instanceMethod yX12_over ∈ gw := gw_6 74 rfl rfl
theorem se_X12_over : Cond.selects RX12 yX12_over yX12_over ∈ gw := gw_6 75 rfl rfl
theorem cd_X12_over : Cond.code yX12_over cX12_over 3 (some .int) ∈ gw := gw_6 76 rfl rfl
theorem ml_RL_45 : Cond.methodLink RL 45 yX12_order ∈ gw := gw_6 77 rfl rfl
theorem im_X12_order : Cond.instanceMethod yX12_order ∈ gw := gw_6 78 rfl rfl
theorem se_X12_order : Cond.selects RX12 yX12_order yX12_order ∈ gw := gw_6 79 rfl rfl
theorem cd_X12_order : Cond.code yX12_order cX12_order 8 (some .int) ∈ gw := gw_6 80 rfl rfl
theorem ml_RX12_239 : Cond.methodLink RX12 239 yX12_isSheet ∈ gw := gw_6 81 rfl rfl
theorem sm_X12_isSheet : Cond.static yX12_isSheet ∈ gw := gw_6 82 rfl rfl
theorem cd_X12_isSheet : Cond.code yX12_isSheet cX12_isSheet 1 (some .boolean) ∈ gw := gw_6 83 rfl rfl
theorem ml_RX12_242 : Cond.methodLink RX12 242 yX12_isLane ∈ gw := gw_6 84 rfl rfl
theorem sm_X12_isLane : Cond.static yX12_isLane ∈ gw := gw_6 85 rfl rfl
theorem cd_X12_isLane : Cond.code yX12_isLane cX12_isLane 1 (some .boolean) ∈ gw := gw_6 86 rfl rfl
theorem ml_RX12_245 : Cond.methodLink RX12 245 yX12_against ∈ gw := gw_6 87 rfl rfl
theorem im_X12_against : Cond.instanceMethod yX12_against ∈ gw := gw_6 89 rfl rfl
theorem cd_X12_against : Cond.code yX12_against cX12_against 5 (some .int) ∈ gw := gw_6 90 rfl rfl
theorem ml_RX12_249 : Cond.methodLink RX12 249 yX12_fails ∈ gw := gw_6 91 rfl rfl
theorem im_X12_fails : Cond.instanceMethod yX12_fails ∈ gw := gw_6 93 rfl rfl
theorem cd_X12_fails : Cond.code yX12_fails cX12_fails 2 (some .int) ∈ gw := gw_6 94 rfl rfl
theorem ml_RX12_253 : Cond.methodLink RX12 253 yX12_reads ∈ gw := gw_6 95 rfl rfl
theorem im_X12_reads : Cond.instanceMethod yX12_reads ∈ gw := gw_6 97 rfl rfl
theorem cd_X12_reads : Cond.code yX12_reads cX12_reads 5 (some .boolean) ∈ gw := gw_6 98 rfl rfl
theorem ml_RX12_232 : Cond.methodLink RX12 232 yX12_isSign ∈ gw := gw_6 99 rfl rfl
theorem im_X12_isSign : Cond.instanceMethod yX12_isSign ∈ gw := gw_6 101 rfl rfl
theorem cd_X12_isSign : Cond.code yX12_isSign cX12_isSign 2 (some .boolean) ∈ gw := gw_6 102 rfl rfl
theorem ml_RX12_235 : Cond.methodLink RX12 235 yX12_number ∈ gw := gw_6 103 rfl rfl
theorem im_X12_number : Cond.instanceMethod yX12_number ∈ gw := gw_6 105 rfl rfl
theorem cd_X12_number : Cond.code yX12_number cX12_number 6 (some .int) ∈ gw := gw_6 106 rfl rfl
theorem ml_RL_49 : Cond.methodLink RL 49 yX12_ofOrder ∈ gw := gw_6 107 rfl rfl
theorem im_X12_ofOrder : Cond.instanceMethod yX12_ofOrder ∈ gw := gw_6 108 rfl rfl
theorem se_X12_ofOrder : Cond.selects RX12 yX12_ofOrder yX12_ofOrder ∈ gw := gw_6 109 rfl rfl
theorem cd_X12_ofOrder : Cond.code yX12_ofOrder cX12_ofOrder 3 (some .int) ∈ gw := gw_6 110 rfl rfl
theorem ml_RL_53 : Cond.methodLink RL 53 yX12_delay ∈ gw := gw_6 111 rfl rfl
theorem im_X12_delay : Cond.instanceMethod yX12_delay ∈ gw := gw_6 112 rfl rfl
theorem se_X12_delay : Cond.selects RX12 yX12_delay yX12_delay ∈ gw := gw_6 113 rfl rfl
theorem cd_X12_delay : Cond.code yX12_delay cX12_delay 4 (some .int) ∈ gw := gw_6 114 rfl rfl
theorem ml_RX12_259 : Cond.methodLink RX12 259 yX12_isOffice ∈ gw := gw_6 115 rfl rfl
theorem sm_X12_isOffice : Cond.static yX12_isOffice ∈ gw := gw_6 116 rfl rfl
theorem cd_X12_isOffice : Cond.code yX12_isOffice cX12_isOffice 1 (some .boolean) ∈ gw := gw_6 117 rfl rfl
theorem ml_RL_58 : Cond.methodLink RL 58 yX12_word ∈ gw := gw_6 118 rfl rfl
theorem im_X12_word : Cond.instanceMethod yX12_word ∈ gw := gw_6 119 rfl rfl
theorem se_X12_word : Cond.selects RX12 yX12_word yX12_word ∈ gw := gw_6 120 rfl rfl
theorem cd_X12_word : Cond.code yX12_word cX12_word 5 (some .int) ∈ gw := gw_6 121 rfl rfl
theorem ml_RX12_265 : Cond.methodLink RX12 265 yX12_wordOf ∈ gw := gw_6 122 rfl rfl
theorem im_X12_wordOf : Cond.instanceMethod yX12_wordOf ∈ gw := gw_6 124 rfl rfl
theorem cd_X12_wordOf : Cond.code yX12_wordOf cX12_wordOf 6 (some .int) ∈ gw := gw_6 125 rfl rfl
theorem ml_RX12_262 : Cond.methodLink RX12 262 yX12_whyOf ∈ gw := gw_6 126 rfl rfl
theorem im_X12_whyOf : Cond.instanceMethod yX12_whyOf ∈ gw := gw_6 128 rfl rfl
theorem cd_X12_whyOf : Cond.code yX12_whyOf cX12_whyOf 9 (some .int) ∈ gw := gw_6 129 rfl rfl
theorem ml_RL_62 : Cond.methodLink RL 62 yX12_why ∈ gw := gw_6 130 rfl rfl
theorem im_X12_why : Cond.instanceMethod yX12_why ∈ gw := gw_6 131 rfl rfl
theorem se_X12_why : Cond.selects RX12 yX12_why yX12_why ∈ gw := gw_6 132 rfl rfl
theorem cd_X12_why : Cond.code yX12_why cX12_why 5 (some .int) ∈ gw := gw_6 133 rfl rfl
theorem ml_RL_66 : Cond.methodLink RL 66 yX12_quarrel ∈ gw := gw_6 134 rfl rfl
theorem im_X12_quarrel : Cond.instanceMethod yX12_quarrel ∈ gw := gw_6 135 rfl rfl
theorem se_X12_quarrel : Cond.selects RX12 yX12_quarrel yX12_quarrel ∈ gw := gw_6 136 rfl rfl
theorem cd_X12_quarrel : Cond.code yX12_quarrel cX12_quarrel 7 (some .int) ∈ gw := gw_6 137 rfl rfl
theorem ml_RL_70 : Cond.methodLink RL 70 yX12_rate ∈ gw := gw_6 138 rfl rfl
theorem im_X12_rate : Cond.instanceMethod yX12_rate ∈ gw := gw_6 139 rfl rfl
theorem se_X12_rate : Cond.selects RX12 yX12_rate yX12_rate ∈ gw := gw_6 140 rfl rfl
theorem cd_X12_rate : Cond.code yX12_rate cX12_rate 4 (some .int) ∈ gw := gw_6 141 rfl rfl
theorem ml_RL_74 : Cond.methodLink RL 74 yX12_home ∈ gw := gw_6 142 rfl rfl
theorem im_X12_home : Cond.instanceMethod yX12_home ∈ gw := gw_6 143 rfl rfl
theorem se_X12_home : Cond.selects RX12 yX12_home yX12_home ∈ gw := gw_6 144 rfl rfl
theorem cd_X12_home : Cond.code yX12_home cX12_home 4 (some .int) ∈ gw := gw_6 145 rfl rfl
theorem ml_RL_78 : Cond.methodLink RL 78 yX12_fine ∈ gw := gw_6 146 rfl rfl
theorem im_X12_fine : Cond.instanceMethod yX12_fine ∈ gw := gw_6 147 rfl rfl
theorem se_X12_fine : Cond.selects RX12 yX12_fine yX12_fine ∈ gw := gw_6 148 rfl rfl
theorem cd_X12_fine : Cond.code yX12_fine cX12_fine 4 (some .int) ∈ gw := gw_6 149 rfl rfl
theorem ml_RL_82 : Cond.methodLink RL 82 yX12_pay ∈ gw := gw_6 150 rfl rfl
theorem im_X12_pay : Cond.instanceMethod yX12_pay ∈ gw := gw_6 151 rfl rfl
theorem se_X12_pay : Cond.selects RX12 yX12_pay yX12_pay ∈ gw := gw_6 152 rfl rfl
theorem cd_X12_pay : Cond.code yX12_pay cX12_pay 9 (some .int) ∈ gw := gw_6 153 rfl rfl
theorem ml_RL_86 : Cond.methodLink RL 86 yX12_work ∈ gw := gw_6 154 rfl rfl
theorem im_X12_work : Cond.instanceMethod yX12_work ∈ gw := gw_6 155 rfl rfl
theorem se_X12_work : Cond.selects RX12 yX12_work yX12_work ∈ gw := gw_6 156 rfl rfl
theorem cd_X12_work : Cond.code yX12_work cX12_work 4 (some .int) ∈ gw := gw_6 157 rfl rfl
theorem ml_RL_90 : Cond.methodLink RL 90 yX12_hands ∈ gw := gw_6 158 rfl rfl
theorem im_X12_hands : Cond.instanceMethod yX12_hands ∈ gw := gw_6 159 rfl rfl
theorem se_X12_hands : Cond.selects RX12 yX12_hands yX12_hands ∈ gw := gw_6 160 rfl rfl
theorem cd_X12_hands : Cond.code yX12_hands cX12_hands 5 (some .int) ∈ gw := gw_6 161 rfl rfl
theorem ml_RX12_274 : Cond.methodLink RX12 274 yX12_isWork ∈ gw := gw_6 162 rfl rfl
theorem im_X12_isWork : Cond.instanceMethod yX12_isWork ∈ gw := gw_6 164 rfl rfl
theorem cd_X12_isWork : Cond.code yX12_isWork cX12_isWork 2 (some .boolean) ∈ gw := gw_6 165 rfl rfl
theorem ml_RL_94 : Cond.methodLink RL 94 yX12_row ∈ gw := gw_6 166 rfl rfl
theorem im_X12_row : Cond.instanceMethod yX12_row ∈ gw := gw_6 167 rfl rfl
theorem se_X12_row : Cond.selects RX12 yX12_row yX12_row ∈ gw := gw_6 168 rfl rfl
theorem cd_X12_row : Cond.code yX12_row cX12_row 9 (some .int) ∈ gw := gw_6 169 rfl rfl
theorem ml_RL_98 : Cond.methodLink RL 98 yX12_week ∈ gw := gw_6 170 rfl rfl
theorem im_X12_week : Cond.instanceMethod yX12_week ∈ gw := gw_6 171 rfl rfl
theorem se_X12_week : Cond.selects RX12 yX12_week yX12_week ∈ gw := gw_6 172 rfl rfl
theorem cd_X12_week : Cond.code yX12_week cX12_week 6 (some .int) ∈ gw := gw_6 173 rfl rfl
theorem ml_RL_102 : Cond.methodLink RL 102 yX12_ofWork ∈ gw := gw_6 174 rfl rfl
theorem im_X12_ofWork : Cond.instanceMethod yX12_ofWork ∈ gw := gw_6 175 rfl rfl
theorem se_X12_ofWork : Cond.selects RX12 yX12_ofWork yX12_ofWork ∈ gw := gw_6 176 rfl rfl
theorem cd_X12_ofWork : Cond.code yX12_ofWork cX12_ofWork 3 (some .int) ∈ gw := gw_6 177 rfl rfl
theorem ml_RL_106 : Cond.methodLink RL 106 yX12_level ∈ gw := gw_6 178 rfl rfl
theorem im_X12_level : Cond.instanceMethod yX12_level ∈ gw := gw_6 179 rfl rfl
theorem se_X12_level : Cond.selects RX12 yX12_level yX12_level ∈ gw := gw_6 180 rfl rfl
theorem cd_X12_level : Cond.code yX12_level cX12_level 5 (some .int) ∈ gw := gw_6 181 rfl rfl
theorem ml_RL_111 : Cond.methodLink RL 111 yX12_told ∈ gw := gw_6 182 rfl rfl
theorem im_X12_told : Cond.instanceMethod yX12_told ∈ gw := gw_6 183 rfl rfl
theorem se_X12_told : Cond.selects RX12 yX12_told yX12_told ∈ gw := gw_6 184 rfl rfl
theorem cd_X12_told : Cond.code yX12_told cX12_told 3 (some .long) ∈ gw := gw_6 185 rfl rfl
theorem ml_RX12_280 : Cond.methodLink RX12 280 yX12_toldBy ∈ gw := gw_6 186 rfl rfl
theorem im_X12_toldBy : Cond.instanceMethod yX12_toldBy ∈ gw := gw_6 188 rfl rfl
theorem cd_X12_toldBy : Cond.code yX12_toldBy cX12_toldBy 8 (some .long) ∈ gw := gw_6 189 rfl rfl
theorem cn_RX12_184 : Cond.constantLong RX12 184 (-9223372036854775808) ∈ gw := gw_6 190 rfl rfl
theorem ml_RL_115 : Cond.methodLink RL 115 yX12_grew ∈ gw := gw_6 191 rfl rfl
theorem im_X12_grew : Cond.instanceMethod yX12_grew ∈ gw := gw_6 192 rfl rfl
theorem se_X12_grew : Cond.selects RX12 yX12_grew yX12_grew ∈ gw := gw_6 193 rfl rfl
theorem cd_X12_grew : Cond.code yX12_grew cX12_grew 8 (some .int) ∈ gw := gw_6 194 rfl rfl
theorem ml_RL_119 : Cond.methodLink RL 119 yX12_stand ∈ gw := gw_6 195 rfl rfl
theorem im_X12_stand : Cond.instanceMethod yX12_stand ∈ gw := gw_6 196 rfl rfl
theorem se_X12_stand : Cond.selects RX12 yX12_stand yX12_stand ∈ gw := gw_6 197 rfl rfl
theorem cd_X12_stand : Cond.code yX12_stand cX12_stand 5 (some .int) ∈ gw := gw_6 198 rfl rfl
theorem cn_RX12_284 : Cond.constant RX12 284 (99999) ∈ gw := gw_6 199 rfl rfl
theorem ml_RL_123 : Cond.methodLink RL 123 yX12_live ∈ gw := gw_6 200 rfl rfl
theorem im_X12_live : Cond.instanceMethod yX12_live ∈ gw := gw_6 201 rfl rfl
theorem se_X12_live : Cond.selects RX12 yX12_live yX12_live ∈ gw := gw_6 202 rfl rfl
theorem cd_X12_live : Cond.code yX12_live cX12_live 3 (some .int) ∈ gw := gw_6 203 rfl rfl
theorem ml_RX12_288 : Cond.methodLink RX12 288 yX12_liveOf ∈ gw := gw_6 204 rfl rfl
theorem im_X12_liveOf : Cond.instanceMethod yX12_liveOf ∈ gw := gw_6 206 rfl rfl
theorem cd_X12_liveOf : Cond.code yX12_liveOf cX12_liveOf 6 (some .int) ∈ gw := gw_6 207 rfl rfl
theorem ml_RL_127 : Cond.methodLink RL 127 yX12_forest ∈ gw := gw_6 208 rfl rfl
theorem im_X12_forest : Cond.instanceMethod yX12_forest ∈ gw := gw_6 209 rfl rfl
theorem se_X12_forest : Cond.selects RX12 yX12_forest yX12_forest ∈ gw := gw_6 210 rfl rfl
theorem cd_X12_forest : Cond.code yX12_forest cX12_forest 6 (some .long) ∈ gw := gw_6 211 rfl rfl
theorem ml_RL_131 : Cond.methodLink RL 131 yX12_fire ∈ gw := gw_6 212 rfl rfl
theorem im_X12_fire : Cond.instanceMethod yX12_fire ∈ gw := gw_6 213 rfl rfl
theorem se_X12_fire : Cond.selects RX12 yX12_fire yX12_fire ∈ gw := gw_6 214 rfl rfl
theorem cd_X12_fire : Cond.code yX12_fire cX12_fire 5 (some .int) ∈ gw := gw_6 215 rfl rfl
theorem ml_RL_135 : Cond.methodLink RL 135 yX12_crew ∈ gw := gw_6 216 rfl rfl
theorem im_X12_crew : Cond.instanceMethod yX12_crew ∈ gw := gw_6 217 rfl rfl
theorem se_X12_crew : Cond.selects RX12 yX12_crew yX12_crew ∈ gw := gw_6 218 rfl rfl
theorem cd_X12_crew : Cond.code yX12_crew cX12_crew 4 (some .int) ∈ gw := gw_6 219 rfl rfl
theorem ml_RL_139 : Cond.methodLink RL 139 yX12_lost ∈ gw := gw_6 220 rfl rfl
theorem im_X12_lost : Cond.instanceMethod yX12_lost ∈ gw := gw_6 221 rfl rfl
theorem se_X12_lost : Cond.selects RX12 yX12_lost yX12_lost ∈ gw := gw_6 222 rfl rfl
theorem cd_X12_lost : Cond.code yX12_lost cX12_lost 2 (some .int) ∈ gw := gw_6 223 rfl rfl
theorem ml_RX12_304 : Cond.methodLink RX12 304 yX12_layHours ∈ gw := gw_6 224 rfl rfl
theorem im_X12_layHours : Cond.instanceMethod yX12_layHours ∈ gw := gw_6 226 rfl rfl
theorem cd_X12_layHours : Cond.code yX12_layHours cX12_layHours 3 none ∈ gw := gw_6 227 rfl rfl
theorem ml_RX12_294 : Cond.methodLink RX12 294 yX12_size ∈ gw := gw_6 228 rfl rfl
theorem sm_X12_size : Cond.static yX12_size ∈ gw := gw_6 229 rfl rfl
theorem cd_X12_size : Cond.code yX12_size cX12_size 1 (some .int) ∈ gw := gw_6 230 rfl rfl
theorem ml_RX12_307 : Cond.methodLink RX12 307 yX12_calls ∈ gw := gw_6 231 rfl rfl
theorem im_X12_calls : Cond.instanceMethod yX12_calls ∈ gw := gw_6 233 rfl rfl
theorem cd_X12_calls : Cond.code yX12_calls cX12_calls 3 (some .int) ∈ gw := gw_6 234 rfl rfl
theorem ml_RX12_311 : Cond.methodLink RX12 311 yX12_lostBy ∈ gw := gw_6 235 rfl rfl
theorem im_X12_lostBy : Cond.instanceMethod yX12_lostBy ∈ gw := gw_6 237 rfl rfl
theorem cd_X12_lostBy : Cond.code yX12_lostBy cX12_lostBy 4 (some .int) ∈ gw := gw_6 238 rfl rfl
theorem ml_RX12_297 : Cond.methodLink RX12 297 yX12_layCall ∈ gw := gw_6 239 rfl rfl
theorem im_X12_layCall : Cond.instanceMethod yX12_layCall ∈ gw := gw_7 1 rfl rfl
theorem cd_X12_layCall : Cond.code yX12_layCall cX12_layCall 4 none ∈ gw := gw_7 2 rfl rfl
theorem ml_RX12_301 : Cond.methodLink RX12 301 yX12_heldIn ∈ gw := gw_7 3 rfl rfl
theorem im_X12_heldIn : Cond.instanceMethod yX12_heldIn ∈ gw := gw_7 5 rfl rfl
theorem cd_X12_heldIn : Cond.code yX12_heldIn cX12_heldIn 6 (some .int) ∈ gw := gw_7 6 rfl rfl
theorem ml_RL_143 : Cond.methodLink RL 143 yX12_call ∈ gw := gw_7 7 rfl rfl
theorem im_X12_call : Cond.instanceMethod yX12_call ∈ gw := gw_7 8 rfl rfl
theorem se_X12_call : Cond.selects RX12 yX12_call yX12_call ∈ gw := gw_7 9 rfl rfl
theorem cd_X12_call : Cond.code yX12_call cX12_call 9 (some .int) ∈ gw := gw_7 10 rfl rfl
theorem ml_RX12_314 : Cond.methodLink RX12 314 yX12_handsThatGo ∈ gw := gw_7 11 rfl rfl
theorem im_X12_handsThatGo : Cond.instanceMethod yX12_handsThatGo ∈ gw := gw_7 13 rfl rfl
theorem cd_X12_handsThatGo : Cond.code yX12_handsThatGo cX12_handsThatGo 3 (some .int) ∈ gw := gw_7 14 rfl rfl
theorem ml_RL_148 : Cond.methodLink RL 148 yX12_place ∈ gw := gw_7 15 rfl rfl
theorem im_X12_place : Cond.instanceMethod yX12_place ∈ gw := gw_7 16 rfl rfl
theorem se_X12_place : Cond.selects RX12 yX12_place yX12_place ∈ gw := gw_7 17 rfl rfl
theorem cd_X12_place : Cond.code yX12_place cX12_place 5 (some .int) ∈ gw := gw_7 18 rfl rfl
theorem ml_RL_153 : Cond.methodLink RL 153 yX12_move ∈ gw := gw_7 19 rfl rfl
theorem im_X12_move : Cond.instanceMethod yX12_move ∈ gw := gw_7 20 rfl rfl
theorem se_X12_move : Cond.selects RX12 yX12_move yX12_move ∈ gw := gw_7 21 rfl rfl
theorem cd_X12_move : Cond.code yX12_move cX12_move 2 (some .long) ∈ gw := gw_7 22 rfl rfl
theorem ml_RX12_326 : Cond.methodLink RX12 326 yX12_layMoves ∈ gw := gw_7 23 rfl rfl
theorem im_X12_layMoves : Cond.instanceMethod yX12_layMoves ∈ gw := gw_7 25 rfl rfl
theorem cd_X12_layMoves : Cond.code yX12_layMoves cX12_layMoves 6 none ∈ gw := gw_7 26 rfl rfl
theorem ml_RX12_320 : Cond.methodLink RX12 320 yX12_bitsOf ∈ gw := gw_7 27 rfl rfl
theorem sm_X12_bitsOf : Cond.static yX12_bitsOf ∈ gw := gw_7 28 rfl rfl
theorem cd_X12_bitsOf : Cond.code yX12_bitsOf cX12_bitsOf 3 (some .int) ∈ gw := gw_7 29 rfl rfl
theorem ml_RX12_323 : Cond.methodLink RX12 323 yX12_gainOf ∈ gw := gw_7 30 rfl rfl
theorem im_X12_gainOf : Cond.instanceMethod yX12_gainOf ∈ gw := gw_7 32 rfl rfl
theorem cd_X12_gainOf : Cond.code yX12_gainOf cX12_gainOf 3 (some .long) ∈ gw := gw_7 33 rfl rfl
theorem cn_RX12_329 : Cond.constantLong RX12 329 (-9) ∈ gw := gw_7 34 rfl rfl
theorem ml_RX12_331 : Cond.methodLink RX12 331 yX12_placeOf ∈ gw := gw_7 35 rfl rfl
theorem im_X12_placeOf : Cond.instanceMethod yX12_placeOf ∈ gw := gw_7 37 rfl rfl
theorem cd_X12_placeOf : Cond.code yX12_placeOf cX12_placeOf 6 (some .int) ∈ gw := gw_7 38 rfl rfl
theorem ml_RL_158 : Cond.methodLink RL 158 yX12_gain ∈ gw := gw_7 39 rfl rfl
theorem im_X12_gain : Cond.instanceMethod yX12_gain ∈ gw := gw_7 40 rfl rfl
theorem se_X12_gain : Cond.selects RX12 yX12_gain yX12_gain ∈ gw := gw_7 41 rfl rfl
theorem cd_X12_gain : Cond.code yX12_gain cX12_gain 12 (some .long) ∈ gw := gw_7 42 rfl rfl
theorem ml_RX12_334 : Cond.methodLink RX12 334 yX12_lostBeing ∈ gw := gw_7 43 rfl rfl
theorem im_X12_lostBeing : Cond.instanceMethod yX12_lostBeing ∈ gw := gw_7 45 rfl rfl
theorem cd_X12_lostBeing : Cond.code yX12_lostBeing cX12_lostBeing 2 (some .long) ∈ gw := gw_7 46 rfl rfl
theorem ml_RL_162 : Cond.methodLink RL 162 yX12_go ∈ gw := gw_7 47 rfl rfl
theorem im_X12_go : Cond.instanceMethod yX12_go ∈ gw := gw_7 48 rfl rfl
theorem se_X12_go : Cond.selects RX12 yX12_go yX12_go ∈ gw := gw_7 49 rfl rfl
theorem cd_X12_go : Cond.code yX12_go cX12_go 3 (some .int) ∈ gw := gw_7 50 rfl rfl
theorem ml_RL_166 : Cond.methodLink RL 166 yX12_spot ∈ gw := gw_7 51 rfl rfl
theorem im_X12_spot : Cond.instanceMethod yX12_spot ∈ gw := gw_7 52 rfl rfl
theorem se_X12_spot : Cond.selects RX12 yX12_spot yX12_spot ∈ gw := gw_7 53 rfl rfl
theorem cd_X12_spot : Cond.code yX12_spot cX12_spot 3 (some .int) ∈ gw := gw_7 54 rfl rfl
theorem ml_RL_170 : Cond.methodLink RL 170 yX12_sheet ∈ gw := gw_7 55 rfl rfl
theorem im_X12_sheet : Cond.instanceMethod yX12_sheet ∈ gw := gw_7 56 rfl rfl
theorem se_X12_sheet : Cond.selects RX12 yX12_sheet yX12_sheet ∈ gw := gw_7 57 rfl rfl
theorem cd_X12_sheet : Cond.code yX12_sheet cX12_sheet 5 (some .int) ∈ gw := gw_7 58 rfl rfl
theorem ml_RL_174 : Cond.methodLink RL 174 yX12_lose ∈ gw := gw_7 59 rfl rfl
theorem im_X12_lose : Cond.instanceMethod yX12_lose ∈ gw := gw_7 60 rfl rfl
theorem se_X12_lose : Cond.selects RX12 yX12_lose yX12_lose ∈ gw := gw_7 61 rfl rfl
theorem cd_X12_lose : Cond.code yX12_lose cX12_lose 3 (some .int) ∈ gw := gw_7 62 rfl rfl
theorem ml_RL_178 : Cond.methodLink RL 178 yX12_put ∈ gw := gw_7 63 rfl rfl
theorem im_X12_put : Cond.instanceMethod yX12_put ∈ gw := gw_7 64 rfl rfl
theorem se_X12_put : Cond.selects RX12 yX12_put yX12_put ∈ gw := gw_7 65 rfl rfl
theorem cd_X12_put : Cond.code yX12_put cX12_put 4 (some .int) ∈ gw := gw_7 66 rfl rfl
theorem ml_RL_183 : Cond.methodLink RL 183 yX12_cell ∈ gw := gw_7 67 rfl rfl
theorem im_X12_cell : Cond.instanceMethod yX12_cell ∈ gw := gw_7 68 rfl rfl
theorem se_X12_cell : Cond.selects RX12 yX12_cell yX12_cell ∈ gw := gw_7 69 rfl rfl
theorem cd_X12_cell : Cond.code yX12_cell cX12_cell 4 (some .long) ∈ gw := gw_7 70 rfl rfl
theorem ml_RL_187 : Cond.methodLink RL 187 yX12_tell ∈ gw := gw_7 71 rfl rfl
theorem im_X12_tell : Cond.instanceMethod yX12_tell ∈ gw := gw_7 72 rfl rfl
theorem se_X12_tell : Cond.selects RX12 yX12_tell yX12_tell ∈ gw := gw_7 73 rfl rfl
theorem cd_X12_tell : Cond.code yX12_tell cX12_tell 3 (some .int) ∈ gw := gw_7 74 rfl rfl
theorem ml_RX12_341 : Cond.methodLink RX12 341 yX12_isPost ∈ gw := gw_7 75 rfl rfl
theorem im_X12_isPost : Cond.instanceMethod yX12_isPost ∈ gw := gw_7 77 rfl rfl
theorem cd_X12_isPost : Cond.code yX12_isPost cX12_isPost 2 (some .boolean) ∈ gw := gw_7 78 rfl rfl
theorem ml_RX12_344 : Cond.methodLink RX12 344 yX12_begins ∈ gw := gw_7 79 rfl rfl
theorem im_X12_begins : Cond.instanceMethod yX12_begins ∈ gw := gw_7 81 rfl rfl
theorem cd_X12_begins : Cond.code yX12_begins cX12_begins 2 none ∈ gw := gw_7 82 rfl rfl
theorem ml_RL_191 : Cond.methodLink RL 191 yX12_roll ∈ gw := gw_7 83 rfl rfl
theorem im_X12_roll : Cond.instanceMethod yX12_roll ∈ gw := gw_7 84 rfl rfl
theorem se_X12_roll : Cond.selects RX12 yX12_roll yX12_roll ∈ gw := gw_7 85 rfl rfl
theorem cd_X12_roll : Cond.code yX12_roll cX12_roll 2 (some .int) ∈ gw := gw_7 86 rfl rfl
theorem ml_RL_195 : Cond.methodLink RL 195 yX12_as ∈ gw := gw_7 87 rfl rfl
theorem im_X12_as : Cond.instanceMethod yX12_as ∈ gw := gw_7 88 rfl rfl
theorem se_X12_as : Cond.selects RX12 yX12_as yX12_as ∈ gw := gw_7 89 rfl rfl
theorem cd_X12_as : Cond.code yX12_as cX12_as 3 (some .int) ∈ gw := gw_7 90 rfl rfl
theorem ml_RL_199 : Cond.methodLink RL 199 yX12_trace ∈ gw := gw_7 91 rfl rfl
theorem im_X12_trace : Cond.instanceMethod yX12_trace ∈ gw := gw_7 92 rfl rfl
theorem se_X12_trace : Cond.selects RX12 yX12_trace yX12_trace ∈ gw := gw_7 93 rfl rfl
theorem cd_X12_trace : Cond.code yX12_trace cX12_trace 1 (some .int) ∈ gw := gw_7 94 rfl rfl
theorem ml_RL_203 : Cond.methodLink RL 203 yX12_fault ∈ gw := gw_7 95 rfl rfl
theorem im_X12_fault : Cond.instanceMethod yX12_fault ∈ gw := gw_7 96 rfl rfl
theorem se_X12_fault : Cond.selects RX12 yX12_fault yX12_fault ∈ gw := gw_7 97 rfl rfl
theorem cd_X12_fault : Cond.code yX12_fault cX12_fault 1 (some .int) ∈ gw := gw_7 98 rfl rfl
theorem ml_RL_207 : Cond.methodLink RL 207 yX12_many ∈ gw := gw_7 99 rfl rfl
theorem im_X12_many : Cond.instanceMethod yX12_many ∈ gw := gw_7 100 rfl rfl
theorem se_X12_many : Cond.selects RX12 yX12_many yX12_many ∈ gw := gw_7 101 rfl rfl
theorem cd_X12_many : Cond.code yX12_many cX12_many 2 (some .int) ∈ gw := gw_7 102 rfl rfl
theorem se_X11_isMan : Cond.selects RX11 yX11_isMan yX11_isMan ∈ gw := gw_s (q := (yX11_isMan, 15)) (List.mem_of_getElem? (i := 0) (by decide +kernel))
theorem se_X11_daysOnPosts : Cond.selects RX11 yX11_daysOnPosts yX11_daysOnPosts ∈ gw := gw_s (q := (yX11_daysOnPosts, 15)) (List.mem_of_getElem? (i := 1) (by decide +kernel))
theorem se_X11_menAt : Cond.selects RX11 yX11_menAt yX11_menAt ∈ gw := gw_s (q := (yX11_menAt, 15)) (List.mem_of_getElem? (i := 2) (by decide +kernel))
theorem se_X11_sheetAt : Cond.selects RX11 yX11_sheetAt yX11_sheetAt ∈ gw := gw_s (q := (yX11_sheetAt, 15)) (List.mem_of_getElem? (i := 3) (by decide +kernel))
theorem se_X11_noteFault : Cond.selects RX11 yX11_noteFault yX11_noteFault ∈ gw := gw_s (q := (yX11_noteFault, 15)) (List.mem_of_getElem? (i := 4) (by decide +kernel))
theorem se_X3_readSign : Cond.selects RX3 yX3_readSign yX3_readSign ∈ gw := gw_s (q := (yX3_readSign, 12)) (List.mem_of_getElem? (i := 5) (by decide +kernel))
theorem se_X3_code : Cond.selects RX3 yX3_code yX3_code ∈ gw := gw_s (q := (yX3_code, 12)) (List.mem_of_getElem? (i := 6) (by decide +kernel))
theorem se_X3_readNumber : Cond.selects RX3 yX3_readNumber yX3_readNumber ∈ gw := gw_s (q := (yX3_readNumber, 12)) (List.mem_of_getElem? (i := 7) (by decide +kernel))
theorem se_X3_readLeftOut : Cond.selects RX3 yX3_readLeftOut yX3_readLeftOut ∈ gw := gw_s (q := (yX3_readLeftOut, 12)) (List.mem_of_getElem? (i := 8) (by decide +kernel))
theorem se_X11_orderAt : Cond.selects RX11 yX11_orderAt yX11_orderAt ∈ gw := gw_s (q := (yX11_orderAt, 15)) (List.mem_of_getElem? (i := 9) (by decide +kernel))
theorem se_X11_latestHeard : Cond.selects RX11 yX11_latestHeard yX11_latestHeard ∈ gw := gw_s (q := (yX11_latestHeard, 15)) (List.mem_of_getElem? (i := 10) (by decide +kernel))
theorem se_X11_officesThatClaim : Cond.selects RX11 yX11_officesThatClaim yX11_officesThatClaim ∈ gw := gw_s (q := (yX11_officesThatClaim, 15)) (List.mem_of_getElem? (i := 11) (by decide +kernel))
theorem se_X10_toldOnBy : Cond.selects RX10 yX10_toldOnBy yX10_toldOnBy ∈ gw := gw_s (q := (yX10_toldOnBy, 7)) (List.mem_of_getElem? (i := 12) (by decide +kernel))
theorem se_X1_lineUp : Cond.selects RX1 yX1_lineUp yX1_lineUp ∈ gw := gw_s (q := (yX1_lineUp, 9)) (List.mem_of_getElem? (i := 13) (by decide +kernel))
theorem se_X1_goersTo : Cond.selects RX1 yX1_goersTo yX1_goersTo ∈ gw := gw_s (q := (yX1_goersTo, 9)) (List.mem_of_getElem? (i := 14) (by decide +kernel))
theorem se_X1_lostAt : Cond.selects RX1 yX1_lostAt yX1_lostAt ∈ gw := gw_s (q := (yX1_lostAt, 9)) (List.mem_of_getElem? (i := 15) (by decide +kernel))
theorem se_X1_worthOf : Cond.selects RX1 yX1_worthOf yX1_worthOf ∈ gw := gw_s (q := (yX1_worthOf, 9)) (List.mem_of_getElem? (i := 16) (by decide +kernel))
theorem se_X1_bestSplit : Cond.selects RX1 yX1_bestSplit yX1_bestSplit ∈ gw := gw_s (q := (yX1_bestSplit, 9)) (List.mem_of_getElem? (i := 17) (by decide +kernel))
theorem se_X5_mostBehind : Cond.selects RX5 yX5_mostBehind yX5_mostBehind ∈ gw := gw_s (q := (yX5_mostBehind, 7)) (List.mem_of_getElem? (i := 18) (by decide +kernel))
theorem se_X5_gainFrom : Cond.selects RX5 yX5_gainFrom yX5_gainFrom ∈ gw := gw_s (q := (yX5_gainFrom, 7)) (List.mem_of_getElem? (i := 19) (by decide +kernel))
theorem se_X5_isFree : Cond.selects RX5 yX5_isFree yX5_isFree ∈ gw := gw_s (q := (yX5_isFree, 7)) (List.mem_of_getElem? (i := 20) (by decide +kernel))
theorem se_X5_gainOf : Cond.selects RX5 yX5_gainOf yX5_gainOf ∈ gw := gw_s (q := (yX5_gainOf, 7)) (List.mem_of_getElem? (i := 21) (by decide +kernel))
theorem se_X5_firstOfMost : Cond.selects RX5 yX5_firstOfMost yX5_firstOfMost ∈ gw := gw_s (q := (yX5_firstOfMost, 7)) (List.mem_of_getElem? (i := 22) (by decide +kernel))
theorem se_X7_cutToLane : Cond.selects RX7 yX7_cutToLane yX7_cutToLane ∈ gw := gw_s (q := (yX7_cutToLane, 3)) (List.mem_of_getElem? (i := 23) (by decide +kernel))
theorem se_X11_postAt : Cond.selects RX11 yX11_postAt yX11_postAt ∈ gw := gw_s (q := (yX11_postAt, 15)) (List.mem_of_getElem? (i := 24) (by decide +kernel))
theorem se_X11_tellingOfChief : Cond.selects RX11 yX11_tellingOfChief yX11_tellingOfChief ∈ gw := gw_s (q := (yX11_tellingOfChief, 15)) (List.mem_of_getElem? (i := 25) (by decide +kernel))
theorem se_X11_leaveInTrace : Cond.selects RX11 yX11_leaveInTrace yX11_leaveInTrace ∈ gw := gw_s (q := (yX11_leaveInTrace, 15)) (List.mem_of_getElem? (i := 26) (by decide +kernel))
theorem se_X11_tellingOfLeader : Cond.selects RX11 yX11_tellingOfLeader yX11_tellingOfLeader ∈ gw := gw_s (q := (yX11_tellingOfLeader, 15)) (List.mem_of_getElem? (i := 27) (by decide +kernel))
theorem se_X11_tellingOfPost : Cond.selects RX11 yX11_tellingOfPost yX11_tellingOfPost ∈ gw := gw_s (q := (yX11_tellingOfPost, 15)) (List.mem_of_getElem? (i := 28) (by decide +kernel))
theorem se_X12_isMan : Cond.selects RX12 yX12_isMan yX12_isMan ∈ gw := gw_s (q := (yX12_isMan, 71)) (List.mem_of_getElem? (i := 29) (by decide +kernel))
theorem se_X12_isCamp : Cond.selects RX12 yX12_isCamp yX12_isCamp ∈ gw := gw_s (q := (yX12_isCamp, 71)) (List.mem_of_getElem? (i := 30) (by decide +kernel))
theorem se_X12_postOn : Cond.selects RX12 yX12_postOn yX12_postOn ∈ gw := gw_s (q := (yX12_postOn, 71)) (List.mem_of_getElem? (i := 31) (by decide +kernel))
theorem se_X12_menAt : Cond.selects RX12 yX12_menAt yX12_menAt ∈ gw := gw_s (q := (yX12_menAt, 71)) (List.mem_of_getElem? (i := 32) (by decide +kernel))
theorem se_X12_against : Cond.selects RX12 yX12_against yX12_against ∈ gw := gw_s (q := (yX12_against, 71)) (List.mem_of_getElem? (i := 33) (by decide +kernel))
theorem se_X12_fails : Cond.selects RX12 yX12_fails yX12_fails ∈ gw := gw_s (q := (yX12_fails, 71)) (List.mem_of_getElem? (i := 34) (by decide +kernel))
theorem se_X12_reads : Cond.selects RX12 yX12_reads yX12_reads ∈ gw := gw_s (q := (yX12_reads, 71)) (List.mem_of_getElem? (i := 35) (by decide +kernel))
theorem se_X12_isSign : Cond.selects RX12 yX12_isSign yX12_isSign ∈ gw := gw_s (q := (yX12_isSign, 71)) (List.mem_of_getElem? (i := 36) (by decide +kernel))
theorem se_X12_number : Cond.selects RX12 yX12_number yX12_number ∈ gw := gw_s (q := (yX12_number, 71)) (List.mem_of_getElem? (i := 37) (by decide +kernel))
theorem se_X12_wordOf : Cond.selects RX12 yX12_wordOf yX12_wordOf ∈ gw := gw_s (q := (yX12_wordOf, 71)) (List.mem_of_getElem? (i := 38) (by decide +kernel))
theorem se_X12_whyOf : Cond.selects RX12 yX12_whyOf yX12_whyOf ∈ gw := gw_s (q := (yX12_whyOf, 71)) (List.mem_of_getElem? (i := 39) (by decide +kernel))
theorem se_X12_isWork : Cond.selects RX12 yX12_isWork yX12_isWork ∈ gw := gw_s (q := (yX12_isWork, 71)) (List.mem_of_getElem? (i := 40) (by decide +kernel))
theorem se_X12_toldBy : Cond.selects RX12 yX12_toldBy yX12_toldBy ∈ gw := gw_s (q := (yX12_toldBy, 71)) (List.mem_of_getElem? (i := 41) (by decide +kernel))
theorem se_X12_liveOf : Cond.selects RX12 yX12_liveOf yX12_liveOf ∈ gw := gw_s (q := (yX12_liveOf, 71)) (List.mem_of_getElem? (i := 42) (by decide +kernel))
theorem se_X12_layHours : Cond.selects RX12 yX12_layHours yX12_layHours ∈ gw := gw_s (q := (yX12_layHours, 71)) (List.mem_of_getElem? (i := 43) (by decide +kernel))
theorem se_X12_calls : Cond.selects RX12 yX12_calls yX12_calls ∈ gw := gw_s (q := (yX12_calls, 71)) (List.mem_of_getElem? (i := 44) (by decide +kernel))
theorem se_X12_lostBy : Cond.selects RX12 yX12_lostBy yX12_lostBy ∈ gw := gw_s (q := (yX12_lostBy, 71)) (List.mem_of_getElem? (i := 45) (by decide +kernel))
theorem se_X12_layCall : Cond.selects RX12 yX12_layCall yX12_layCall ∈ gw := gw_s (q := (yX12_layCall, 71)) (List.mem_of_getElem? (i := 46) (by decide +kernel))
theorem se_X12_heldIn : Cond.selects RX12 yX12_heldIn yX12_heldIn ∈ gw := gw_s (q := (yX12_heldIn, 71)) (List.mem_of_getElem? (i := 47) (by decide +kernel))
theorem se_X12_handsThatGo : Cond.selects RX12 yX12_handsThatGo yX12_handsThatGo ∈ gw := gw_s (q := (yX12_handsThatGo, 71)) (List.mem_of_getElem? (i := 48) (by decide +kernel))
theorem se_X12_layMoves : Cond.selects RX12 yX12_layMoves yX12_layMoves ∈ gw := gw_s (q := (yX12_layMoves, 71)) (List.mem_of_getElem? (i := 49) (by decide +kernel))
theorem se_X12_gainOf : Cond.selects RX12 yX12_gainOf yX12_gainOf ∈ gw := gw_s (q := (yX12_gainOf, 71)) (List.mem_of_getElem? (i := 50) (by decide +kernel))
theorem se_X12_placeOf : Cond.selects RX12 yX12_placeOf yX12_placeOf ∈ gw := gw_s (q := (yX12_placeOf, 71)) (List.mem_of_getElem? (i := 51) (by decide +kernel))
theorem se_X12_lostBeing : Cond.selects RX12 yX12_lostBeing yX12_lostBeing ∈ gw := gw_s (q := (yX12_lostBeing, 71)) (List.mem_of_getElem? (i := 52) (by decide +kernel))
theorem se_X12_isPost : Cond.selects RX12 yX12_isPost yX12_isPost ∈ gw := gw_s (q := (yX12_isPost, 71)) (List.mem_of_getElem? (i := 53) (by decide +kernel))
theorem se_X12_begins : Cond.selects RX12 yX12_begins yX12_begins ∈ gw := gw_s (q := (yX12_begins, 71)) (List.mem_of_getElem? (i := 54) (by decide +kernel))
set_option maxRecDepth 20000 in
theorem inX0 : ∀ w ∈ u_ws RX0 TX0 5, w ∈ gw := fun w h => gw_t ((goodIn_r (big := tables_1) (u_ws RX0 TX0 5) [46, 48, 50, 52, 54] (by decide +kernel) (by decide +kernel)) w h).1 (List.all_eq_true.mp (by decide +kernel : (u_ws RX0 TX0 5).all goodWord = true) w h)
set_option maxRecDepth 20000 in
theorem inX1 : ∀ w ∈ u_ws RX1 TX1 9, w ∈ gw := fun w h => gw_t ((goodIn_r (big := tables_1) (u_ws RX1 TX1 9) [169, 171, 173, 175, 177, 179, 181, 183, 185] (by decide +kernel) (by decide +kernel)) w h).1 (List.all_eq_true.mp (by decide +kernel : (u_ws RX1 TX1 9).all goodWord = true) w h)
set_option maxRecDepth 20000 in
theorem inX2 : ∀ w ∈ u_ws RX2 TX2 7, w ∈ gw := fun w h => gw_t ((goodIn_r (big := tables_1) (u_ws RX2 TX2 7) [500, 502, 504, 506, 508, 510, 512] (by decide +kernel) (by decide +kernel)) w h).1 (List.all_eq_true.mp (by decide +kernel : (u_ws RX2 TX2 7).all goodWord = true) w h)
set_option maxRecDepth 20000 in
theorem inX3 : ∀ w ∈ u_ws RX3 TX3 12, w ∈ gw := fun w h => gw_t ((goodIn_r (big := tables_1) (u_ws RX3 TX3 12) [431, 433, 435, 437, 439, 441, 443, 445, 447, 449, 451, 453] (by decide +kernel) (by decide +kernel)) w h).1 (List.all_eq_true.mp (by decide +kernel : (u_ws RX3 TX3 12).all goodWord = true) w h)
set_option maxRecDepth 20000 in
theorem inX4 : ∀ w ∈ u_ws RX4 TX4 7, w ∈ gw := fun w h => gw_t ((goodIn_r (big := tables_1) (u_ws RX4 TX4 7) [77, 79, 81, 83, 85, 87, 89] (by decide +kernel) (by decide +kernel)) w h).1 (List.all_eq_true.mp (by decide +kernel : (u_ws RX4 TX4 7).all goodWord = true) w h)
set_option maxRecDepth 20000 in
theorem inX5 : ∀ w ∈ u_ws RX5 TX5 7, w ∈ gw := fun w h => gw_t ((goodIn_r (big := tables_1) (u_ws RX5 TX5 7) [204, 206, 208, 210, 212, 214, 216] (by decide +kernel) (by decide +kernel)) w h).1 (List.all_eq_true.mp (by decide +kernel : (u_ws RX5 TX5 7).all goodWord = true) w h)
set_option maxRecDepth 20000 in
theorem inX6 : ∀ w ∈ u_ws RX6 TX6 5, w ∈ gw := fun w h => gw_t ((goodIn_r (big := tables_1) (u_ws RX6 TX6 5) [354, 356, 358, 360, 362] (by decide +kernel) (by decide +kernel)) w h).1 (List.all_eq_true.mp (by decide +kernel : (u_ws RX6 TX6 5).all goodWord = true) w h)
set_option maxRecDepth 20000 in
theorem inX7 : ∀ w ∈ u_ws RX7 TX7 3, w ∈ gw := fun w h => gw_t ((goodIn_r (big := tables_1) (u_ws RX7 TX7 3) [231, 233, 235] (by decide +kernel) (by decide +kernel)) w h).1 (List.all_eq_true.mp (by decide +kernel : (u_ws RX7 TX7 3).all goodWord = true) w h)
set_option maxRecDepth 20000 in
theorem inX8 : ∀ w ∈ u_ws RX8 TX8 6, w ∈ gw := fun w h => gw_t ((goodIn_r (big := tables_1) (u_ws RX8 TX8 6) [140, 142, 144, 146, 148, 150] (by decide +kernel) (by decide +kernel)) w h).1 (List.all_eq_true.mp (by decide +kernel : (u_ws RX8 TX8 6).all goodWord = true) w h)
set_option maxRecDepth 20000 in
theorem inX9 : ∀ w ∈ u_ws RX9 TX9 8, w ∈ gw := fun w h => gw_t ((goodIn_r (big := tables_1) (u_ws RX9 TX9 8) [624, 626, 628, 630, 632, 634, 636, 638] (by decide +kernel) (by decide +kernel)) w h).1 (List.all_eq_true.mp (by decide +kernel : (u_ws RX9 TX9 8).all goodWord = true) w h)
set_option maxRecDepth 20000 in
theorem inX10 : ∀ w ∈ u_ws RX10 TX10 7, w ∈ gw := fun w h => gw_t ((goodIn_r (big := tables_1) (u_ws RX10 TX10 7) [109, 111, 113, 115, 117, 119, 121] (by decide +kernel) (by decide +kernel)) w h).1 (List.all_eq_true.mp (by decide +kernel : (u_ws RX10 TX10 7).all goodWord = true) w h)
set_option maxRecDepth 20000 in
theorem inX11 : ∀ w ∈ u_ws RX11 TX11 15, w ∈ gw := fun w h => gw_t ((goodIn_r (big := tables_1) (u_ws RX11 TX11 15) [253, 255, 257, 259, 261, 263, 265, 267, 269, 271, 273, 275, 277, 279, 281] (by decide +kernel) (by decide +kernel)) w h).1 (List.all_eq_true.mp (by decide +kernel : (u_ws RX11 TX11 15).all goodWord = true) w h)
set_option maxRecDepth 20000 in
theorem inX12 : ∀ w ∈ u_ws RX12 TX12 71, w ∈ gw := fun w h => gw_t ((goodIn_r (big := tables_1) (u_ws RX12 TX12 71) [1082, 1084, 1086, 1088, 1090, 1092, 1094, 1096, 1098, 1100, 1102, 1104, 1106, 1108, 1110, 1112, 1114, 1116, 1118, 1120, 1122, 1124, 1126, 1128, 1130, 1132, 1134, 1136, 1138, 1140, 1142, 1144, 1146, 1148, 1150, 1152, 1154, 1156, 1158, 1160, 1162, 1164, 1166, 1168, 1170, 1172, 1174, 1176, 1178, 1180, 1182, 1184, 1186, 1188, 1190, 1192, 1194, 1196, 1198, 1200, 1202, 1204, 1206, 1208, 1210, 1212, 1214, 1216, 1218, 1220, 1222] (by decide +kernel) (by decide +kernel)) w h).1 (List.all_eq_true.mp (by decide +kernel : (u_ws RX12 TX12 71).all goodWord = true) w h)
/-- the private members that are called from other nested classes -/
def nwl : List Cond := [Cond.methodLinkNest RX11 11 yX0_init "CampYears", Cond.methodLinkNest RX11 36 yX4_init "CampYears", Cond.methodLinkNest RX11 43 yX10_init "CampYears", Cond.methodLinkNest RX11 57 yX1_init "CampYears", Cond.methodLinkNest RX11 64 yX5_init "CampYears", Cond.methodLinkNest RX11 75 yX7_init "CampYears", Cond.methodLinkNest RX0 28 yX11_isWithin "CampYears", Cond.methodLinkNest RX6 25 yX11_isWithin "CampYears", Cond.methodLinkNest RX7 28 yX11_isWithin "CampYears", Cond.methodLinkNest RX3 68 yX11_isWithin "CampYears", Cond.methodLinkNest RX2 41 yX11_isWithin "CampYears", Cond.methodLinkNest RX4 50 yX11_quotient "CampYears", Cond.methodLinkNest RX4 34 yX11_isWithin "CampYears", Cond.methodLinkNest RX10 31 yX11_isWithin "CampYears", Cond.methodLinkNest RX10 53 yX11_remainder "CampYears", Cond.methodLinkNest RX10 61 yX11_quotient "CampYears", Cond.methodLinkNest RX8 37 yX11_isWithin "CampYears", Cond.methodLinkNest RX1 44 yX11_isWithin "CampYears", Cond.methodLinkNest RX1 95 yX11_remainder "CampYears", Cond.methodLinkNest RX1 98 yX11_quotient "CampYears", Cond.methodLinkNest RX5 57 yX11_isWithin "CampYears"]
theorem nl_RX11_11 : Cond.methodLinkNest RX11 11 yX0_init "CampYears" ∈ nwl := List.mem_of_getElem? (i := 0) rfl
theorem nl_RX11_36 : Cond.methodLinkNest RX11 36 yX4_init "CampYears" ∈ nwl := List.mem_of_getElem? (i := 1) rfl
theorem nl_RX11_43 : Cond.methodLinkNest RX11 43 yX10_init "CampYears" ∈ nwl := List.mem_of_getElem? (i := 2) rfl
theorem nl_RX11_57 : Cond.methodLinkNest RX11 57 yX1_init "CampYears" ∈ nwl := List.mem_of_getElem? (i := 3) rfl
theorem nl_RX11_64 : Cond.methodLinkNest RX11 64 yX5_init "CampYears" ∈ nwl := List.mem_of_getElem? (i := 4) rfl
theorem nl_RX11_75 : Cond.methodLinkNest RX11 75 yX7_init "CampYears" ∈ nwl := List.mem_of_getElem? (i := 5) rfl
theorem nl_RX0_28 : Cond.methodLinkNest RX0 28 yX11_isWithin "CampYears" ∈ nwl := List.mem_of_getElem? (i := 6) rfl
theorem nl_RX6_25 : Cond.methodLinkNest RX6 25 yX11_isWithin "CampYears" ∈ nwl := List.mem_of_getElem? (i := 7) rfl
theorem nl_RX7_28 : Cond.methodLinkNest RX7 28 yX11_isWithin "CampYears" ∈ nwl := List.mem_of_getElem? (i := 8) rfl
theorem nl_RX3_68 : Cond.methodLinkNest RX3 68 yX11_isWithin "CampYears" ∈ nwl := List.mem_of_getElem? (i := 9) rfl
theorem nl_RX2_41 : Cond.methodLinkNest RX2 41 yX11_isWithin "CampYears" ∈ nwl := List.mem_of_getElem? (i := 10) rfl
theorem nl_RX4_50 : Cond.methodLinkNest RX4 50 yX11_quotient "CampYears" ∈ nwl := List.mem_of_getElem? (i := 11) rfl
theorem nl_RX4_34 : Cond.methodLinkNest RX4 34 yX11_isWithin "CampYears" ∈ nwl := List.mem_of_getElem? (i := 12) rfl
theorem nl_RX10_31 : Cond.methodLinkNest RX10 31 yX11_isWithin "CampYears" ∈ nwl := List.mem_of_getElem? (i := 13) rfl
theorem nl_RX10_53 : Cond.methodLinkNest RX10 53 yX11_remainder "CampYears" ∈ nwl := List.mem_of_getElem? (i := 14) rfl
theorem nl_RX10_61 : Cond.methodLinkNest RX10 61 yX11_quotient "CampYears" ∈ nwl := List.mem_of_getElem? (i := 15) rfl
theorem nl_RX8_37 : Cond.methodLinkNest RX8 37 yX11_isWithin "CampYears" ∈ nwl := List.mem_of_getElem? (i := 16) rfl
theorem nl_RX1_44 : Cond.methodLinkNest RX1 44 yX11_isWithin "CampYears" ∈ nwl := List.mem_of_getElem? (i := 17) rfl
theorem nl_RX1_95 : Cond.methodLinkNest RX1 95 yX11_remainder "CampYears" ∈ nwl := List.mem_of_getElem? (i := 18) rfl
theorem nl_RX1_98 : Cond.methodLinkNest RX1 98 yX11_quotient "CampYears" ∈ nwl := List.mem_of_getElem? (i := 19) rfl
theorem nl_RX5_57 : Cond.methodLinkNest RX5 57 yX11_isWithin "CampYears" ∈ nwl := List.mem_of_getElem? (i := 20) rfl
theorem nwl_in : ∀ w ∈ nwl, w ∈ lw_tbl := by
  intro w h
  simp only [nwl, List.mem_cons, List.not_mem_nil, or_false] at h
  rcases h with rfl | rfl | rfl | rfl | rfl | rfl | rfl | rfl | rfl | rfl | rfl | rfl | rfl | rfl | rfl | rfl | rfl | rfl | rfl | rfl | rfl
  · exact tb_1 27 (by decide +kernel)
  · exact tb_1 64 (by decide +kernel)
  · exact tb_1 94 (by decide +kernel)
  · exact tb_1 155 (by decide +kernel)
  · exact tb_1 191 (by decide +kernel)
  · exact tb_1 223 (by decide +kernel)
  · exact tb_2 74 (by decide +kernel)
  · exact tb_2 133 (by decide +kernel)
  · exact tb_2 161 (by decide +kernel)
  · exact tb_3 0 (by decide +kernel)
  · exact tb_3 70 (by decide +kernel)
  · exact tb_3 113 (by decide +kernel)
  · exact tb_3 120 (by decide +kernel)
  · exact tb_3 169 (by decide +kernel)
  · exact tb_3 209 (by decide +kernel)
  · exact tb_4 9 (by decide +kernel)
  · exact tb_4 35 (by decide +kernel)
  · exact tb_4 72 (by decide +kernel)
  · exact tb_4 92 (by decide +kernel)
  · exact tb_4 93 (by decide +kernel)
  · exact tb_4 193 (by decide +kernel)
theorem nwl_is : ∀ w ∈ nwl, ∃ a i y h, w = Cond.methodLinkNest a i y h := by
  intro w h
  simp only [nwl, List.mem_cons, List.not_mem_nil, or_false] at h
  rcases h with rfl | rfl | rfl | rfl | rfl | rfl | rfl | rfl | rfl | rfl | rfl | rfl | rfl | rfl | rfl | rfl | rfl | rfl | rfl | rfl | rfl <;> exact ⟨_, _, _, _, rfl⟩
def nw_ (U : State) : Prop := ∀ w ∈ nwl, va_Nw w U
theorem nw_.warm {s U : State} (hW : s.WarmedH U.vm) (h : nw_ s) : nw_ U := fun w hw => by
  obtain ⟨a, i, y, g, rfl⟩ := nwl_is w hw
  exact va_Nw.warmM hW (h _ hw)
theorem nw_.same {s U : State} (e : s.vm = U.vm) (h : nw_ s) : nw_ U := fun w hw => by
  obtain ⟨a, i, y, g, rfl⟩ := nwl_is w hw
  exact va_Nw.same rfl e (h _ hw)
end
section
/-! THE WORLD: one abstract heap for the class and the reference. A cell has a kind k and a number j: 0 the class's own fixed cells, 1 posts, 2 orders, 3 works, 4 the reader of a text, 5 the reference's rows (j: the field's slot), 6 the reference's object. -/
/-- constants of a world: class numbers, slots, array classes, addresses of the fixed cells, the least address -/
abbrev Gx : Type := (Nat → ClassId) × (Nat → Nat → Nat) × (Nat → ClassId) × (Nat → Nat → Nat) × Nat
/-- a state: ints by kind, number and slot; longs by row and place; counts -/
abbrev Sx : Type := (Nat → Nat → Nat → Int32) × (Nat → Nat → Int64) × (Nat → Nat)
/-- addresses of posts, orders, works, the reader -/
abbrev Ax : Type := (Nat → Nat) × (Nat → Nat) × (Nat → Nat) × (Nat → Nat)
abbrev cls_ : List vw_C := [(RX0, TX0, 5), (RX1, TX1, 9), (RX2, TX2, 7), (RX3, TX3, 12), (RX4, TX4, 7), (RX5, TX5, 7), (RX6, TX6, 5), (RX7, TX7, 3), (RX8, TX8, 6), (RX9, TX9, 8), (RX10, TX10, 7), (RX11, TX11, 15), (RX12, TX12, 71)]
def tys_ (G : Gx) : List (ClassId × FieldType) := [(G.2.2.1 0, .int), (G.2.2.1 1, .long), (G.2.2.1 2, .boolean), (G.2.2.1 3, .object "CampYears$Post"), (G.2.2.1 4, .object "CampYears$Order"), (G.2.2.1 5, .object "CampYears$Work"), (G.2.2.1 6, .object "CampYears$Sheet")]
abbrev Cf : Type := Gx → Ax → (Nat → Nat) → (Nat → Int32) → (Nat → Int64) → va_E
def cfI (len : Nat) : Cf := fun G _ _ ri _ => .inl (G.2.2.1 0, len, .inl ri)
def cfJ (len : Nat) : Cf := fun G _ _ _ rl => .inl (G.2.2.1 1, len, .inr (.inl rl))
def cfZ (len : Nat) : Cf := fun G _ _ ri _ => .inl (G.2.2.1 2, len, .inl ri)
def cfP (t len cnt : Nat) (pick : Ax → Nat → Nat) : Cf := fun G a n _ _ => .inl (G.2.2.1 t, len, .inr (.inr (.inr (.inr (fun i => if i < n cnt then some (pick a i) else none)))))
/-- a field: a number of its own, or the fixed cell that it holds -/
def fI (ri : Nat → Int32) (k : Nat) : Value := .int (ri k)
def fR (G : Gx) (k j : Nat) : Value := .ref (G.2.2.2.1 k j)
def fx_ : List Cf := [
  /- 0 -/ fun G _ _ ri _ => .inr (11, [fR G 0 1, fI ri 1, fR G 0 6, fI ri 3, fI ri 4, fR G 0 7, fR G 0 8, fI ri 7, fR G 0 9, fR G 0 14, fR G 0 19, fR G 0 25, fR G 0 34, fR G 0 41, fI ri 14]),
  /- 1 -/ fun G _ _ ri _ => .inr (0, [fR G 0 2, fR G 0 3, fR G 0 4, fR G 0 5, fI ri 4]),
  /- 2 -/ cfI 7,
  /- 3 -/ cfI 7,
  /- 4 -/ cfI 7,
  /- 5 -/ cfI 7,
  /- 6 -/ cfP 3 30 1 (fun a i => a.1 i),
  /- 7 -/ cfI 5,
  /- 8 -/ cfP 4 12 3 (fun a i => a.2.1 i),
  /- 9 -/ fun G _ _ ri _ => .inr (4, [fR G 0 10, fI ri 1, fI ri 2, fR G 0 11, fR G 0 12, fR G 0 13, fI ri 6]),
  /- 10 -/ cfI 3,
  /- 11 -/ cfI 30,
  /- 12 -/ cfI 30,
  /- 13 -/ cfI 30,
  /- 14 -/ fun G _ _ ri _ => .inr (10, [fR G 0 15, fI ri 1, fR G 0 16, fI ri 3, fI ri 4, fR G 0 17, fR G 0 18]),
  /- 15 -/ cfP 5 8 5 (fun a i => a.2.2.1 i),
  /- 16 -/ cfI 8,
  /- 17 -/ cfI 5,
  /- 18 -/ cfI 5,
  /- 19 -/ fun G _ _ ri _ => .inr (8, [fR G 0 20, fR G 0 21, fR G 0 22, fR G 0 23, fI ri 4, fR G 0 24]),
  /- 20 -/ cfI 12,
  /- 21 -/ cfI 12,
  /- 22 -/ cfI 12,
  /- 23 -/ cfI 12,
  /- 24 -/ cfI 24,
  /- 25 -/ fun G _ _ ri _ => .inr (1, [fR G 0 26, fR G 0 27, fR G 0 28, fR G 0 29, fI ri 4, fR G 0 30, fR G 0 31, fR G 0 32, fR G 0 33]),
  /- 26 -/ cfI 3,
  /- 27 -/ cfI 3,
  /- 28 -/ cfI 3,
  /- 29 -/ cfI 3,
  /- 30 -/ cfI 7,
  /- 31 -/ cfI 7,
  /- 32 -/ cfJ 128,
  /- 33 -/ cfJ 128,
  /- 34 -/ fun G _ _ ri _ => .inr (5, [fR G 0 35, fR G 0 36, fR G 0 37, fR G 0 38, fI ri 4, fR G 0 39, fR G 0 40]),
  /- 35 -/ cfI 8,
  /- 36 -/ cfI 8,
  /- 37 -/ cfI 8,
  /- 38 -/ cfZ 8,
  /- 39 -/ cfI 256,
  /- 40 -/ cfI 7,
  /- 41 -/ fun G _ _ _ _ => .inl (G.2.2.1 6, 4, .inr (.inr (.inr (.inr (fun i => if i < 4 then some (G.2.2.2.1 0 (42 + i)) else none))))),
  /- 42 -/ fun G _ _ ri _ => .inr (7, [fR G 0 46, fI ri 1, fI ri 2]),
  /- 43 -/ fun G _ _ ri _ => .inr (7, [fR G 0 47, fI ri 1, fI ri 2]),
  /- 44 -/ fun G _ _ ri _ => .inr (7, [fR G 0 48, fI ri 1, fI ri 2]),
  /- 45 -/ fun G _ _ ri _ => .inr (7, [fR G 0 49, fI ri 1, fI ri 2]),
  /- 46 -/ cfI 60,
  /- 47 -/ cfI 60,
  /- 48 -/ cfI 60,
  /- 49 -/ cfI 60]
def fxd : Cf := cfI 0
def fm_ : List Cf := [
  /- 0 fault -/ fxd,
  /- 1 trace -/ fxd,
  /- 2 lanes -/ cfI 4,
  /- 3 sheetLong -/ cfI 4,
  /- 4 cells -/ cfI 240,
  /- 5 camps -/ fxd,
  /- 6 campX -/ cfI 7,
  /- 7 campY -/ cfI 7,
  /- 8 bedsOf -/ cfI 7,
  /- 9 men -/ fxd,
  /- 10 posts -/ fxd,
  /- 11 postKind -/ cfI 30,
  /- 12 postMan -/ cfI 30,
  /- 13 postCamp -/ cfI 30,
  /- 14 postFrom -/ cfI 30,
  /- 15 postTill -/ cfI 30,
  /- 16 orders -/ fxd,
  /- 17 orderOffice -/ cfI 13,
  /- 18 hourFrom -/ cfI 13,
  /- 19 hourTo -/ cfI 13,
  /- 20 dayFrom -/ cfI 13,
  /- 21 dayTo -/ cfI 13,
  /- 22 leftOut -/ cfI 13,
  /- 23 given -/ cfI 13,
  /- 24 delays -/ cfI 5,
  /- 25 at -/ fxd,
  /- 26 end -/ fxd,
  /- 27 wrongAt -/ fxd,
  /- 28 rates -/ cfI 3,
  /- 29 homeA -/ fxd,
  /- 30 homeB -/ fxd,
  /- 31 fines -/ fxd,
  /- 32 fineMan -/ cfI 30,
  /- 33 fineDay -/ cfI 30,
  /- 34 fineCents -/ cfI 30,
  /- 35 works -/ fxd,
  /- 36 workCamp -/ cfI 8,
  /- 37 needs -/ cfI 8,
  /- 38 done -/ cfI 8,
  /- 39 toolsOf -/ cfI 8,
  /- 40 handsOf -/ cfI 8,
  /- 41 noTool -/ cfI 8,
  /- 42 noDay -/ cfI 8,
  /- 43 counted -/ cfI 8,
  /- 44 weather -/ cfI 8,
  /- 45 weatherLong -/ fxd,
  /- 46 weeks -/ fxd,
  /- 47 levelA -/ cfI 5,
  /- 48 levelB -/ cfI 5,
  /- 49 shares -/ cfI 24,
  /- 50 stands -/ fxd,
  /- 51 standKind -/ cfI 12,
  /- 52 slopes -/ cfI 12,
  /- 53 planted -/ cfI 12,
  /- 54 plantedIn -/ cfI 12,
  /- 55 fires -/ fxd,
  /- 56 fireX -/ cfI 3,
  /- 57 fireY -/ cfI 3,
  /- 58 fireNeed -/ cfI 3,
  /- 59 spreads -/ cfI 3,
  /- 60 crews -/ cfI 7,
  /- 61 goes -/ cfI 7,
  /- 62 hours -/ cfI 21,
  /- 63 places -/ fxd,
  /- 64 placeX -/ cfI 8,
  /- 65 placeY -/ cfI 8,
  /- 66 reaches -/ cfI 8,
  /- 67 hasWater -/ cfZ 8,
  /- 68 most -/ cfJ 256,
  /- 69 toX -/ cfI 7,
  /- 70 toY -/ cfI 7]
def mo_ (G : Gx) (ri : Nat → Int32) : List Value := [fI ri 0, fI ri 1, fR G 5 2, fR G 5 3, fR G 5 4, fI ri 5, fR G 5 6, fR G 5 7, fR G 5 8, fI ri 9, fI ri 10, fR G 5 11, fR G 5 12, fR G 5 13, fR G 5 14, fR G 5 15, fI ri 16, fR G 5 17, fR G 5 18, fR G 5 19, fR G 5 20, fR G 5 21, fR G 5 22, fR G 5 23, fR G 5 24, fI ri 25, fI ri 26, fI ri 27, fR G 5 28, fI ri 29, fI ri 30, fI ri 31, fR G 5 32, fR G 5 33, fR G 5 34, fI ri 35, fR G 5 36, fR G 5 37, fR G 5 38, fR G 5 39, fR G 5 40, fR G 5 41, fR G 5 42, fR G 5 43, fR G 5 44, fI ri 45, fI ri 46, fR G 5 47, fR G 5 48, fR G 5 49, fI ri 50, fR G 5 51, fR G 5 52, fR G 5 53, fR G 5 54, fI ri 55, fR G 5 56, fR G 5 57, fR G 5 58, fR G 5 59, fR G 5 60, fR G 5 61, fR G 5 62, fI ri 63, fR G 5 64, fR G 5 65, fR G 5 66, fR G 5 67, fR G 5 68, fR G 5 69, fR G 5 70]
def rd_ (G : Gx) (x : Nat) : Option Nat := match x with
  | 0 => none
  | k + 1 => some (G.2.2.2.1 0 (42 + k))
/-- what the cell (k, j) holds, by its row of the state -/
def ctf (G : Gx) (a : Ax) (n : Nat → Nat) (k j : Nat) (ri : Nat → Int32) (rl : Nat → Int64) : va_E := match k with
  | 0 => ((fx_[j]?).getD fxd) G a n ri rl
  | 1 => .inr (6, [fI ri 0, fI ri 1, fI ri 2, fI ri 3, fI ri 4])
  | 2 => .inr (2, [fI ri 0, fI ri 1, fI ri 2, fI ri 3, fI ri 4, fI ri 5, fI ri 6])
  | 3 => .inr (9, [fI ri 0, fI ri 1, fI ri 2, fI ri 3, fI ri 4, fI ri 5, fI ri 6, fI ri 7])
  | 4 => .inr (3, [va_rf (rd_ G (n 7)), fI ri 1, fI ri 2, fI ri 3, fI ri 4, fI ri 5, fI ri 6, fI ri 7, fI ri 8, fI ri 9, fI ri 10, fI ri 11])
  | 5 => ((fm_[j]?).getD fxd) G a n ri rl
  | _ => .inr (12, mo_ G ri)
def adr (G : Gx) (a : Ax) (k j : Nat) : Nat := match k with
  | 0 => G.2.2.2.1 0 j
  | 1 => a.1 j
  | 2 => a.2.1 j
  | 3 => a.2.2.1 j
  | 4 => a.2.2.2 j
  | 5 => G.2.2.2.1 5 j
  | _ => G.2.2.2.1 6 j
/-- the fixed cells -/
def fxl : List (Nat × Nat) := (List.range 50).map (fun j => (0, j)) ++ ([2, 3, 4, 6, 7, 8, 11, 12, 13, 14, 15, 17, 18, 19, 20, 21, 22, 23, 24, 28, 32, 33, 34, 36, 37, 38, 39, 40, 41, 42, 43, 44, 47, 48, 49, 51, 52, 53, 54, 56, 57, 58, 59, 60, 61, 62, 64, 65, 66, 67, 68, 69, 70].map (fun j => (5, j)) ++ [(6, 0)])
/-- the cells that stand, by the counts: 0 posts made, 1 posts in their row, 2, 3 orders, 4, 5 works, 6 readers made, 7 the reader's sheet (and one) -/
def lx_ (n : Nat → Nat) : List (Nat × Nat) := fxl ++ ((List.range (n 0)).map (fun p => (1, p)) ++ ((List.range (n 2)).map (fun p => (2, p)) ++ ((List.range (n 4)).map (fun p => (3, p)) ++ (List.range (n 6)).map (fun p => (4, p)))))
def wl_ (G : Gx) (a : Ax) (s : Sx) : va_W := (lx_ s.2.2).map (fun q => (adr G a q.1 q.2, ctf G a s.2.2 q.1 q.2 (s.1 q.1 q.2) (s.2.1 q.2)))
abbrev bs_ (G : Gx) : Nat → Prop := fun q => G.2.2.2.2 ≤ q
/-- the heap holds the state s, its dynamic cells at a -/
def FW (G : Gx) (a : Ax) (s : Sx) (H : Heap) : Prop := va_P (G.1, G.2.1) cls_ (wl_ G a s) H ∧ va_D (bs_ G) (wl_ G a s)
def setI (s : Sx) (k j i : Nat) (v : Int32) : Sx := (fun k' j' => if k' = k ∧ j' = j then upd (s.1 k j) i v else s.1 k' j', s.2)
def setJ (s : Sx) (j i : Nat) (v : Int64) : Sx := (s.1, (fun j' => if j' = j then vp_updL (s.2.1 j) i v else s.2.1 j'), s.2.2)
def setN (s : Sx) (i v : Nat) : Sx := (s.1, s.2.1, fun j => if j = i then v else s.2.2 j)
theorem setI_1 (s : Sx) (k j i : Nat) (v : Int32) : (setI s k j i v).1 k j = upd (s.1 k j) i v := by simp [setI]
theorem setI_n (s : Sx) {k j i : Nat} {v : Int32} {k' j' : Nat} (h : ¬ (k' = k ∧ j' = j)) : (setI s k j i v).1 k' j' = s.1 k' j' := by simp only [setI, if_neg h]
theorem setI_2 (s : Sx) (k j i : Nat) (v : Int32) : (setI s k j i v).2 = s.2 := rfl
theorem setJ_1 (s : Sx) (j i : Nat) (v : Int64) : (setJ s j i v).2.1 j = vp_updL (s.2.1 j) i v := by simp [setJ]
theorem setJ_n (s : Sx) {j i : Nat} {v : Int64} {j' : Nat} (h : j' ≠ j) : (setJ s j i v).2.1 j' = s.2.1 j' := by simp only [setJ, if_neg h]
theorem fw_get {G : Gx} {a : Ax} {s : Sx} {k j : Nat} (hm : (k, j) ∈ lx_ s.2.2) : ∃ q0 : Nat, (lx_ s.2.2)[q0]? = some (k, j) ∧ (wl_ G a s)[q0]? = some (adr G a k j, ctf G a s.2.2 k j (s.1 k j) (s.2.1 j)) := by
  obtain ⟨q0, hq⟩ := List.getElem?_of_mem hm
  exact ⟨q0, hq, by simp [wl_, hq]⟩
theorem map_set_ {α β : Type} {A : Nat → Prop} {L : List α} {f f' : α → Nat × va_E} {q0 : Nat} {x : α} (hD : va_D A (L.map f)) (hq : L[q0]? = some x) (ha : (f' x).1 = (f x).1) (ho : ∀ y, y ≠ x → f' y = f y) : (L.map f).set q0 (f' x) = L.map f' := by
  apply List.ext_getElem?
  intro i
  have hlt : q0 < (L.map f).length := by rw [List.length_map]; exact (List.getElem?_eq_some_iff.mp hq).1
  by_cases hi : i = q0
  · subst hi
    rw [List.getElem?_set_self hlt, List.getElem?_map, hq]; rfl
  · rw [List.getElem?_set_ne (Ne.symm hi), List.getElem?_map, List.getElem?_map]
    cases hy : L[i]? with
    | none => rfl
    | some y =>
      by_cases hyx : y = x
      · subst hyx
        exact absurd (hD.1 i q0 (f y) (f y) (by rw [List.getElem?_map, hy]; rfl) (by rw [List.getElem?_map, hq]; rfl) rfl) hi
      · rw [Option.map_some, Option.map_some, ho y hyx]
/-- a cell's row changes, the rest stays -/
theorem fw_set {G : Gx} {a : Ax} {s s' : Sx} {H1 : Heap} {k j q0 : Nat} {e : va_E} (hD0 : va_D (bs_ G) (wl_ G a s)) (hq : (lx_ s.2.2)[q0]? = some (k, j)) (hn : s'.2.2 = s.2.2) (he : ctf G a s.2.2 k j (s'.1 k j) (s'.2.1 j) = e) (ho : ∀ k' j', ¬ (k' = k ∧ j' = j) → ctf G a s.2.2 k' j' (s'.1 k' j') (s'.2.1 j') = ctf G a s.2.2 k' j' (s.1 k' j') (s.2.1 j'))
    (hP : va_P (G.1, G.2.1) cls_ ((wl_ G a s).set q0 (adr G a k j, e)) H1) (hD : va_D (bs_ G) ((wl_ G a s).set q0 (adr G a k j, e))) : FW G a s' H1 := by
  have h : (wl_ G a s).set q0 (adr G a k j, e) = wl_ G a s' := by
    subst he
    unfold wl_ at hD0 ⊢
    rw [hn]
    exact map_set_ (β := Nat) (f' := fun q : Nat × Nat => (adr G a q.1 q.2, ctf G a s.2.2 q.1 q.2 (s'.1 q.1 q.2) (s'.2.1 q.2))) (x := (k, j)) hD0 hq rfl (fun y hy => by
      have := ho y.1 y.2 (fun hh => hy (Prod.ext hh.1 hh.2))
      rw [this])
  rw [h] at hP hD
  exact ⟨hP, hD⟩
/-- what a walk goes over: program, launch, env, room, start, method, arguments, below, method, code, end; and the world's constants -/
abbrev Kx : Type := Program × Launch × Env × Room × State × MethodId × Array Value × List Frame × Method × Code × (State → Prop) × Gx
abbrev Kx.R (X : Kx) : Room := X.2.2.2.1
abbrev Kx.s (X : Kx) : State := X.2.2.2.2.1
abbrev Kx.m (X : Kx) : MethodId := X.2.2.2.2.2.1
abbrev Kx.av (X : Kx) : Array Value := X.2.2.2.2.2.2.1
abbrev Kx.below (X : Kx) : List Frame := X.2.2.2.2.2.2.2.1
abbrev Kx.meth (X : Kx) : Method := X.2.2.2.2.2.2.2.2.1
abbrev Kx.c (X : Kx) : Code := X.2.2.2.2.2.2.2.2.2.1
abbrev Kx.Q (X : Kx) : State → Prop := X.2.2.2.2.2.2.2.2.2.2.1
abbrev Kx.G (X : Kx) : Gx := X.2.2.2.2.2.2.2.2.2.2.2
/-- what holds throughout the walk -/
def Cx (X : Kx) (cc : ByteArray) (nL : Nat) (own : String) : Prop := X.1.tables.exec = Jvm.exec ∧ X.c.code = cc ∧ X.c.maxLocals = nL ∧ X.s.vm.findClass own = some X.m.cls ∧ (∀ w ∈ gw, w.before X.av X.s = true) ∧ va_K (X.G.1, X.G.2.1) cls_ (tys_ X.G) X.s ∧ nw_ X.s ∧ X.G.2.2.2.2 ≤ X.s.heap.size ∧ X.meth.locks = false
/-- the walk from here comes to its end: at pc, locals lv, stack st, the heap holding s -/
def wk (X : Kx) (a : Ax) (s : Sx) (nL pc : Nat) (lv : List (Nat × Value)) (st : List Value) (ce sl : Nat) : Prop :=
  ∀ (H : Heap) (locs : List Loc) (ls : Array Slot), FW X.G a s H → va_S (bs_ X.G) X.s.heap H locs → lv_has ls nL lv → W X.1 X.2.1 X.2.2.1 X.R X.s X.m X.av X.below X.meth X.c H locs ce sl X.Q (F0 X.m pc ls st)
end
section
theorem k_iconst {X : Kx} {cc : ByteArray} {nL : Nat} {own : String} (hC : Cx X cc nL own) {a : Ax} {s : Sx} {lv : List (Nat × Value)} {st : List Value} {ce sl pc : Nat} {n : Int} {v : Int32} (hd : decode cc pc = .ok (.iconst n, 1)) (hv : Int32.ofInt n = v) (k : wk X a s nL (pc + 1) lv (.int v :: st) ce sl) : wk X a s nL pc lv (st) ce sl := fun H locs ls hF hS hl => lv_iconst hC.1 hC.2.1 hd hv (k H locs ls hF hS hl)
theorem k_bipush {X : Kx} {cc : ByteArray} {nL : Nat} {own : String} (hC : Cx X cc nL own) {a : Ax} {s : Sx} {lv : List (Nat × Value)} {st : List Value} {ce sl pc : Nat} {n : Int} {v : Int32} (hd : decode cc pc = .ok (.bipush n, 2)) (hv : (Int8.ofInt n).toInt32 = v) (k : wk X a s nL (pc + 2) lv (.int v :: st) ce sl) : wk X a s nL pc lv (st) ce sl := fun H locs ls hF hS hl => lv_bipush hC.1 hC.2.1 hd hv (k H locs ls hF hS hl)
theorem k_sipush {X : Kx} {cc : ByteArray} {nL : Nat} {own : String} (hC : Cx X cc nL own) {a : Ax} {s : Sx} {lv : List (Nat × Value)} {st : List Value} {ce sl pc : Nat} {n : Int} {v : Int32} (hd : decode cc pc = .ok (.sipush n, 3)) (hv : (Int16.ofInt n).toInt32 = v) (k : wk X a s nL (pc + 3) lv (.int v :: st) ce sl) : wk X a s nL pc lv (st) ce sl := fun H locs ls hF hS hl => lv_sipush hC.1 hC.2.1 hd hv (k H locs ls hF hS hl)
theorem k_lconst {X : Kx} {cc : ByteArray} {nL : Nat} {own : String} (hC : Cx X cc nL own) {a : Ax} {s : Sx} {lv : List (Nat × Value)} {st : List Value} {ce sl pc : Nat} {n : Fin 2} {v : Int64} (hd : decode cc pc = .ok (.lconst n, 1)) (hv : Int64.ofNat (n : Nat) = v) (k : wk X a s nL (pc + 1) lv (.long v :: st) ce sl) : wk X a s nL pc lv (st) ce sl := fun H locs ls hF hS hl => lv_lconst hC.1 hC.2.1 hd hv (k H locs ls hF hS hl)
theorem k_null {X : Kx} {cc : ByteArray} {nL : Nat} {own : String} (hC : Cx X cc nL own) {a : Ax} {s : Sx} {lv : List (Nat × Value)} {st : List Value} {ce sl pc : Nat}  (hd : decode cc pc = .ok (.aconst_null, 1))  (k : wk X a s nL (pc + 1) lv (.null :: st) ce sl) : wk X a s nL pc lv (st) ce sl := fun H locs ls hF hS hl => lv_null hC.1 hC.2.1 hd  (k H locs ls hF hS hl)
theorem k_iadd {X : Kx} {cc : ByteArray} {nL : Nat} {own : String} (hC : Cx X cc nL own) {a : Ax} {s : Sx} {lv : List (Nat × Value)} {st : List Value} {ce sl pc : Nat} {x y : Int32} (hd : decode cc pc = .ok (.iadd, 1))  (k : wk X a s nL (pc + 1) lv (.int (x + y) :: st) ce sl) : wk X a s nL pc lv (.int y :: .int x :: st) ce sl := fun H locs ls hF hS hl => lv_iadd hC.1 hC.2.1 hd  (k H locs ls hF hS hl)
theorem k_isub {X : Kx} {cc : ByteArray} {nL : Nat} {own : String} (hC : Cx X cc nL own) {a : Ax} {s : Sx} {lv : List (Nat × Value)} {st : List Value} {ce sl pc : Nat} {x y : Int32} (hd : decode cc pc = .ok (.isub, 1))  (k : wk X a s nL (pc + 1) lv (.int (x - y) :: st) ce sl) : wk X a s nL pc lv (.int y :: .int x :: st) ce sl := fun H locs ls hF hS hl => lv_isub hC.1 hC.2.1 hd  (k H locs ls hF hS hl)
theorem k_imul {X : Kx} {cc : ByteArray} {nL : Nat} {own : String} (hC : Cx X cc nL own) {a : Ax} {s : Sx} {lv : List (Nat × Value)} {st : List Value} {ce sl pc : Nat} {x y : Int32} (hd : decode cc pc = .ok (.imul, 1))  (k : wk X a s nL (pc + 1) lv (.int (x * y) :: st) ce sl) : wk X a s nL pc lv (.int y :: .int x :: st) ce sl := fun H locs ls hF hS hl => lv_imul hC.1 hC.2.1 hd  (k H locs ls hF hS hl)
theorem k_iand {X : Kx} {cc : ByteArray} {nL : Nat} {own : String} (hC : Cx X cc nL own) {a : Ax} {s : Sx} {lv : List (Nat × Value)} {st : List Value} {ce sl pc : Nat} {x y : Int32} (hd : decode cc pc = .ok (.iand, 1))  (k : wk X a s nL (pc + 1) lv (.int (x &&& y) :: st) ce sl) : wk X a s nL pc lv (.int y :: .int x :: st) ce sl := fun H locs ls hF hS hl => lv_iand hC.1 hC.2.1 hd  (k H locs ls hF hS hl)
theorem k_ior {X : Kx} {cc : ByteArray} {nL : Nat} {own : String} (hC : Cx X cc nL own) {a : Ax} {s : Sx} {lv : List (Nat × Value)} {st : List Value} {ce sl pc : Nat} {x y : Int32} (hd : decode cc pc = .ok (.ior, 1))  (k : wk X a s nL (pc + 1) lv (.int (x ||| y) :: st) ce sl) : wk X a s nL pc lv (.int y :: .int x :: st) ce sl := fun H locs ls hF hS hl => lv_ior hC.1 hC.2.1 hd  (k H locs ls hF hS hl)
theorem k_ixor {X : Kx} {cc : ByteArray} {nL : Nat} {own : String} (hC : Cx X cc nL own) {a : Ax} {s : Sx} {lv : List (Nat × Value)} {st : List Value} {ce sl pc : Nat} {x y : Int32} (hd : decode cc pc = .ok (.ixor, 1))  (k : wk X a s nL (pc + 1) lv (.int (x ^^^ y) :: st) ce sl) : wk X a s nL pc lv (.int y :: .int x :: st) ce sl := fun H locs ls hF hS hl => lv_ixor hC.1 hC.2.1 hd  (k H locs ls hF hS hl)
theorem k_ishl {X : Kx} {cc : ByteArray} {nL : Nat} {own : String} (hC : Cx X cc nL own) {a : Ax} {s : Sx} {lv : List (Nat × Value)} {st : List Value} {ce sl pc : Nat} {x y : Int32} (hd : decode cc pc = .ok (.ishl, 1))  (k : wk X a s nL (pc + 1) lv (.int (x <<< (y &&& 31)) :: st) ce sl) : wk X a s nL pc lv (.int y :: .int x :: st) ce sl := fun H locs ls hF hS hl => lv_ishl hC.1 hC.2.1 hd  (k H locs ls hF hS hl)
theorem k_ishr {X : Kx} {cc : ByteArray} {nL : Nat} {own : String} (hC : Cx X cc nL own) {a : Ax} {s : Sx} {lv : List (Nat × Value)} {st : List Value} {ce sl pc : Nat} {x y : Int32} (hd : decode cc pc = .ok (.ishr, 1))  (k : wk X a s nL (pc + 1) lv (.int (x >>> (y &&& 31)) :: st) ce sl) : wk X a s nL pc lv (.int y :: .int x :: st) ce sl := fun H locs ls hF hS hl => lv_ishr hC.1 hC.2.1 hd  (k H locs ls hF hS hl)
theorem k_idiv {X : Kx} {cc : ByteArray} {nL : Nat} {own : String} (hC : Cx X cc nL own) {a : Ax} {s : Sx} {lv : List (Nat × Value)} {st : List Value} {ce sl pc : Nat} {x y : Int32} (hd : decode cc pc = .ok (.idiv, 1)) (hne : ¬ y = 0) (k : wk X a s nL (pc + 1) lv (.int (x / y) :: st) ce sl) : wk X a s nL pc lv (.int y :: .int x :: st) ce sl := fun H locs ls hF hS hl => lv_idiv hC.1 hC.2.1 hd hne (k H locs ls hF hS hl)
theorem k_irem {X : Kx} {cc : ByteArray} {nL : Nat} {own : String} (hC : Cx X cc nL own) {a : Ax} {s : Sx} {lv : List (Nat × Value)} {st : List Value} {ce sl pc : Nat} {x y : Int32} (hd : decode cc pc = .ok (.irem, 1)) (hne : ¬ y = 0) (k : wk X a s nL (pc + 1) lv (.int (x - x / y * y) :: st) ce sl) : wk X a s nL pc lv (.int y :: .int x :: st) ce sl := fun H locs ls hF hS hl => lv_irem hC.1 hC.2.1 hd hne (k H locs ls hF hS hl)
theorem k_ineg {X : Kx} {cc : ByteArray} {nL : Nat} {own : String} (hC : Cx X cc nL own) {a : Ax} {s : Sx} {lv : List (Nat × Value)} {st : List Value} {ce sl pc : Nat} {x : Int32} (hd : decode cc pc = .ok (.ineg, 1))  (k : wk X a s nL (pc + 1) lv (.int (-x) :: st) ce sl) : wk X a s nL pc lv (.int x :: st) ce sl := fun H locs ls hF hS hl => lv_ineg hC.1 hC.2.1 hd  (k H locs ls hF hS hl)
theorem k_iushr {X : Kx} {cc : ByteArray} {nL : Nat} {own : String} (hC : Cx X cc nL own) {a : Ax} {s : Sx} {lv : List (Nat × Value)} {st : List Value} {ce sl pc : Nat} {x y : Int32} (hd : decode cc pc = .ok (.iushr, 1))  (k : wk X a s nL (pc + 1) lv (.int ((x.toUInt32 >>> (y.toUInt32 &&& Int32.toUInt32 31)).toInt32) :: st) ce sl) : wk X a s nL pc lv (.int y :: .int x :: st) ce sl := fun H locs ls hF hS hl => lv_iushr hC.1 hC.2.1 hd rfl (k H locs ls hF hS hl)
theorem k_ladd {X : Kx} {cc : ByteArray} {nL : Nat} {own : String} (hC : Cx X cc nL own) {a : Ax} {s : Sx} {lv : List (Nat × Value)} {st : List Value} {ce sl pc : Nat} {x y : Int64} (hd : decode cc pc = .ok (.ladd, 1))  (k : wk X a s nL (pc + 1) lv (.long (x + y) :: st) ce sl) : wk X a s nL pc lv (.long y :: .long x :: st) ce sl := fun H locs ls hF hS hl => lv_ladd hC.1 hC.2.1 hd  (k H locs ls hF hS hl)
theorem k_lsub {X : Kx} {cc : ByteArray} {nL : Nat} {own : String} (hC : Cx X cc nL own) {a : Ax} {s : Sx} {lv : List (Nat × Value)} {st : List Value} {ce sl pc : Nat} {x y : Int64} (hd : decode cc pc = .ok (.lsub, 1))  (k : wk X a s nL (pc + 1) lv (.long (x - y) :: st) ce sl) : wk X a s nL pc lv (.long y :: .long x :: st) ce sl := fun H locs ls hF hS hl => lv_lsub hC.1 hC.2.1 hd  (k H locs ls hF hS hl)
theorem k_lmul {X : Kx} {cc : ByteArray} {nL : Nat} {own : String} (hC : Cx X cc nL own) {a : Ax} {s : Sx} {lv : List (Nat × Value)} {st : List Value} {ce sl pc : Nat} {x y : Int64} (hd : decode cc pc = .ok (.lmul, 1))  (k : wk X a s nL (pc + 1) lv (.long (x * y) :: st) ce sl) : wk X a s nL pc lv (.long y :: .long x :: st) ce sl := fun H locs ls hF hS hl => lv_lmul hC.1 hC.2.1 hd  (k H locs ls hF hS hl)
theorem k_land {X : Kx} {cc : ByteArray} {nL : Nat} {own : String} (hC : Cx X cc nL own) {a : Ax} {s : Sx} {lv : List (Nat × Value)} {st : List Value} {ce sl pc : Nat} {x y : Int64} (hd : decode cc pc = .ok (.land, 1))  (k : wk X a s nL (pc + 1) lv (.long (x &&& y) :: st) ce sl) : wk X a s nL pc lv (.long y :: .long x :: st) ce sl := fun H locs ls hF hS hl => lv_land hC.1 hC.2.1 hd  (k H locs ls hF hS hl)
theorem k_lor {X : Kx} {cc : ByteArray} {nL : Nat} {own : String} (hC : Cx X cc nL own) {a : Ax} {s : Sx} {lv : List (Nat × Value)} {st : List Value} {ce sl pc : Nat} {x y : Int64} (hd : decode cc pc = .ok (.lor, 1))  (k : wk X a s nL (pc + 1) lv (.long (x ||| y) :: st) ce sl) : wk X a s nL pc lv (.long y :: .long x :: st) ce sl := fun H locs ls hF hS hl => lv_lor hC.1 hC.2.1 hd  (k H locs ls hF hS hl)
theorem k_ldiv {X : Kx} {cc : ByteArray} {nL : Nat} {own : String} (hC : Cx X cc nL own) {a : Ax} {s : Sx} {lv : List (Nat × Value)} {st : List Value} {ce sl pc : Nat} {x y : Int64} (hd : decode cc pc = .ok (.ldiv, 1)) (hne : ¬ y = 0) (k : wk X a s nL (pc + 1) lv (.long (x / y) :: st) ce sl) : wk X a s nL pc lv (.long y :: .long x :: st) ce sl := fun H locs ls hF hS hl => lv_ldiv hC.1 hC.2.1 hd hne (k H locs ls hF hS hl)
theorem k_lrem {X : Kx} {cc : ByteArray} {nL : Nat} {own : String} (hC : Cx X cc nL own) {a : Ax} {s : Sx} {lv : List (Nat × Value)} {st : List Value} {ce sl pc : Nat} {x y : Int64} (hd : decode cc pc = .ok (.lrem, 1)) (hne : ¬ y = 0) (k : wk X a s nL (pc + 1) lv (.long (x - x / y * y) :: st) ce sl) : wk X a s nL pc lv (.long y :: .long x :: st) ce sl := fun H locs ls hF hS hl => lv_lrem hC.1 hC.2.1 hd hne (k H locs ls hF hS hl)
theorem k_lshl {X : Kx} {cc : ByteArray} {nL : Nat} {own : String} (hC : Cx X cc nL own) {a : Ax} {s : Sx} {lv : List (Nat × Value)} {st : List Value} {ce sl pc : Nat} {x : Int64} {y : Int32} (hd : decode cc pc = .ok (.lshl, 1))  (k : wk X a s nL (pc + 1) lv (.long (x <<< (y.toInt64 &&& 63)) :: st) ce sl) : wk X a s nL pc lv (.int y :: .long x :: st) ce sl := fun H locs ls hF hS hl => lv_lshl hC.1 hC.2.1 hd rfl (k H locs ls hF hS hl)
theorem k_lshr {X : Kx} {cc : ByteArray} {nL : Nat} {own : String} (hC : Cx X cc nL own) {a : Ax} {s : Sx} {lv : List (Nat × Value)} {st : List Value} {ce sl pc : Nat} {x : Int64} {y : Int32} (hd : decode cc pc = .ok (.lshr, 1))  (k : wk X a s nL (pc + 1) lv (.long (x >>> (y.toInt64 &&& 63)) :: st) ce sl) : wk X a s nL pc lv (.int y :: .long x :: st) ce sl := fun H locs ls hF hS hl => lv_lshr hC.1 hC.2.1 hd rfl (k H locs ls hF hS hl)
theorem k_i2l {X : Kx} {cc : ByteArray} {nL : Nat} {own : String} (hC : Cx X cc nL own) {a : Ax} {s : Sx} {lv : List (Nat × Value)} {st : List Value} {ce sl pc : Nat} {x : Int32} (hd : decode cc pc = .ok (.i2l, 1))  (k : wk X a s nL (pc + 1) lv (.long x.toInt64 :: st) ce sl) : wk X a s nL pc lv (.int x :: st) ce sl := fun H locs ls hF hS hl => lv_i2l hC.1 hC.2.1 hd rfl (k H locs ls hF hS hl)
theorem k_l2i {X : Kx} {cc : ByteArray} {nL : Nat} {own : String} (hC : Cx X cc nL own) {a : Ax} {s : Sx} {lv : List (Nat × Value)} {st : List Value} {ce sl pc : Nat} {x : Int64} (hd : decode cc pc = .ok (.l2i, 1))  (k : wk X a s nL (pc + 1) lv (.int x.toInt32 :: st) ce sl) : wk X a s nL pc lv (.long x :: st) ce sl := fun H locs ls hF hS hl => lv_l2i hC.1 hC.2.1 hd rfl (k H locs ls hF hS hl)
theorem k_i2b {X : Kx} {cc : ByteArray} {nL : Nat} {own : String} (hC : Cx X cc nL own) {a : Ax} {s : Sx} {lv : List (Nat × Value)} {st : List Value} {ce sl pc : Nat} {x : Int32} (hd : decode cc pc = .ok (.i2b, 1))  (k : wk X a s nL (pc + 1) lv (.int x.toInt8.toInt32 :: st) ce sl) : wk X a s nL pc lv (.int x :: st) ce sl := fun H locs ls hF hS hl => lv_i2b hC.1 hC.2.1 hd rfl (k H locs ls hF hS hl)
theorem k_i2s {X : Kx} {cc : ByteArray} {nL : Nat} {own : String} (hC : Cx X cc nL own) {a : Ax} {s : Sx} {lv : List (Nat × Value)} {st : List Value} {ce sl pc : Nat} {x : Int32} (hd : decode cc pc = .ok (.i2s, 1))  (k : wk X a s nL (pc + 1) lv (.int x.toInt16.toInt32 :: st) ce sl) : wk X a s nL pc lv (.int x :: st) ce sl := fun H locs ls hF hS hl => lv_i2s hC.1 hC.2.1 hd rfl (k H locs ls hF hS hl)
theorem k_lcmp {X : Kx} {cc : ByteArray} {nL : Nat} {own : String} (hC : Cx X cc nL own) {a : Ax} {s : Sx} {lv : List (Nat × Value)} {st : List Value} {ce sl pc : Nat} {x y : Int64} (hd : decode cc pc = .ok (.lcmp, 1))  (k : wk X a s nL (pc + 1) lv (.int (lg_cmp x y) :: st) ce sl) : wk X a s nL pc lv (.long y :: .long x :: st) ce sl := fun H locs ls hF hS hl => W.lcmp hC.1 hC.2.1 hd  (k H locs ls hF hS hl)
theorem k_dup {X : Kx} {cc : ByteArray} {nL : Nat} {own : String} (hC : Cx X cc nL own) {a : Ax} {s : Sx} {lv : List (Nat × Value)} {st : List Value} {ce sl pc : Nat} {va : Value} (hd : decode cc pc = .ok (.dup, 1)) (hva : va.category = 1) (k : wk X a s nL (pc + 1) lv (va :: va :: st) ce sl) : wk X a s nL pc lv (va :: st) ce sl := fun H locs ls hF hS hl => lv_dup hC.1 hC.2.1 hd hva (k H locs ls hF hS hl)
theorem k_pop {X : Kx} {cc : ByteArray} {nL : Nat} {own : String} (hC : Cx X cc nL own) {a : Ax} {s : Sx} {lv : List (Nat × Value)} {st : List Value} {ce sl pc : Nat} {va : Value} (hd : decode cc pc = .ok (.pop, 1)) (hva : va.category = 1) (k : wk X a s nL (pc + 1) lv (st) ce sl) : wk X a s nL pc lv (va :: st) ce sl := fun H locs ls hF hS hl => lv_pop hC.1 hC.2.1 hd hva (k H locs ls hF hS hl)
theorem k_dup_x1 {X : Kx} {cc : ByteArray} {nL : Nat} {own : String} (hC : Cx X cc nL own) {a : Ax} {s : Sx} {lv : List (Nat × Value)} {st : List Value} {ce sl pc : Nat} {va vb : Value} (hd : decode cc pc = .ok (.dup_x1, 1)) (hva : va.category = 1) (hvb : vb.category = 1) (k : wk X a s nL (pc + 1) lv (va :: vb :: va :: st) ce sl) : wk X a s nL pc lv (va :: vb :: st) ce sl := fun H locs ls hF hS hl => lv_dup_x1 hC.1 hC.2.1 hd hva hvb (k H locs ls hF hS hl)
theorem k_dup_x2 {X : Kx} {cc : ByteArray} {nL : Nat} {own : String} (hC : Cx X cc nL own) {a : Ax} {s : Sx} {lv : List (Nat × Value)} {st : List Value} {ce sl pc : Nat} {va vb vc : Value} (hd : decode cc pc = .ok (.dup_x2, 1)) (hva : va.category = 1) (hvb : vb.category = 1) (hvc : vc.category = 1) (k : wk X a s nL (pc + 1) lv (va :: vb :: vc :: va :: st) ce sl) : wk X a s nL pc lv (va :: vb :: vc :: st) ce sl := fun H locs ls hF hS hl => lv_dup_x2 hC.1 hC.2.1 hd hva hvb hvc (k H locs ls hF hS hl)
theorem k_dup2 {X : Kx} {cc : ByteArray} {nL : Nat} {own : String} (hC : Cx X cc nL own) {a : Ax} {s : Sx} {lv : List (Nat × Value)} {st : List Value} {ce sl pc : Nat} {va vb : Value} (hd : decode cc pc = .ok (.dup2, 1)) (hva : va.category = 1) (hvb : vb.category = 1) (k : wk X a s nL (pc + 1) lv (va :: vb :: va :: vb :: st) ce sl) : wk X a s nL pc lv (va :: vb :: st) ce sl := fun H locs ls hF hS hl => lv_dup2_11 hC.1 hC.2.1 hd hva hvb (k H locs ls hF hS hl)
theorem k_dup2L {X : Kx} {cc : ByteArray} {nL : Nat} {own : String} (hC : Cx X cc nL own) {a : Ax} {s : Sx} {lv : List (Nat × Value)} {st : List Value} {ce sl pc : Nat} {va : Value} (hd : decode cc pc = .ok (.dup2, 1)) (hva : va.category = 2) (k : wk X a s nL (pc + 1) lv (va :: va :: st) ce sl) : wk X a s nL pc lv (va :: st) ce sl := fun H locs ls hF hS hl => lv_dup2_2 hC.1 hC.2.1 hd hva (k H locs ls hF hS hl)
theorem k_ldc {X : Kx} {cc : ByteArray} {nL : Nat} {own : String} (hC : Cx X cc nL own) {a : Ax} {s : Sx} {lv : List (Nat × Value)} {st : List Value} {ce sl pc : Nat} {ix : Nat} {v : Int32} (hd : decode cc pc = .ok (.ldc ix, 2)) (hw : Cond.constant own ix v ∈ gw) (k : wk X a s nL (pc + 2) lv (.int v :: st) ce sl) : wk X a s nL pc lv (st) ce sl := fun H locs ls hF hS hl => lv_ldc hC.1 hC.2.1 hC.2.2.2.1 (hC.2.2.2.2.1 _ hw) hd  (k H locs ls hF hS hl)
theorem k_ldcw {X : Kx} {cc : ByteArray} {nL : Nat} {own : String} (hC : Cx X cc nL own) {a : Ax} {s : Sx} {lv : List (Nat × Value)} {st : List Value} {ce sl pc : Nat} {ix : Nat} {v : Int32} (hd : decode cc pc = .ok (.ldc_w ix, 3)) (hw : Cond.constant own ix v ∈ gw) (k : wk X a s nL (pc + 3) lv (.int v :: st) ce sl) : wk X a s nL pc lv (st) ce sl := fun H locs ls hF hS hl => lv_ldcw hC.1 hC.2.1 hC.2.2.2.1 (hC.2.2.2.2.1 _ hw) hd  (k H locs ls hF hS hl)
theorem k_ldc2 {X : Kx} {cc : ByteArray} {nL : Nat} {own : String} (hC : Cx X cc nL own) {a : Ax} {s : Sx} {lv : List (Nat × Value)} {st : List Value} {ce sl pc : Nat} {ix : Nat} {v : Int64} (hd : decode cc pc = .ok (.ldc2_w ix, 3)) (hw : Cond.constantLong own ix v ∈ gw) (k : wk X a s nL (pc + 3) lv (.long v :: st) ce sl) : wk X a s nL pc lv (st) ce sl := fun H locs ls hF hS hl => lv_ldc2 hC.1 hC.2.1 hC.2.2.2.1 (hC.2.2.2.2.1 _ hw) hd  (k H locs ls hF hS hl)
theorem k_iload_n {X : Kx} {cc : ByteArray} {nL : Nat} {own : String} (hC : Cx X cc nL own) {a : Ax} {s : Sx} {lv : List (Nat × Value)} {st : List Value} {ce sl pc : Nat} {n : Fin 4} {x : Int32} (hd : decode cc pc = .ok (.iload_n n, 1)) (q : Nat) (hq : lv[q]? = some ((n : Nat), .int x)) (k : wk X a s nL (pc + 1) lv (.int x :: st) ce sl) : wk X a s nL pc lv st ce sl := fun H locs ls hF hS hl => lv_iload_n hC.1 hC.2.1 hd rfl (lv_at hl q hq) (k H locs ls hF hS hl)
theorem k_iload {X : Kx} {cc : ByteArray} {nL : Nat} {own : String} (hC : Cx X cc nL own) {a : Ax} {s : Sx} {lv : List (Nat × Value)} {st : List Value} {ce sl pc : Nat} {i : Nat} {x : Int32} (hd : decode cc pc = .ok (.iload i, 2)) (q : Nat) (hq : lv[q]? = some (i, .int x)) (k : wk X a s nL (pc + 2) lv (.int x :: st) ce sl) : wk X a s nL pc lv st ce sl := fun H locs ls hF hS hl => lv_iload hC.1 hC.2.1 hd (lv_at hl q hq) (k H locs ls hF hS hl)
theorem k_istore_n {X : Kx} {cc : ByteArray} {nL : Nat} {own : String} (hC : Cx X cc nL own) {a : Ax} {s : Sx} {lv : List (Nat × Value)} {st : List Value} {ce sl pc : Nat} {n : Fin 4} {x : Int32} (hd : decode cc pc = .ok (.istore_n n, 1)) (lv' : List (Nat × Value)) (hn : (n : Nat) < nL) (hv : ((n : Nat), Value.int x) :: lv.filter (fun q => !(q.1 == (n : Nat)) && !(q.1 + 1 == (n : Nat) && q.2.category == 2)) = lv') (k : wk X a s nL (pc + 1) lv' st ce sl) : wk X a s nL pc lv (.int x :: st) ce sl := fun H locs ls hF hS hl => lv_istore_n hC.1 hC.2.1 hd rfl hl hn hv (fun ls2 hl2 => k H locs ls2 hF hS hl2)
theorem k_istore {X : Kx} {cc : ByteArray} {nL : Nat} {own : String} (hC : Cx X cc nL own) {a : Ax} {s : Sx} {lv : List (Nat × Value)} {st : List Value} {ce sl pc : Nat} {i : Nat} {x : Int32} (hd : decode cc pc = .ok (.istore i, 2)) (lv' : List (Nat × Value)) (hn : i < nL) (hv : (i, Value.int x) :: lv.filter (fun q => !(q.1 == i) && !(q.1 + 1 == i && q.2.category == 2)) = lv') (k : wk X a s nL (pc + 2) lv' st ce sl) : wk X a s nL pc lv (.int x :: st) ce sl := fun H locs ls hF hS hl => lv_istore hC.1 hC.2.1 hd hl hn hv (fun ls2 hl2 => k H locs ls2 hF hS hl2)
theorem k_lload_n {X : Kx} {cc : ByteArray} {nL : Nat} {own : String} (hC : Cx X cc nL own) {a : Ax} {s : Sx} {lv : List (Nat × Value)} {st : List Value} {ce sl pc : Nat} {n : Fin 4} {x : Int64} (hd : decode cc pc = .ok (.lload_n n, 1)) (q : Nat) (hq : lv[q]? = some ((n : Nat), .long x)) (k : wk X a s nL (pc + 1) lv (.long x :: st) ce sl) : wk X a s nL pc lv st ce sl := fun H locs ls hF hS hl => lv_lload_n hC.1 hC.2.1 hd rfl (lv_at hl q hq) (k H locs ls hF hS hl)
theorem k_lload {X : Kx} {cc : ByteArray} {nL : Nat} {own : String} (hC : Cx X cc nL own) {a : Ax} {s : Sx} {lv : List (Nat × Value)} {st : List Value} {ce sl pc : Nat} {i : Nat} {x : Int64} (hd : decode cc pc = .ok (.lload i, 2)) (q : Nat) (hq : lv[q]? = some (i, .long x)) (k : wk X a s nL (pc + 2) lv (.long x :: st) ce sl) : wk X a s nL pc lv st ce sl := fun H locs ls hF hS hl => lv_lload hC.1 hC.2.1 hd (lv_at hl q hq) (k H locs ls hF hS hl)
theorem k_lstore_n {X : Kx} {cc : ByteArray} {nL : Nat} {own : String} (hC : Cx X cc nL own) {a : Ax} {s : Sx} {lv : List (Nat × Value)} {st : List Value} {ce sl pc : Nat} {n : Fin 4} {x : Int64} (hd : decode cc pc = .ok (.lstore_n n, 1)) (lv' : List (Nat × Value)) (hn : (n : Nat) + 1 < nL) (hv : ((n : Nat), Value.long x) :: lv.filter (fun q => !(q.1 == (n : Nat)) && (!(q.1 == (n : Nat) + 1) && !(q.1 + 1 == (n : Nat) && q.2.category == 2))) = lv') (k : wk X a s nL (pc + 1) lv' st ce sl) : wk X a s nL pc lv (.long x :: st) ce sl := fun H locs ls hF hS hl => lv_lstore_n hC.1 hC.2.1 hd rfl hl hn hv (fun ls2 hl2 => k H locs ls2 hF hS hl2)
theorem k_lstore {X : Kx} {cc : ByteArray} {nL : Nat} {own : String} (hC : Cx X cc nL own) {a : Ax} {s : Sx} {lv : List (Nat × Value)} {st : List Value} {ce sl pc : Nat} {i : Nat} {x : Int64} (hd : decode cc pc = .ok (.lstore i, 2)) (lv' : List (Nat × Value)) (hn : i + 1 < nL) (hv : (i, Value.long x) :: lv.filter (fun q => !(q.1 == i) && (!(q.1 == i + 1) && !(q.1 + 1 == i && q.2.category == 2))) = lv') (k : wk X a s nL (pc + 2) lv' st ce sl) : wk X a s nL pc lv (.long x :: st) ce sl := fun H locs ls hF hS hl => lv_lstore hC.1 hC.2.1 hd hl hn hv (fun ls2 hl2 => k H locs ls2 hF hS hl2)
theorem k_aload_n {X : Kx} {cc : ByteArray} {nL : Nat} {own : String} (hC : Cx X cc nL own) {a : Ax} {s : Sx} {lv : List (Nat × Value)} {st : List Value} {ce sl pc : Nat} {n : Fin 4} {x : Nat} (hd : decode cc pc = .ok (.aload_n n, 1)) (q : Nat) (hq : lv[q]? = some ((n : Nat), .ref x)) (k : wk X a s nL (pc + 1) lv (.ref x :: st) ce sl) : wk X a s nL pc lv st ce sl := fun H locs ls hF hS hl => lv_aload_n hC.1 hC.2.1 hd rfl (lv_at hl q hq) (k H locs ls hF hS hl)
theorem k_aload {X : Kx} {cc : ByteArray} {nL : Nat} {own : String} (hC : Cx X cc nL own) {a : Ax} {s : Sx} {lv : List (Nat × Value)} {st : List Value} {ce sl pc : Nat} {i : Nat} {x : Nat} (hd : decode cc pc = .ok (.aload i, 2)) (q : Nat) (hq : lv[q]? = some (i, .ref x)) (k : wk X a s nL (pc + 2) lv (.ref x :: st) ce sl) : wk X a s nL pc lv st ce sl := fun H locs ls hF hS hl => lv_aload hC.1 hC.2.1 hd (lv_at hl q hq) (k H locs ls hF hS hl)
theorem k_astore_n {X : Kx} {cc : ByteArray} {nL : Nat} {own : String} (hC : Cx X cc nL own) {a : Ax} {s : Sx} {lv : List (Nat × Value)} {st : List Value} {ce sl pc : Nat} {n : Fin 4} {x : Nat} (hd : decode cc pc = .ok (.astore_n n, 1)) (lv' : List (Nat × Value)) (hn : (n : Nat) < nL) (hv : ((n : Nat), Value.ref x) :: lv.filter (fun q => !(q.1 == (n : Nat)) && !(q.1 + 1 == (n : Nat) && q.2.category == 2)) = lv') (k : wk X a s nL (pc + 1) lv' st ce sl) : wk X a s nL pc lv (.ref x :: st) ce sl := fun H locs ls hF hS hl => lv_astore_n hC.1 hC.2.1 hd rfl hl hn hv (fun ls2 hl2 => k H locs ls2 hF hS hl2)
theorem k_astore {X : Kx} {cc : ByteArray} {nL : Nat} {own : String} (hC : Cx X cc nL own) {a : Ax} {s : Sx} {lv : List (Nat × Value)} {st : List Value} {ce sl pc : Nat} {i : Nat} {x : Nat} (hd : decode cc pc = .ok (.astore i, 2)) (lv' : List (Nat × Value)) (hn : i < nL) (hv : (i, Value.ref x) :: lv.filter (fun q => !(q.1 == i) && !(q.1 + 1 == i && q.2.category == 2)) = lv') (k : wk X a s nL (pc + 2) lv' st ce sl) : wk X a s nL pc lv (.ref x :: st) ce sl := fun H locs ls hF hS hl => lv_astore hC.1 hC.2.1 hd hl hn hv (fun ls2 hl2 => k H locs ls2 hF hS hl2)
theorem k_aload_nN {X : Kx} {cc : ByteArray} {nL : Nat} {own : String} (hC : Cx X cc nL own) {a : Ax} {s : Sx} {lv : List (Nat × Value)} {st : List Value} {ce sl pc : Nat} {n : Fin 4}  (hd : decode cc pc = .ok (.aload_n n, 1)) (q : Nat) (hq : lv[q]? = some ((n : Nat), .null)) (k : wk X a s nL (pc + 1) lv (.null :: st) ce sl) : wk X a s nL pc lv st ce sl := fun H locs ls hF hS hl => lv_aload_nN hC.1 hC.2.1 hd rfl (lv_at hl q hq) (k H locs ls hF hS hl)
theorem k_aloadN {X : Kx} {cc : ByteArray} {nL : Nat} {own : String} (hC : Cx X cc nL own) {a : Ax} {s : Sx} {lv : List (Nat × Value)} {st : List Value} {ce sl pc : Nat} {i : Nat}  (hd : decode cc pc = .ok (.aload i, 2)) (q : Nat) (hq : lv[q]? = some (i, .null)) (k : wk X a s nL (pc + 2) lv (.null :: st) ce sl) : wk X a s nL pc lv st ce sl := fun H locs ls hF hS hl => lv_aloadN hC.1 hC.2.1 hd (lv_at hl q hq) (k H locs ls hF hS hl)
theorem k_astore_nN {X : Kx} {cc : ByteArray} {nL : Nat} {own : String} (hC : Cx X cc nL own) {a : Ax} {s : Sx} {lv : List (Nat × Value)} {st : List Value} {ce sl pc : Nat} {n : Fin 4}  (hd : decode cc pc = .ok (.astore_n n, 1)) (lv' : List (Nat × Value)) (hn : (n : Nat) < nL) (hv : ((n : Nat), Value.null) :: lv.filter (fun q => !(q.1 == (n : Nat)) && !(q.1 + 1 == (n : Nat) && q.2.category == 2)) = lv') (k : wk X a s nL (pc + 1) lv' st ce sl) : wk X a s nL pc lv (.null :: st) ce sl := fun H locs ls hF hS hl => lv_astore_nN hC.1 hC.2.1 hd rfl hl hn hv (fun ls2 hl2 => k H locs ls2 hF hS hl2)
theorem k_astoreN {X : Kx} {cc : ByteArray} {nL : Nat} {own : String} (hC : Cx X cc nL own) {a : Ax} {s : Sx} {lv : List (Nat × Value)} {st : List Value} {ce sl pc : Nat} {i : Nat}  (hd : decode cc pc = .ok (.astore i, 2)) (lv' : List (Nat × Value)) (hn : i < nL) (hv : (i, Value.null) :: lv.filter (fun q => !(q.1 == i) && !(q.1 + 1 == i && q.2.category == 2)) = lv') (k : wk X a s nL (pc + 2) lv' st ce sl) : wk X a s nL pc lv (.null :: st) ce sl := fun H locs ls hF hS hl => lv_astoreN hC.1 hC.2.1 hd hl hn hv (fun ls2 hl2 => k H locs ls2 hF hS hl2)
theorem k_iinc {X : Kx} {cc : ByteArray} {nL : Nat} {own : String} (hC : Cx X cc nL own) {a : Ax} {s : Sx} {lv : List (Nat × Value)} {st : List Value} {ce sl pc : Nat} {i : Nat} {n : Int} {x v : Int32} (hd : decode cc pc = .ok (.iinc i n, 3)) (q : Nat) (hq : lv[q]? = some (i, .int x)) (hx : Int32.ofInt n = v) (lv' : List (Nat × Value)) (hn : i < nL) (hv : (i, Value.int (x + v)) :: lv.filter (fun q => !(q.1 == i) && !(q.1 + 1 == i && q.2.category == 2)) = lv') (k : wk X a s nL (pc + 3) lv' st ce sl) : wk X a s nL pc lv st ce sl := fun H locs ls hF hS hl => lv_iinc hC.1 hC.2.1 hd hl hq (by rw [hx]) hn hv (fun ls2 hl2 => k H locs ls2 hF hS hl2)
theorem k_iincw {X : Kx} {cc : ByteArray} {nL : Nat} {own : String} (hC : Cx X cc nL own) {a : Ax} {s : Sx} {lv : List (Nat × Value)} {st : List Value} {ce sl pc : Nat} {i : Nat} {n : Int} {x v w : Int32} (hd : decode cc pc = .ok (.iinc i n, 3)) (q : Nat) (hq : lv[q]? = some (i, .int x)) (hx : Int32.ofInt n = v) (hw : x + v = w) (lv' : List (Nat × Value)) (hn : i < nL) (hv : (i, Value.int w) :: lv.filter (fun q => !(q.1 == i) && !(q.1 + 1 == i && q.2.category == 2)) = lv') (k : wk X a s nL (pc + 3) lv' st ce sl) : wk X a s nL pc lv st ce sl := fun H locs ls hF hS hl => lv_iinc hC.1 hC.2.1 hd hl hq (by rw [hx, hw]) hn hv (fun ls2 hl2 => k H locs ls2 hF hS hl2)
theorem k_icmp_eq {X : Kx} {cc : ByteArray} {nL : Nat} {own : String} (hC : Cx X cc nL own) {a : Ax} {s : Sx} {lv : List (Nat × Value)} {st : List Value} {ce sl pc : Nat} {x y : Int32} {off : Int} (tgt : Nat) (hd : decode cc pc = .ok (.if_icmp .eq off, 3)) (ht : (pc : Int) + off = (tgt : Int)) (kt : x = y → wk X a s nL tgt lv st ce sl) (kf : ¬ (x = y) → wk X a s nL (pc + 3) lv st ce sl) : wk X a s nL pc lv (.int y :: .int x :: st) ce sl := fun H locs ls hF hS hl => lv_icmp_eq hC.1 hC.2.1 hd ht (fun h => kt (by simpa using h) H locs ls hF hS hl) (fun h => kf (by simpa using h) H locs ls hF hS hl)
theorem k_if_eq {X : Kx} {cc : ByteArray} {nL : Nat} {own : String} (hC : Cx X cc nL own) {a : Ax} {s : Sx} {lv : List (Nat × Value)} {st : List Value} {ce sl pc : Nat} {x : Int32} {off : Int} (tgt : Nat) (hd : decode cc pc = .ok (.ifCond .eq off, 3)) (ht : (pc : Int) + off = (tgt : Int)) (kt : x = 0 → wk X a s nL tgt lv st ce sl) (kf : ¬ (x = 0) → wk X a s nL (pc + 3) lv st ce sl) : wk X a s nL pc lv (.int x :: st) ce sl := fun H locs ls hF hS hl => lv_if_eq hC.1 hC.2.1 hd ht (fun h => kt (by simpa using h) H locs ls hF hS hl) (fun h => kf (by simpa using h) H locs ls hF hS hl)
theorem k_icmp_ne {X : Kx} {cc : ByteArray} {nL : Nat} {own : String} (hC : Cx X cc nL own) {a : Ax} {s : Sx} {lv : List (Nat × Value)} {st : List Value} {ce sl pc : Nat} {x y : Int32} {off : Int} (tgt : Nat) (hd : decode cc pc = .ok (.if_icmp .ne off, 3)) (ht : (pc : Int) + off = (tgt : Int)) (kt : ¬ x = y → wk X a s nL tgt lv st ce sl) (kf : ¬ (¬ x = y) → wk X a s nL (pc + 3) lv st ce sl) : wk X a s nL pc lv (.int y :: .int x :: st) ce sl := fun H locs ls hF hS hl => lv_icmp_ne hC.1 hC.2.1 hd ht (fun h => kt (by simpa using h) H locs ls hF hS hl) (fun h => kf (by simpa using h) H locs ls hF hS hl)
theorem k_if_ne {X : Kx} {cc : ByteArray} {nL : Nat} {own : String} (hC : Cx X cc nL own) {a : Ax} {s : Sx} {lv : List (Nat × Value)} {st : List Value} {ce sl pc : Nat} {x : Int32} {off : Int} (tgt : Nat) (hd : decode cc pc = .ok (.ifCond .ne off, 3)) (ht : (pc : Int) + off = (tgt : Int)) (kt : ¬ x = 0 → wk X a s nL tgt lv st ce sl) (kf : ¬ (¬ x = 0) → wk X a s nL (pc + 3) lv st ce sl) : wk X a s nL pc lv (.int x :: st) ce sl := fun H locs ls hF hS hl => lv_if_ne hC.1 hC.2.1 hd ht (fun h => kt (by simpa using h) H locs ls hF hS hl) (fun h => kf (by simpa using h) H locs ls hF hS hl)
theorem k_icmp_lt {X : Kx} {cc : ByteArray} {nL : Nat} {own : String} (hC : Cx X cc nL own) {a : Ax} {s : Sx} {lv : List (Nat × Value)} {st : List Value} {ce sl pc : Nat} {x y : Int32} {off : Int} (tgt : Nat) (hd : decode cc pc = .ok (.if_icmp .lt off, 3)) (ht : (pc : Int) + off = (tgt : Int)) (kt : x < y → wk X a s nL tgt lv st ce sl) (kf : ¬ (x < y) → wk X a s nL (pc + 3) lv st ce sl) : wk X a s nL pc lv (.int y :: .int x :: st) ce sl := fun H locs ls hF hS hl => lv_icmp_lt hC.1 hC.2.1 hd ht (fun h => kt (by simpa using h) H locs ls hF hS hl) (fun h => kf (by simpa using h) H locs ls hF hS hl)
theorem k_if_lt {X : Kx} {cc : ByteArray} {nL : Nat} {own : String} (hC : Cx X cc nL own) {a : Ax} {s : Sx} {lv : List (Nat × Value)} {st : List Value} {ce sl pc : Nat} {x : Int32} {off : Int} (tgt : Nat) (hd : decode cc pc = .ok (.ifCond .lt off, 3)) (ht : (pc : Int) + off = (tgt : Int)) (kt : x < 0 → wk X a s nL tgt lv st ce sl) (kf : ¬ (x < 0) → wk X a s nL (pc + 3) lv st ce sl) : wk X a s nL pc lv (.int x :: st) ce sl := fun H locs ls hF hS hl => lv_if_lt hC.1 hC.2.1 hd ht (fun h => kt (by simpa using h) H locs ls hF hS hl) (fun h => kf (by simpa using h) H locs ls hF hS hl)
theorem k_icmp_ge {X : Kx} {cc : ByteArray} {nL : Nat} {own : String} (hC : Cx X cc nL own) {a : Ax} {s : Sx} {lv : List (Nat × Value)} {st : List Value} {ce sl pc : Nat} {x y : Int32} {off : Int} (tgt : Nat) (hd : decode cc pc = .ok (.if_icmp .ge off, 3)) (ht : (pc : Int) + off = (tgt : Int)) (kt : y ≤ x → wk X a s nL tgt lv st ce sl) (kf : ¬ (y ≤ x) → wk X a s nL (pc + 3) lv st ce sl) : wk X a s nL pc lv (.int y :: .int x :: st) ce sl := fun H locs ls hF hS hl => lv_icmp_ge hC.1 hC.2.1 hd ht (fun h => kt (by simpa using h) H locs ls hF hS hl) (fun h => kf (by simpa using h) H locs ls hF hS hl)
theorem k_if_ge {X : Kx} {cc : ByteArray} {nL : Nat} {own : String} (hC : Cx X cc nL own) {a : Ax} {s : Sx} {lv : List (Nat × Value)} {st : List Value} {ce sl pc : Nat} {x : Int32} {off : Int} (tgt : Nat) (hd : decode cc pc = .ok (.ifCond .ge off, 3)) (ht : (pc : Int) + off = (tgt : Int)) (kt : 0 ≤ x → wk X a s nL tgt lv st ce sl) (kf : ¬ (0 ≤ x) → wk X a s nL (pc + 3) lv st ce sl) : wk X a s nL pc lv (.int x :: st) ce sl := fun H locs ls hF hS hl => lv_if_ge hC.1 hC.2.1 hd ht (fun h => kt (by simpa using h) H locs ls hF hS hl) (fun h => kf (by simpa using h) H locs ls hF hS hl)
theorem k_icmp_gt {X : Kx} {cc : ByteArray} {nL : Nat} {own : String} (hC : Cx X cc nL own) {a : Ax} {s : Sx} {lv : List (Nat × Value)} {st : List Value} {ce sl pc : Nat} {x y : Int32} {off : Int} (tgt : Nat) (hd : decode cc pc = .ok (.if_icmp .gt off, 3)) (ht : (pc : Int) + off = (tgt : Int)) (kt : y < x → wk X a s nL tgt lv st ce sl) (kf : ¬ (y < x) → wk X a s nL (pc + 3) lv st ce sl) : wk X a s nL pc lv (.int y :: .int x :: st) ce sl := fun H locs ls hF hS hl => lv_icmp_gt hC.1 hC.2.1 hd ht (fun h => kt (by simpa using h) H locs ls hF hS hl) (fun h => kf (by simpa using h) H locs ls hF hS hl)
theorem k_if_gt {X : Kx} {cc : ByteArray} {nL : Nat} {own : String} (hC : Cx X cc nL own) {a : Ax} {s : Sx} {lv : List (Nat × Value)} {st : List Value} {ce sl pc : Nat} {x : Int32} {off : Int} (tgt : Nat) (hd : decode cc pc = .ok (.ifCond .gt off, 3)) (ht : (pc : Int) + off = (tgt : Int)) (kt : 0 < x → wk X a s nL tgt lv st ce sl) (kf : ¬ (0 < x) → wk X a s nL (pc + 3) lv st ce sl) : wk X a s nL pc lv (.int x :: st) ce sl := fun H locs ls hF hS hl => lv_if_gt hC.1 hC.2.1 hd ht (fun h => kt (by simpa using h) H locs ls hF hS hl) (fun h => kf (by simpa using h) H locs ls hF hS hl)
theorem k_icmp_le {X : Kx} {cc : ByteArray} {nL : Nat} {own : String} (hC : Cx X cc nL own) {a : Ax} {s : Sx} {lv : List (Nat × Value)} {st : List Value} {ce sl pc : Nat} {x y : Int32} {off : Int} (tgt : Nat) (hd : decode cc pc = .ok (.if_icmp .le off, 3)) (ht : (pc : Int) + off = (tgt : Int)) (kt : x ≤ y → wk X a s nL tgt lv st ce sl) (kf : ¬ (x ≤ y) → wk X a s nL (pc + 3) lv st ce sl) : wk X a s nL pc lv (.int y :: .int x :: st) ce sl := fun H locs ls hF hS hl => lv_icmp_le hC.1 hC.2.1 hd ht (fun h => kt (by simpa using h) H locs ls hF hS hl) (fun h => kf (by simpa using h) H locs ls hF hS hl)
theorem k_if_le {X : Kx} {cc : ByteArray} {nL : Nat} {own : String} (hC : Cx X cc nL own) {a : Ax} {s : Sx} {lv : List (Nat × Value)} {st : List Value} {ce sl pc : Nat} {x : Int32} {off : Int} (tgt : Nat) (hd : decode cc pc = .ok (.ifCond .le off, 3)) (ht : (pc : Int) + off = (tgt : Int)) (kt : x ≤ 0 → wk X a s nL tgt lv st ce sl) (kf : ¬ (x ≤ 0) → wk X a s nL (pc + 3) lv st ce sl) : wk X a s nL pc lv (.int x :: st) ce sl := fun H locs ls hF hS hl => lv_if_le hC.1 hC.2.1 hd ht (fun h => kt (by simpa using h) H locs ls hF hS hl) (fun h => kf (by simpa using h) H locs ls hF hS hl)
theorem k_goto {X : Kx} {cc : ByteArray} {nL : Nat} {own : String} (hC : Cx X cc nL own) {a : Ax} {s : Sx} {lv : List (Nat × Value)} {st : List Value} {ce sl pc : Nat} {off : Int} (tgt : Nat) (hd : decode cc pc = .ok (.goto off, 3)) (ht : (pc : Int) + off = (tgt : Int)) (k : wk X a s nL tgt lv st ce sl) : wk X a s nL pc lv st ce sl := fun H locs ls hF hS hl => lv_goto hC.1 hC.2.1 hd ht (k H locs ls hF hS hl)
theorem k_ifnull {X : Kx} {cc : ByteArray} {nL : Nat} {own : String} (hC : Cx X cc nL own) {a : Ax} {s : Sx} {lv : List (Nat × Value)} {st : List Value} {ce sl pc : Nat} {x : Nat} {off : Int} (hd : decode cc pc = .ok (.ifnull off, 3)) (k : wk X a s nL (pc + 3) lv st ce sl) : wk X a s nL pc lv (.ref x :: st) ce sl := fun H locs ls hF hS hl => lv_ifnull hC.1 hC.2.1 hd (k H locs ls hF hS hl)
theorem k_ifnonnull {X : Kx} {cc : ByteArray} {nL : Nat} {own : String} (hC : Cx X cc nL own) {a : Ax} {s : Sx} {lv : List (Nat × Value)} {st : List Value} {ce sl pc : Nat} {x : Nat} {off : Int} (tgt : Nat) (hd : decode cc pc = .ok (.ifnonnull off, 3)) (ht : (pc : Int) + off = (tgt : Int)) (k : wk X a s nL tgt lv st ce sl) : wk X a s nL pc lv (.ref x :: st) ce sl := fun H locs ls hF hS hl => lv_ifnonnull hC.1 hC.2.1 hd ht (k H locs ls hF hS hl)
theorem k_ifnullN {X : Kx} {cc : ByteArray} {nL : Nat} {own : String} (hC : Cx X cc nL own) {a : Ax} {s : Sx} {lv : List (Nat × Value)} {st : List Value} {ce sl pc : Nat} {off : Int} (tgt : Nat) (hd : decode cc pc = .ok (.ifnull off, 3)) (ht : (pc : Int) + off = (tgt : Int)) (k : wk X a s nL tgt lv st ce sl) : wk X a s nL pc lv (.null :: st) ce sl := fun H locs ls hF hS hl => lv_ifnullN hC.1 hC.2.1 hd ht (k H locs ls hF hS hl)
theorem k_ifnonnullN {X : Kx} {cc : ByteArray} {nL : Nat} {own : String} (hC : Cx X cc nL own) {a : Ax} {s : Sx} {lv : List (Nat × Value)} {st : List Value} {ce sl pc : Nat} {off : Int} (hd : decode cc pc = .ok (.ifnonnull off, 3)) (k : wk X a s nL (pc + 3) lv st ce sl) : wk X a s nL pc lv (.null :: st) ce sl := fun H locs ls hF hS hl => lv_ifnonnullN hC.1 hC.2.1 hd (k H locs ls hF hS hl)
theorem k_tsIn {X : Kx} {cc : ByteArray} {nL : Nat} {own : String} (hC : Cx X cc nL own) {a : Ax} {s : Sx} {lv : List (Nat × Value)} {st : List Value} {ce sl pc : Nat} {dflt lo hi : Int} {offs : Array Int} {len : Nat} {x : Int32} {off : Int} (tgt : Nat) (hd : decode cc pc = .ok (.tableswitch dflt lo hi offs, len)) (h1 : ¬ x.toInt < lo) (h2 : ¬ hi < x.toInt) (ho : offs[(x.toInt - lo).toNat]? = some off) (ht : (pc : Int) + off = (tgt : Int)) (k : wk X a s nL tgt lv st ce sl) : wk X a s nL pc lv (.int x :: st) ce sl := fun H locs ls hF hS hl => lv_tableIn hC.1 hC.2.1 hd h1 h2 ho ht (k H locs ls hF hS hl)
theorem k_tsOut {X : Kx} {cc : ByteArray} {nL : Nat} {own : String} (hC : Cx X cc nL own) {a : Ax} {s : Sx} {lv : List (Nat × Value)} {st : List Value} {ce sl pc : Nat} {dflt lo hi : Int} {offs : Array Int} {len : Nat} {x : Int32} (tgt : Nat) (hd : decode cc pc = .ok (.tableswitch dflt lo hi offs, len)) (h : x.toInt < lo ∨ hi < x.toInt) (ht : (pc : Int) + dflt = (tgt : Int)) (k : wk X a s nL tgt lv st ce sl) : wk X a s nL pc lv (.int x :: st) ce sl := fun H locs ls hF hS hl => lv_tableOut hC.1 hC.2.1 hd h ht (k H locs ls hF hS hl)
theorem k_ls {X : Kx} {cc : ByteArray} {nL : Nat} {own : String} (hC : Cx X cc nL own) {a : Ax} {s : Sx} {lv : List (Nat × Value)} {st : List Value} {ce sl pc : Nat} {dflt : Int} {ps : Array (Int × Int)} {len : Nat} {x : Int32} {off : Int} (tgt : Nat) (hd : decode cc pc = .ok (.lookupswitch dflt ps, len)) (hp : (ps.toList.zip (ps.toList.drop 1)).all (fun (a, next) => a.1 < next.1) = true) (ho : Op.lookupswitch.offset ps.toList dflt x.toInt = off) (ht : (pc : Int) + off = (tgt : Int)) (k : wk X a s nL tgt lv st ce sl) : wk X a s nL pc lv (.int x :: st) ce sl := fun H locs ls hF hS hl => lv_lookup hC.1 hC.2.1 hd hp ho ht (k H locs ls hF hS hl)
theorem k_sub {X : Kx} {a : Ax} {s : Sx} {nL : Nat} {lv : List (Nat × Value)} {st : List Value} {ce sl pc : Nat} (lv' : List (Nat × Value)) (ks : List Nat) (h : lv_pick lv ks = lv') (k : wk X a s nL pc lv' st ce sl) : wk X a s nL pc lv st ce sl := fun H locs ls hF hS hl => k H locs ls hF hS (lv_sub hl ks h)
theorem k_widen {X : Kx} {a : Ax} {s : Sx} {nL : Nat} {lv : List (Nat × Value)} {st : List Value} {ce sl pc : Nat} (ce' sl' : Nat) (h1 : ce ≤ ce') (h2 : sl ≤ sl') (k : wk X a s nL pc lv st ce' sl') : wk X a s nL pc lv st ce sl := fun H locs ls hF hS hl => W.widen h1 h2 (k H locs ls hF hS hl)
end
