section
-- ===== PART A: goes FIRST, ahead of the names: the tables' words, and 'selects' of the private methods out of them =====
/-- a private method of a class that the tables say can be made, by its rows of tables_1 -/
def lw_okq (q : MethodName × Nat) : Prop := (q.1.cls ≠ "java/lang/invoke/MethodHandle" ∧ q.1.cls ≠ "java/lang/invoke/VarHandle") ∧ Cond.instantiable q.1.cls q.2 ∈ tables_1 ∧ Cond.privateMethod q.1 ∈ tables_1 ∧ Cond.instanceMethod q.1 ∈ tables_1
theorem lw_p0 : lw_okq (⟨"RecyclingLine", "appendBytes", "(I)V"⟩, 7) := ⟨⟨by decide +kernel, by decide +kernel⟩, List.mem_of_getElem? (i := 27) (by decide +kernel), List.mem_of_getElem? (i := 420) (by decide +kernel), List.mem_of_getElem? (i := 421) (by decide +kernel)⟩
theorem lw_p1 : lw_okq (⟨"RecyclingLine", "spareLine", "()LRecyclingLine$Line;"⟩, 7) := ⟨⟨by decide +kernel, by decide +kernel⟩, List.mem_of_getElem? (i := 27) (by decide +kernel), List.mem_of_getElem? (i := 436) (by decide +kernel), List.mem_of_getElem? (i := 437) (by decide +kernel)⟩
theorem lw_p2 : lw_okq (⟨"RecyclingLine$TextReader", "nextToken", "()V"⟩, 8) := ⟨⟨by decide +kernel, by decide +kernel⟩, List.mem_of_getElem? (i := 440) (by decide +kernel), List.mem_of_getElem? (i := 486) (by decide +kernel), List.mem_of_getElem? (i := 487) (by decide +kernel)⟩
theorem lw_p3 : lw_okq (⟨"RecyclingLine$TextReader", "isWord", "(Ljava/lang/String;)Z"⟩, 8) := ⟨⟨by decide +kernel, by decide +kernel⟩, List.mem_of_getElem? (i := 440) (by decide +kernel), List.mem_of_getElem? (i := 500) (by decide +kernel), List.mem_of_getElem? (i := 501) (by decide +kernel)⟩
theorem lw_p4 : lw_okq (⟨"RecyclingLine$TextReader", "readNumber", "(II)I"⟩, 8) := ⟨⟨by decide +kernel, by decide +kernel⟩, List.mem_of_getElem? (i := 440) (by decide +kernel), List.mem_of_getElem? (i := 552) (by decide +kernel), List.mem_of_getElem? (i := 553) (by decide +kernel)⟩
theorem lw_p5 : lw_okq (⟨"RecyclingLine$TextReader", "fail", "(I)V"⟩, 8) := ⟨⟨by decide +kernel, by decide +kernel⟩, List.mem_of_getElem? (i := 440) (by decide +kernel), List.mem_of_getElem? (i := 556) (by decide +kernel), List.mem_of_getElem? (i := 557) (by decide +kernel)⟩
theorem lw_p6 : lw_okq (⟨"RecyclingLine$TextReader", "readSemicolon", "()V"⟩, 8) := ⟨⟨by decide +kernel, by decide +kernel⟩, List.mem_of_getElem? (i := 440) (by decide +kernel), List.mem_of_getElem? (i := 560) (by decide +kernel), List.mem_of_getElem? (i := 561) (by decide +kernel)⟩
theorem lw_p7 : lw_okq (⟨"RecyclingLine$TextReader", "readStatement", "()V"⟩, 8) := ⟨⟨by decide +kernel, by decide +kernel⟩, List.mem_of_getElem? (i := 440) (by decide +kernel), List.mem_of_getElem? (i := 564) (by decide +kernel), List.mem_of_getElem? (i := 565) (by decide +kernel)⟩
theorem lw_p8 : lw_okq (⟨"RecyclingLine$TextReader", "readStation", "()V"⟩, 8) := ⟨⟨by decide +kernel, by decide +kernel⟩, List.mem_of_getElem? (i := 440) (by decide +kernel), List.mem_of_getElem? (i := 569) (by decide +kernel), List.mem_of_getElem? (i := 570) (by decide +kernel)⟩
theorem lw_p9 : lw_okq (⟨"RecyclingLine$TextReader", "readSetting", "()V"⟩, 8) := ⟨⟨by decide +kernel, by decide +kernel⟩, List.mem_of_getElem? (i := 440) (by decide +kernel), List.mem_of_getElem? (i := 575) (by decide +kernel), List.mem_of_getElem? (i := 576) (by decide +kernel)⟩
theorem lw_p10 : lw_okq (⟨"RecyclingLine$TextReader", "readLoad", "()V"⟩, 8) := ⟨⟨by decide +kernel, by decide +kernel⟩, List.mem_of_getElem? (i := 440) (by decide +kernel), List.mem_of_getElem? (i := 584) (by decide +kernel), List.mem_of_getElem? (i := 585) (by decide +kernel)⟩
theorem lw_p11 : lw_okq (⟨"RecyclingLine$TextReader", "readBuyer", "()V"⟩, 8) := ⟨⟨by decide +kernel, by decide +kernel⟩, List.mem_of_getElem? (i := 440) (by decide +kernel), List.mem_of_getElem? (i := 606) (by decide +kernel), List.mem_of_getElem? (i := 607) (by decide +kernel)⟩
theorem lw_p12 : lw_okq (⟨"RecyclingLine$TextReader", "readName", "()I"⟩, 8) := ⟨⟨by decide +kernel, by decide +kernel⟩, List.mem_of_getElem? (i := 440) (by decide +kernel), List.mem_of_getElem? (i := 610) (by decide +kernel), List.mem_of_getElem? (i := 611) (by decide +kernel)⟩
theorem lw_p13 : lw_okq (⟨"RecyclingLine$TextReader", "isKeyword", "()Z"⟩, 8) := ⟨⟨by decide +kernel, by decide +kernel⟩, List.mem_of_getElem? (i := 440) (by decide +kernel), List.mem_of_getElem? (i := 614) (by decide +kernel), List.mem_of_getElem? (i := 615) (by decide +kernel)⟩
theorem lw_p14 : lw_okq (⟨"RecyclingLine", "copyOfLine", "()LRecyclingLine$Line;"⟩, 7) := ⟨⟨by decide +kernel, by decide +kernel⟩, List.mem_of_getElem? (i := 27) (by decide +kernel), List.mem_of_getElem? (i := 676) (by decide +kernel), List.mem_of_getElem? (i := 677) (by decide +kernel)⟩
theorem lw_p15 : lw_okq (⟨"RecyclingLine$Line", "leaveBelt", "()V"⟩, 12) := ⟨⟨by decide +kernel, by decide +kernel⟩, List.mem_of_getElem? (i := 35) (by decide +kernel), List.mem_of_getElem? (i := 726) (by decide +kernel), List.mem_of_getElem? (i := 727) (by decide +kernel)⟩
def lw_privs_1 : List (MethodName × Nat) := [(⟨"RecyclingLine", "appendBytes", "(I)V"⟩, 7), (⟨"RecyclingLine", "spareLine", "()LRecyclingLine$Line;"⟩, 7), (⟨"RecyclingLine$TextReader", "nextToken", "()V"⟩, 8), (⟨"RecyclingLine$TextReader", "isWord", "(Ljava/lang/String;)Z"⟩, 8), (⟨"RecyclingLine$TextReader", "readNumber", "(II)I"⟩, 8), (⟨"RecyclingLine$TextReader", "fail", "(I)V"⟩, 8), (⟨"RecyclingLine$TextReader", "readSemicolon", "()V"⟩, 8), (⟨"RecyclingLine$TextReader", "readStatement", "()V"⟩, 8), (⟨"RecyclingLine$TextReader", "readStation", "()V"⟩, 8), (⟨"RecyclingLine$TextReader", "readSetting", "()V"⟩, 8), (⟨"RecyclingLine$TextReader", "readLoad", "()V"⟩, 8), (⟨"RecyclingLine$TextReader", "readBuyer", "()V"⟩, 8), (⟨"RecyclingLine$TextReader", "readName", "()I"⟩, 8), (⟨"RecyclingLine$TextReader", "isKeyword", "()Z"⟩, 8), (⟨"RecyclingLine", "copyOfLine", "()LRecyclingLine$Line;"⟩, 7), (⟨"RecyclingLine$Line", "leaveBelt", "()V"⟩, 12)]
theorem lw_r1 : ∀ q ∈ lw_privs_1, lw_okq q := List.forall_mem_cons.mpr ⟨lw_p0, List.forall_mem_cons.mpr ⟨lw_p1, List.forall_mem_cons.mpr ⟨lw_p2, List.forall_mem_cons.mpr ⟨lw_p3, List.forall_mem_cons.mpr ⟨lw_p4, List.forall_mem_cons.mpr ⟨lw_p5, List.forall_mem_cons.mpr ⟨lw_p6, List.forall_mem_cons.mpr ⟨lw_p7, List.forall_mem_cons.mpr ⟨lw_p8, List.forall_mem_cons.mpr ⟨lw_p9, List.forall_mem_cons.mpr ⟨lw_p10, List.forall_mem_cons.mpr ⟨lw_p11, List.forall_mem_cons.mpr ⟨lw_p12, List.forall_mem_cons.mpr ⟨lw_p13, List.forall_mem_cons.mpr ⟨lw_p14, List.forall_mem_cons.mpr ⟨lw_p15, fun _ h => absurd h List.not_mem_nil⟩⟩⟩⟩⟩⟩⟩⟩⟩⟩⟩⟩⟩⟩⟩⟩
theorem lw_p16 : lw_okq (⟨"RecyclingLine$Line", "goesRound", "(LRecyclingLine$Parcel;)Z"⟩, 12) := ⟨⟨by decide +kernel, by decide +kernel⟩, List.mem_of_getElem? (i := 35) (by decide +kernel), List.mem_of_getElem? (i := 734) (by decide +kernel), List.mem_of_getElem? (i := 735) (by decide +kernel)⟩
theorem lw_p17 : lw_okq (⟨"RecyclingLine$Line", "isTarget", "(I)Z"⟩, 12) := ⟨⟨by decide +kernel, by decide +kernel⟩, List.mem_of_getElem? (i := 35) (by decide +kernel), List.mem_of_getElem? (i := 739) (by decide +kernel), List.mem_of_getElem? (i := 740) (by decide +kernel)⟩
theorem lw_p18 : lw_okq (⟨"RecyclingLine$Line", "moveBelt", "()V"⟩, 12) := ⟨⟨by decide +kernel, by decide +kernel⟩, List.mem_of_getElem? (i := 35) (by decide +kernel), List.mem_of_getElem? (i := 752) (by decide +kernel), List.mem_of_getElem? (i := 753) (by decide +kernel)⟩
theorem lw_p19 : lw_okq (⟨"RecyclingLine$Line", "feedBelt", "()V"⟩, 12) := ⟨⟨by decide +kernel, by decide +kernel⟩, List.mem_of_getElem? (i := 35) (by decide +kernel), List.mem_of_getElem? (i := 756) (by decide +kernel), List.mem_of_getElem? (i := 757) (by decide +kernel)⟩
theorem lw_p20 : lw_okq (⟨"RecyclingLine$Line", "pressBales", "(LRecyclingLine$Station;)V"⟩, 12) := ⟨⟨by decide +kernel, by decide +kernel⟩, List.mem_of_getElem? (i := 35) (by decide +kernel), List.mem_of_getElem? (i := 799) (by decide +kernel), List.mem_of_getElem? (i := 800) (by decide +kernel)⟩
theorem lw_p21 : lw_okq (⟨"RecyclingLine$Line", "pressBale", "(LRecyclingLine$Station;)V"⟩, 12) := ⟨⟨by decide +kernel, by decide +kernel⟩, List.mem_of_getElem? (i := 35) (by decide +kernel), List.mem_of_getElem? (i := 803) (by decide +kernel), List.mem_of_getElem? (i := 804) (by decide +kernel)⟩
theorem lw_p22 : lw_okq (⟨"java/lang/Throwable", "fillInStackTrace", "(I)Ljava/lang/Throwable;"⟩, 6) := ⟨⟨by decide +kernel, by decide +kernel⟩, List.mem_of_getElem? (i := 864) (by decide +kernel), List.mem_of_getElem? (i := 862) (by decide +kernel), List.mem_of_getElem? (i := 863) (by decide +kernel)⟩
theorem lw_p23 : lw_okq (⟨"RecyclingLine", "remember", "()V"⟩, 7) := ⟨⟨by decide +kernel, by decide +kernel⟩, List.mem_of_getElem? (i := 27) (by decide +kernel), List.mem_of_getElem? (i := 998) (by decide +kernel), List.mem_of_getElem? (i := 999) (by decide +kernel)⟩
theorem lw_p24 : lw_okq (⟨"RecyclingLine$Buyer", "worthOf", "(I)I"⟩, 7) := ⟨⟨by decide +kernel, by decide +kernel⟩, List.mem_of_getElem? (i := 280) (by decide +kernel), List.mem_of_getElem? (i := 1067) (by decide +kernel), List.mem_of_getElem? (i := 1068) (by decide +kernel)⟩
theorem lw_p25 : lw_okq (⟨"RecyclingLine", "pickedWith", "(III)I"⟩, 7) := ⟨⟨by decide +kernel, by decide +kernel⟩, List.mem_of_getElem? (i := 27) (by decide +kernel), List.mem_of_getElem? (i := 1113) (by decide +kernel), List.mem_of_getElem? (i := 1114) (by decide +kernel)⟩
theorem lw_p26 : lw_okq (⟨"RecyclingLineModel", "lays", "()V"⟩, 23) := ⟨⟨by decide +kernel, by decide +kernel⟩, List.mem_of_getElem? (i := 1121) (by decide +kernel), List.mem_of_getElem? (i := 1127) (by decide +kernel), List.mem_of_getElem? (i := 1128) (by decide +kernel)⟩
theorem lw_p27 : lw_okq (⟨"RecyclingLineModel", "becomes", "()V"⟩, 23) := ⟨⟨by decide +kernel, by decide +kernel⟩, List.mem_of_getElem? (i := 1121) (by decide +kernel), List.mem_of_getElem? (i := 1131) (by decide +kernel), List.mem_of_getElem? (i := 1132) (by decide +kernel)⟩
theorem lw_p28 : lw_okq (⟨"RecyclingLineModel", "adds", "(I)V"⟩, 23) := ⟨⟨by decide +kernel, by decide +kernel⟩, List.mem_of_getElem? (i := 1121) (by decide +kernel), List.mem_of_getElem? (i := 1214) (by decide +kernel), List.mem_of_getElem? (i := 1215) (by decide +kernel)⟩
theorem lw_p29 : lw_okq (⟨"RecyclingLineModel", "readsAll", "()Z"⟩, 23) := ⟨⟨by decide +kernel, by decide +kernel⟩, List.mem_of_getElem? (i := 1121) (by decide +kernel), List.mem_of_getElem? (i := 1233) (by decide +kernel), List.mem_of_getElem? (i := 1234) (by decide +kernel)⟩
theorem lw_p30 : lw_okq (⟨"RecyclingLineModel", "go", "()V"⟩, 23) := ⟨⟨by decide +kernel, by decide +kernel⟩, List.mem_of_getElem? (i := 1121) (by decide +kernel), List.mem_of_getElem? (i := 1237) (by decide +kernel), List.mem_of_getElem? (i := 1238) (by decide +kernel)⟩
theorem lw_p31 : lw_okq (⟨"RecyclingLineModel", "byteAt", "(I)I"⟩, 23) := ⟨⟨by decide +kernel, by decide +kernel⟩, List.mem_of_getElem? (i := 1121) (by decide +kernel), List.mem_of_getElem? (i := 1241) (by decide +kernel), List.mem_of_getElem? (i := 1242) (by decide +kernel)⟩
def lw_privs_2 : List (MethodName × Nat) := [(⟨"RecyclingLine$Line", "goesRound", "(LRecyclingLine$Parcel;)Z"⟩, 12), (⟨"RecyclingLine$Line", "isTarget", "(I)Z"⟩, 12), (⟨"RecyclingLine$Line", "moveBelt", "()V"⟩, 12), (⟨"RecyclingLine$Line", "feedBelt", "()V"⟩, 12), (⟨"RecyclingLine$Line", "pressBales", "(LRecyclingLine$Station;)V"⟩, 12), (⟨"RecyclingLine$Line", "pressBale", "(LRecyclingLine$Station;)V"⟩, 12), (⟨"java/lang/Throwable", "fillInStackTrace", "(I)Ljava/lang/Throwable;"⟩, 6), (⟨"RecyclingLine", "remember", "()V"⟩, 7), (⟨"RecyclingLine$Buyer", "worthOf", "(I)I"⟩, 7), (⟨"RecyclingLine", "pickedWith", "(III)I"⟩, 7), (⟨"RecyclingLineModel", "lays", "()V"⟩, 23), (⟨"RecyclingLineModel", "becomes", "()V"⟩, 23), (⟨"RecyclingLineModel", "adds", "(I)V"⟩, 23), (⟨"RecyclingLineModel", "readsAll", "()Z"⟩, 23), (⟨"RecyclingLineModel", "go", "()V"⟩, 23), (⟨"RecyclingLineModel", "byteAt", "(I)I"⟩, 23)]
theorem lw_r2 : ∀ q ∈ lw_privs_2, lw_okq q := List.forall_mem_cons.mpr ⟨lw_p16, List.forall_mem_cons.mpr ⟨lw_p17, List.forall_mem_cons.mpr ⟨lw_p18, List.forall_mem_cons.mpr ⟨lw_p19, List.forall_mem_cons.mpr ⟨lw_p20, List.forall_mem_cons.mpr ⟨lw_p21, List.forall_mem_cons.mpr ⟨lw_p22, List.forall_mem_cons.mpr ⟨lw_p23, List.forall_mem_cons.mpr ⟨lw_p24, List.forall_mem_cons.mpr ⟨lw_p25, List.forall_mem_cons.mpr ⟨lw_p26, List.forall_mem_cons.mpr ⟨lw_p27, List.forall_mem_cons.mpr ⟨lw_p28, List.forall_mem_cons.mpr ⟨lw_p29, List.forall_mem_cons.mpr ⟨lw_p30, List.forall_mem_cons.mpr ⟨lw_p31, fun _ h => absurd h List.not_mem_nil⟩⟩⟩⟩⟩⟩⟩⟩⟩⟩⟩⟩⟩⟩⟩⟩
theorem lw_p32 : lw_okq (⟨"RecyclingLineModel", "isWord", "(Ljava/lang/String;)Z"⟩, 23) := ⟨⟨by decide +kernel, by decide +kernel⟩, List.mem_of_getElem? (i := 1121) (by decide +kernel), List.mem_of_getElem? (i := 1252) (by decide +kernel), List.mem_of_getElem? (i := 1253) (by decide +kernel)⟩
theorem lw_p33 : lw_okq (⟨"RecyclingLineModel", "bad", "(I)Z"⟩, 23) := ⟨⟨by decide +kernel, by decide +kernel⟩, List.mem_of_getElem? (i := 1121) (by decide +kernel), List.mem_of_getElem? (i := 1258) (by decide +kernel), List.mem_of_getElem? (i := 1259) (by decide +kernel)⟩
theorem lw_p34 : lw_okq (⟨"RecyclingLineModel", "reads", "([IIII)Z"⟩, 23) := ⟨⟨by decide +kernel, by decide +kernel⟩, List.mem_of_getElem? (i := 1121) (by decide +kernel), List.mem_of_getElem? (i := 1262) (by decide +kernel), List.mem_of_getElem? (i := 1263) (by decide +kernel)⟩
theorem lw_p35 : lw_okq (⟨"RecyclingLineModel", "ends", "()Z"⟩, 23) := ⟨⟨by decide +kernel, by decide +kernel⟩, List.mem_of_getElem? (i := 1121) (by decide +kernel), List.mem_of_getElem? (i := 1266) (by decide +kernel), List.mem_of_getElem? (i := 1267) (by decide +kernel)⟩
theorem lw_p36 : lw_okq (⟨"RecyclingLineModel", "readsStation", "()Z"⟩, 23) := ⟨⟨by decide +kernel, by decide +kernel⟩, List.mem_of_getElem? (i := 1121) (by decide +kernel), List.mem_of_getElem? (i := 1271) (by decide +kernel), List.mem_of_getElem? (i := 1272) (by decide +kernel)⟩
theorem lw_p37 : lw_okq (⟨"RecyclingLineModel", "readsSetting", "()Z"⟩, 23) := ⟨⟨by decide +kernel, by decide +kernel⟩, List.mem_of_getElem? (i := 1121) (by decide +kernel), List.mem_of_getElem? (i := 1279) (by decide +kernel), List.mem_of_getElem? (i := 1280) (by decide +kernel)⟩
theorem lw_p38 : lw_okq (⟨"RecyclingLineModel", "readsLoad", "()Z"⟩, 23) := ⟨⟨by decide +kernel, by decide +kernel⟩, List.mem_of_getElem? (i := 1121) (by decide +kernel), List.mem_of_getElem? (i := 1284) (by decide +kernel), List.mem_of_getElem? (i := 1285) (by decide +kernel)⟩
theorem lw_p39 : lw_okq (⟨"RecyclingLineModel", "readsBuyer", "()Z"⟩, 23) := ⟨⟨by decide +kernel, by decide +kernel⟩, List.mem_of_getElem? (i := 1121) (by decide +kernel), List.mem_of_getElem? (i := 1295) (by decide +kernel), List.mem_of_getElem? (i := 1296) (by decide +kernel)⟩
theorem lw_p40 : lw_okq (⟨"RecyclingLineModel", "isName", "()Z"⟩, 23) := ⟨⟨by decide +kernel, by decide +kernel⟩, List.mem_of_getElem? (i := 1121) (by decide +kernel), List.mem_of_getElem? (i := 1299) (by decide +kernel), List.mem_of_getElem? (i := 1300) (by decide +kernel)⟩
theorem lw_p41 : lw_okq (⟨"RecyclingLineModel", "letters", "(II)J"⟩, 23) := ⟨⟨by decide +kernel, by decide +kernel⟩, List.mem_of_getElem? (i := 1121) (by decide +kernel), List.mem_of_getElem? (i := 1303) (by decide +kernel), List.mem_of_getElem? (i := 1304) (by decide +kernel)⟩
theorem lw_p42 : lw_okq (⟨"RecyclingLineModel", "stations", "()I"⟩, 23) := ⟨⟨by decide +kernel, by decide +kernel⟩, List.mem_of_getElem? (i := 1121) (by decide +kernel), List.mem_of_getElem? (i := 1312) (by decide +kernel), List.mem_of_getElem? (i := 1313) (by decide +kernel)⟩
theorem lw_p43 : lw_okq (⟨"RecyclingLineModel", "materials", "()I"⟩, 23) := ⟨⟨by decide +kernel, by decide +kernel⟩, List.mem_of_getElem? (i := 1121) (by decide +kernel), List.mem_of_getElem? (i := 1325) (by decide +kernel), List.mem_of_getElem? (i := 1326) (by decide +kernel)⟩
theorem lw_p44 : lw_okq (⟨"RecyclingLineModel", "onBelt", "()I"⟩, 23) := ⟨⟨by decide +kernel, by decide +kernel⟩, List.mem_of_getElem? (i := 1121) (by decide +kernel), List.mem_of_getElem? (i := 1329) (by decide +kernel), List.mem_of_getElem? (i := 1330) (by decide +kernel)⟩
theorem lw_p45 : lw_okq (⟨"RecyclingLineModel", "fails", "(ZZZ)Z"⟩, 23) := ⟨⟨by decide +kernel, by decide +kernel⟩, List.mem_of_getElem? (i := 1121) (by decide +kernel), List.mem_of_getElem? (i := 1341) (by decide +kernel), List.mem_of_getElem? (i := 1342) (by decide +kernel)⟩
theorem lw_p46 : lw_okq (⟨"RecyclingLineModel", "isStation", "(I)Z"⟩, 23) := ⟨⟨by decide +kernel, by decide +kernel⟩, List.mem_of_getElem? (i := 1121) (by decide +kernel), List.mem_of_getElem? (i := 1349) (by decide +kernel), List.mem_of_getElem? (i := 1350) (by decide +kernel)⟩
theorem lw_p47 : lw_okq (⟨"RecyclingLineModel", "targetOf", "(I)I"⟩, 23) := ⟨⟨by decide +kernel, by decide +kernel⟩, List.mem_of_getElem? (i := 1121) (by decide +kernel), List.mem_of_getElem? (i := 1354) (by decide +kernel), List.mem_of_getElem? (i := 1355) (by decide +kernel)⟩
def lw_privs_3 : List (MethodName × Nat) := [(⟨"RecyclingLineModel", "isWord", "(Ljava/lang/String;)Z"⟩, 23), (⟨"RecyclingLineModel", "bad", "(I)Z"⟩, 23), (⟨"RecyclingLineModel", "reads", "([IIII)Z"⟩, 23), (⟨"RecyclingLineModel", "ends", "()Z"⟩, 23), (⟨"RecyclingLineModel", "readsStation", "()Z"⟩, 23), (⟨"RecyclingLineModel", "readsSetting", "()Z"⟩, 23), (⟨"RecyclingLineModel", "readsLoad", "()Z"⟩, 23), (⟨"RecyclingLineModel", "readsBuyer", "()Z"⟩, 23), (⟨"RecyclingLineModel", "isName", "()Z"⟩, 23), (⟨"RecyclingLineModel", "letters", "(II)J"⟩, 23), (⟨"RecyclingLineModel", "stations", "()I"⟩, 23), (⟨"RecyclingLineModel", "materials", "()I"⟩, 23), (⟨"RecyclingLineModel", "onBelt", "()I"⟩, 23), (⟨"RecyclingLineModel", "fails", "(ZZZ)Z"⟩, 23), (⟨"RecyclingLineModel", "isStation", "(I)Z"⟩, 23), (⟨"RecyclingLineModel", "targetOf", "(I)I"⟩, 23)]
theorem lw_r3 : ∀ q ∈ lw_privs_3, lw_okq q := List.forall_mem_cons.mpr ⟨lw_p32, List.forall_mem_cons.mpr ⟨lw_p33, List.forall_mem_cons.mpr ⟨lw_p34, List.forall_mem_cons.mpr ⟨lw_p35, List.forall_mem_cons.mpr ⟨lw_p36, List.forall_mem_cons.mpr ⟨lw_p37, List.forall_mem_cons.mpr ⟨lw_p38, List.forall_mem_cons.mpr ⟨lw_p39, List.forall_mem_cons.mpr ⟨lw_p40, List.forall_mem_cons.mpr ⟨lw_p41, List.forall_mem_cons.mpr ⟨lw_p42, List.forall_mem_cons.mpr ⟨lw_p43, List.forall_mem_cons.mpr ⟨lw_p44, List.forall_mem_cons.mpr ⟨lw_p45, List.forall_mem_cons.mpr ⟨lw_p46, List.forall_mem_cons.mpr ⟨lw_p47, fun _ h => absurd h List.not_mem_nil⟩⟩⟩⟩⟩⟩⟩⟩⟩⟩⟩⟩⟩⟩⟩⟩
theorem lw_p48 : lw_okq (⟨"RecyclingLineModel", "capacity", "(I)I"⟩, 23) := ⟨⟨by decide +kernel, by decide +kernel⟩, List.mem_of_getElem? (i := 1121) (by decide +kernel), List.mem_of_getElem? (i := 1358) (by decide +kernel), List.mem_of_getElem? (i := 1359) (by decide +kernel)⟩
theorem lw_p49 : lw_okq (⟨"RecyclingLineModel", "total", "(I)I"⟩, 23) := ⟨⟨by decide +kernel, by decide +kernel⟩, List.mem_of_getElem? (i := 1121) (by decide +kernel), List.mem_of_getElem? (i := 1362) (by decide +kernel), List.mem_of_getElem? (i := 1363) (by decide +kernel)⟩
theorem lw_p50 : lw_okq (⟨"RecyclingLineModel", "hasParcel", "(I)Z"⟩, 23) := ⟨⟨by decide +kernel, by decide +kernel⟩, List.mem_of_getElem? (i := 1121) (by decide +kernel), List.mem_of_getElem? (i := 1366) (by decide +kernel), List.mem_of_getElem? (i := 1367) (by decide +kernel)⟩
theorem lw_p51 : lw_okq (⟨"RecyclingLineModel", "isMaterial", "(I)Z"⟩, 23) := ⟨⟨by decide +kernel, by decide +kernel⟩, List.mem_of_getElem? (i := 1121) (by decide +kernel), List.mem_of_getElem? (i := 1375) (by decide +kernel), List.mem_of_getElem? (i := 1376) (by decide +kernel)⟩
theorem lw_p52 : lw_okq (⟨"RecyclingLineModel", "isBale", "(I)Z"⟩, 23) := ⟨⟨by decide +kernel, by decide +kernel⟩, List.mem_of_getElem? (i := 1121) (by decide +kernel), List.mem_of_getElem? (i := 1383) (by decide +kernel), List.mem_of_getElem? (i := 1384) (by decide +kernel)⟩
theorem lw_p53 : lw_okq (⟨"RecyclingLineModel", "isBuyer", "(I)Z"⟩, 23) := ⟨⟨by decide +kernel, by decide +kernel⟩, List.mem_of_getElem? (i := 1121) (by decide +kernel), List.mem_of_getElem? (i := 1394) (by decide +kernel), List.mem_of_getElem? (i := 1395) (by decide +kernel)⟩
theorem lw_p54 : lw_okq (⟨"RecyclingLineModel", "remembers", "()V"⟩, 23) := ⟨⟨by decide +kernel, by decide +kernel⟩, List.mem_of_getElem? (i := 1121) (by decide +kernel), List.mem_of_getElem? (i := 1417) (by decide +kernel), List.mem_of_getElem? (i := 1418) (by decide +kernel)⟩
theorem lw_p55 : lw_okq (⟨"RecyclingLineModel", "staffs", "(II)I"⟩, 23) := ⟨⟨by decide +kernel, by decide +kernel⟩, List.mem_of_getElem? (i := 1121) (by decide +kernel), List.mem_of_getElem? (i := 1430) (by decide +kernel), List.mem_of_getElem? (i := 1431) (by decide +kernel)⟩
theorem lw_p56 : lw_okq (⟨"RecyclingLineModel", "ticks", "(I)V"⟩, 23) := ⟨⟨by decide +kernel, by decide +kernel⟩, List.mem_of_getElem? (i := 1121) (by decide +kernel), List.mem_of_getElem? (i := 1439) (by decide +kernel), List.mem_of_getElem? (i := 1440) (by decide +kernel)⟩
theorem lw_p57 : lw_okq (⟨"RecyclingLineModel", "leaves", "()V"⟩, 23) := ⟨⟨by decide +kernel, by decide +kernel⟩, List.mem_of_getElem? (i := 1121) (by decide +kernel), List.mem_of_getElem? (i := 1443) (by decide +kernel), List.mem_of_getElem? (i := 1444) (by decide +kernel)⟩
theorem lw_p58 : lw_okq (⟨"RecyclingLineModel", "isTarget", "(I)Z"⟩, 23) := ⟨⟨by decide +kernel, by decide +kernel⟩, List.mem_of_getElem? (i := 1121) (by decide +kernel), List.mem_of_getElem? (i := 1447) (by decide +kernel), List.mem_of_getElem? (i := 1448) (by decide +kernel)⟩
theorem lw_p59 : lw_okq (⟨"RecyclingLineModel", "waits", "(II)V"⟩, 23) := ⟨⟨by decide +kernel, by decide +kernel⟩, List.mem_of_getElem? (i := 1121) (by decide +kernel), List.mem_of_getElem? (i := 1451) (by decide +kernel), List.mem_of_getElem? (i := 1452) (by decide +kernel)⟩
theorem lw_p60 : lw_okq (⟨"RecyclingLineModel", "joins", "(II)V"⟩, 23) := ⟨⟨by decide +kernel, by decide +kernel⟩, List.mem_of_getElem? (i := 1121) (by decide +kernel), List.mem_of_getElem? (i := 1455) (by decide +kernel), List.mem_of_getElem? (i := 1456) (by decide +kernel)⟩
theorem lw_p61 : lw_okq (⟨"RecyclingLineModel", "moves", "()V"⟩, 23) := ⟨⟨by decide +kernel, by decide +kernel⟩, List.mem_of_getElem? (i := 1121) (by decide +kernel), List.mem_of_getElem? (i := 1459) (by decide +kernel), List.mem_of_getElem? (i := 1460) (by decide +kernel)⟩
theorem lw_p62 : lw_okq (⟨"RecyclingLineModel", "takes", "(II)V"⟩, 23) := ⟨⟨by decide +kernel, by decide +kernel⟩, List.mem_of_getElem? (i := 1121) (by decide +kernel), List.mem_of_getElem? (i := 1463) (by decide +kernel), List.mem_of_getElem? (i := 1464) (by decide +kernel)⟩
theorem lw_p63 : lw_okq (⟨"RecyclingLineModel", "mostOf", "(II)I"⟩, 23) := ⟨⟨by decide +kernel, by decide +kernel⟩, List.mem_of_getElem? (i := 1121) (by decide +kernel), List.mem_of_getElem? (i := 1470) (by decide +kernel), List.mem_of_getElem? (i := 1471) (by decide +kernel)⟩
def lw_privs_4 : List (MethodName × Nat) := [(⟨"RecyclingLineModel", "capacity", "(I)I"⟩, 23), (⟨"RecyclingLineModel", "total", "(I)I"⟩, 23), (⟨"RecyclingLineModel", "hasParcel", "(I)Z"⟩, 23), (⟨"RecyclingLineModel", "isMaterial", "(I)Z"⟩, 23), (⟨"RecyclingLineModel", "isBale", "(I)Z"⟩, 23), (⟨"RecyclingLineModel", "isBuyer", "(I)Z"⟩, 23), (⟨"RecyclingLineModel", "remembers", "()V"⟩, 23), (⟨"RecyclingLineModel", "staffs", "(II)I"⟩, 23), (⟨"RecyclingLineModel", "ticks", "(I)V"⟩, 23), (⟨"RecyclingLineModel", "leaves", "()V"⟩, 23), (⟨"RecyclingLineModel", "isTarget", "(I)Z"⟩, 23), (⟨"RecyclingLineModel", "waits", "(II)V"⟩, 23), (⟨"RecyclingLineModel", "joins", "(II)V"⟩, 23), (⟨"RecyclingLineModel", "moves", "()V"⟩, 23), (⟨"RecyclingLineModel", "takes", "(II)V"⟩, 23), (⟨"RecyclingLineModel", "mostOf", "(II)I"⟩, 23)]
theorem lw_r4 : ∀ q ∈ lw_privs_4, lw_okq q := List.forall_mem_cons.mpr ⟨lw_p48, List.forall_mem_cons.mpr ⟨lw_p49, List.forall_mem_cons.mpr ⟨lw_p50, List.forall_mem_cons.mpr ⟨lw_p51, List.forall_mem_cons.mpr ⟨lw_p52, List.forall_mem_cons.mpr ⟨lw_p53, List.forall_mem_cons.mpr ⟨lw_p54, List.forall_mem_cons.mpr ⟨lw_p55, List.forall_mem_cons.mpr ⟨lw_p56, List.forall_mem_cons.mpr ⟨lw_p57, List.forall_mem_cons.mpr ⟨lw_p58, List.forall_mem_cons.mpr ⟨lw_p59, List.forall_mem_cons.mpr ⟨lw_p60, List.forall_mem_cons.mpr ⟨lw_p61, List.forall_mem_cons.mpr ⟨lw_p62, List.forall_mem_cons.mpr ⟨lw_p63, fun _ h => absurd h List.not_mem_nil⟩⟩⟩⟩⟩⟩⟩⟩⟩⟩⟩⟩⟩⟩⟩⟩
theorem lw_p64 : lw_okq (⟨"RecyclingLineModel", "lays", "(I)V"⟩, 23) := ⟨⟨by decide +kernel, by decide +kernel⟩, List.mem_of_getElem? (i := 1121) (by decide +kernel), List.mem_of_getElem? (i := 1474) (by decide +kernel), List.mem_of_getElem? (i := 1475) (by decide +kernel)⟩
theorem lw_p65 : lw_okq (⟨"RecyclingLineModel", "picks", "(I)V"⟩, 23) := ⟨⟨by decide +kernel, by decide +kernel⟩, List.mem_of_getElem? (i := 1121) (by decide +kernel), List.mem_of_getElem? (i := 1478) (by decide +kernel), List.mem_of_getElem? (i := 1479) (by decide +kernel)⟩
theorem lw_p66 : lw_okq (⟨"RecyclingLineModel", "goes", "(III)V"⟩, 23) := ⟨⟨by decide +kernel, by decide +kernel⟩, List.mem_of_getElem? (i := 1121) (by decide +kernel), List.mem_of_getElem? (i := 1483) (by decide +kernel), List.mem_of_getElem? (i := 1484) (by decide +kernel)⟩
theorem lw_p67 : lw_okq (⟨"RecyclingLineModel", "presses", "(I)V"⟩, 23) := ⟨⟨by decide +kernel, by decide +kernel⟩, List.mem_of_getElem? (i := 1121) (by decide +kernel), List.mem_of_getElem? (i := 1488) (by decide +kernel), List.mem_of_getElem? (i := 1489) (by decide +kernel)⟩
theorem lw_p68 : lw_okq (⟨"RecyclingLineModel", "gradeOf", "(I)I"⟩, 23) := ⟨⟨by decide +kernel, by decide +kernel⟩, List.mem_of_getElem? (i := 1121) (by decide +kernel), List.mem_of_getElem? (i := 1492) (by decide +kernel), List.mem_of_getElem? (i := 1493) (by decide +kernel)⟩
theorem lw_p69 : lw_okq (⟨"RecyclingLineModel", "takesBale", "(II)Z"⟩, 23) := ⟨⟨by decide +kernel, by decide +kernel⟩, List.mem_of_getElem? (i := 1121) (by decide +kernel), List.mem_of_getElem? (i := 1500) (by decide +kernel), List.mem_of_getElem? (i := 1501) (by decide +kernel)⟩
theorem lw_p70 : lw_okq (⟨"RecyclingLineModel", "ofBuyer", "(II)I"⟩, 23) := ⟨⟨by decide +kernel, by decide +kernel⟩, List.mem_of_getElem? (i := 1121) (by decide +kernel), List.mem_of_getElem? (i := 1504) (by decide +kernel), List.mem_of_getElem? (i := 1505) (by decide +kernel)⟩
theorem lw_p71 : lw_okq (⟨"RecyclingLineModel", "sendsBack", "(II)Z"⟩, 23) := ⟨⟨by decide +kernel, by decide +kernel⟩, List.mem_of_getElem? (i := 1121) (by decide +kernel), List.mem_of_getElem? (i := 1508) (by decide +kernel), List.mem_of_getElem? (i := 1509) (by decide +kernel)⟩
theorem lw_p72 : lw_okq (⟨"RecyclingLineModel", "impurity", "(I)I"⟩, 23) := ⟨⟨by decide +kernel, by decide +kernel⟩, List.mem_of_getElem? (i := 1121) (by decide +kernel), List.mem_of_getElem? (i := 1512) (by decide +kernel), List.mem_of_getElem? (i := 1513) (by decide +kernel)⟩
theorem lw_p73 : lw_okq (⟨"RecyclingLineModel", "pays", "(II)I"⟩, 23) := ⟨⟨by decide +kernel, by decide +kernel⟩, List.mem_of_getElem? (i := 1121) (by decide +kernel), List.mem_of_getElem? (i := 1516) (by decide +kernel), List.mem_of_getElem? (i := 1517) (by decide +kernel)⟩
theorem lw_p74 : lw_okq (⟨"RecyclingLineModel", "goesAside", "()V"⟩, 23) := ⟨⟨by decide +kernel, by decide +kernel⟩, List.mem_of_getElem? (i := 1121) (by decide +kernel), List.mem_of_getElem? (i := 1533) (by decide +kernel), List.mem_of_getElem? (i := 1534) (by decide +kernel)⟩
theorem lw_p75 : lw_okq (⟨"RecyclingLineModel", "comesBack", "()V"⟩, 23) := ⟨⟨by decide +kernel, by decide +kernel⟩, List.mem_of_getElem? (i := 1121) (by decide +kernel), List.mem_of_getElem? (i := 1537) (by decide +kernel), List.mem_of_getElem? (i := 1538) (by decide +kernel)⟩
theorem lw_p76 : lw_okq (⟨"RecyclingLineModel", "isEmpty", "()Z"⟩, 23) := ⟨⟨by decide +kernel, by decide +kernel⟩, List.mem_of_getElem? (i := 1121) (by decide +kernel), List.mem_of_getElem? (i := 1550) (by decide +kernel), List.mem_of_getElem? (i := 1551) (by decide +kernel)⟩
def lw_privs_5 : List (MethodName × Nat) := [(⟨"RecyclingLineModel", "lays", "(I)V"⟩, 23), (⟨"RecyclingLineModel", "picks", "(I)V"⟩, 23), (⟨"RecyclingLineModel", "goes", "(III)V"⟩, 23), (⟨"RecyclingLineModel", "presses", "(I)V"⟩, 23), (⟨"RecyclingLineModel", "gradeOf", "(I)I"⟩, 23), (⟨"RecyclingLineModel", "takesBale", "(II)Z"⟩, 23), (⟨"RecyclingLineModel", "ofBuyer", "(II)I"⟩, 23), (⟨"RecyclingLineModel", "sendsBack", "(II)Z"⟩, 23), (⟨"RecyclingLineModel", "impurity", "(I)I"⟩, 23), (⟨"RecyclingLineModel", "pays", "(II)I"⟩, 23), (⟨"RecyclingLineModel", "goesAside", "()V"⟩, 23), (⟨"RecyclingLineModel", "comesBack", "()V"⟩, 23), (⟨"RecyclingLineModel", "isEmpty", "()Z"⟩, 23)]
theorem lw_r5 : ∀ q ∈ lw_privs_5, lw_okq q := List.forall_mem_cons.mpr ⟨lw_p64, List.forall_mem_cons.mpr ⟨lw_p65, List.forall_mem_cons.mpr ⟨lw_p66, List.forall_mem_cons.mpr ⟨lw_p67, List.forall_mem_cons.mpr ⟨lw_p68, List.forall_mem_cons.mpr ⟨lw_p69, List.forall_mem_cons.mpr ⟨lw_p70, List.forall_mem_cons.mpr ⟨lw_p71, List.forall_mem_cons.mpr ⟨lw_p72, List.forall_mem_cons.mpr ⟨lw_p73, List.forall_mem_cons.mpr ⟨lw_p74, List.forall_mem_cons.mpr ⟨lw_p75, List.forall_mem_cons.mpr ⟨lw_p76, fun _ h => absurd h List.not_mem_nil⟩⟩⟩⟩⟩⟩⟩⟩⟩⟩⟩⟩⟩
def lw_privs : List (MethodName × Nat) := lw_privs_1 ++ (lw_privs_2 ++ (lw_privs_3 ++ (lw_privs_4 ++ (lw_privs_5))))
def lw_tbl : List Cond := k2_sels lw_privs ++ tables_1
theorem lw_privs_ok : ∀ q ∈ lw_privs, lw_okq q := by
  show ∀ q ∈ lw_privs_1 ++ (lw_privs_2 ++ (lw_privs_3 ++ (lw_privs_4 ++ (lw_privs_5)))), lw_okq q
  exact List.forall_mem_append.mpr ⟨lw_r1, List.forall_mem_append.mpr ⟨lw_r2, List.forall_mem_append.mpr ⟨lw_r3, List.forall_mem_append.mpr ⟨lw_r4, lw_r5⟩⟩⟩⟩
/-- the streams that the claim lets the run draw from -/
abbrev lw_cs : List Choice := [Jvm.Choice.named "NaN.bits"]
theorem lw_bits : nanBits ∈ lw_cs := by first | decide | exact List.mem_cons_self | simp [lw_cs, nanBits]
end
section
/-! ===== BEGIN words of one list among another's, by their places ===== -/
theorem goodIn_r {big : List Cond} (ws : List Cond) (ps : List Nat) (hp : ws = ps.filterMap (fun i => big[i]?)) (h : ws.all goodWord = true) : GoodIn big ws := by
  intro w hw
  have h1 := List.all_eq_true.mp h w hw
  rw [hp] at hw
  obtain ⟨i, -, hi⟩ := List.mem_filterMap.mp hw
  have hm : w ∈ big := by first | exact List.mem_of_getElem? hi | exact List.getElem?_mem hi
  exact ⟨hm, good_of_word h1⟩
theorem goodIn_app {big a b : List Cond} (ha : GoodIn big a) (hb : GoodIn big b) : GoodIn big (a ++ b) := fun w h => (List.mem_append.mp h).elim (ha w) (hb w)
theorem goodIn_ca {big a b : List Cond} {c : Cond} (ha : GoodIn big (c :: a)) (hb : GoodIn big b) : GoodIn big (c :: (a ++ b)) := fun w h => (List.mem_cons.mp h).elim (fun e => ha w (List.mem_cons.mpr (Or.inl e))) (fun h => (List.mem_append.mp h).elim (fun h => ha w (List.mem_cons.mpr (Or.inr h))) (hb w))
theorem goodIn_sub {big ws : List Cond} (hm : ∀ w ∈ ws, w ∈ big) (h : ws.all goodWord = true) : GoodIn big ws := fun w hw => ⟨hm w hw, good_of_word (List.all_eq_true.mp h w hw)⟩
/-! ===== END ===== -/

/-! ===== BEGIN exceptions that leave a method, and their catching by the caller (launches without stack traces) ===== -/
section VXA
/-! The laws vx_back, vx_callV, vx_callS, vx_callSW, vx_throw0, vx_throwS follow proofs of the library, with one case more: JvmDerived/Free/Laws.lean (Back.of_free), Shelf42/LK1.lean (callV, callS), Shelf/KitTraced.lean (throwNew0V, throwNewS). -/
/-- where a method has thrown q: the class by its name, the cell, what was written, the world -/
def vx_T (XC : String → State → State → Prop) (st : State) (q : Addr) (t : State) (mc ms : Nat) (free : Addr → Prop) : Prop :=
  ∃ (E : String) (ce : Cell) (L : List Loc), XC E st t ∧ t.heap[q]? = some ce ∧ ce.vm = .none ∧ st.vm.findClass E = some ce.cls ∧ st.WarmedH t.vm ∧ st.sameButNew ({ t with vm := st.vm } : State) L mc ms ∧ ∀ z ∈ L, free z.base
def vx_Q (Qc : Array Value → State → Outcome → State → Prop) (XC : String → State → State → Prop) (mc ms : Nat) (free : Addr → Prop) : Array Value → State → Outcome → State → Prop := fun a st o t =>
  (Qc a st o t ∧ ∃ L, FrameEnd st o t L mc ms ∧ ∀ q ∈ L, free q.base) ∨ ∃ q, o = .threw q ∧ vx_T XC st q t mc ms free
/-- a callee that returns or throws -/
def vx_Met (l : Launch) (y : MethodName) (ws : List Cond) (rm : Room) (Pc : Array Value → State → Prop) (Qc : Array Value → State → Outcome → State → Prop) (XC : String → State → State → Prop) (mc ms : Nat) (free : Addr → Prop) : Prop :=
  MetFree l y (headSpec ws rm) Pc (fun _ _ _ _ _ => True) (vx_Q Qc XC mc ms free)
def vx_Post (XC : String → State → State → Prop) (mc ms : Nat) (free : Addr → Prop) : Pt → Array Value → Addr → Pt → Prop := fun A a q B =>
  ∃ (g : JFrame) (mk : MethodId) (t : State) (L : List Loc) (E : String) (ce : Cell), B.U.heap = t.heap ∧ B.U.vm = t.vm ∧ XC E (A.U.calling g mk a) t ∧ t.heap[q]? = some ce ∧ ce.vm = .none ∧ A.U.vm.findClass E = some ce.cls ∧ B.locs = A.locs ++ L ∧ (∀ z ∈ L, free z.base) ∧ B.cells = A.cells + mc ∧ B.slots = A.slots + ms
def vx_Back (l : Launch) (R : Room) (p : Program) (e : Env) (below : List Frame) (s : State) (sargs : Array Value) (y : MethodName) (len W9 : Nat)
    (Pre : Pt → Array Value → Prop) (Post : Pt → Array Value → Option Value → Pt → Prop) (PostX : Pt → Array Value → Addr → Pt → Prop) : Prop :=
  ∀ (m : MethodId) (meth : Method) (c : Code) (A : Pt) (g : JFrame) (ig : Instr) (mk : MethodId) (a : Array Value),
    Stand p l e R s m sargs below meth c A.U A.locs A.cells A.slots → g.method = m → g.locals.size = c.maxLocals → decode c.code g.pc = .ok (ig, len) →
    2 * g.monitorRoom + (g.stack.map fun v => v.category).sum ≤ W9 → A.U.methodNamed? y = some mk → Pre A a →
    (∃ (v : Option Value) (B : Pt), Stand p l e R s m sargs below meth c B.U B.locs B.cells B.slots ∧ Post A a v B ∧
      Steps p.tables e below (doInvoke e (A.U.setTop g) [] mk a).1 (B.U.setTop { g with pc := g.pc + len, stack := v.toList ++ g.stack })) ∨
    (∃ (q : Addr) (B : Pt), Stand p l e R s m sargs below meth c B.U B.locs B.cells B.slots ∧ PostX A a q B ∧
      Steps p.tables e below (doInvoke e (A.U.setTop g) [] mk a).1 ((B.U.setTop g).pushFrame (.throwing q)))
section Payer
variable {l : Launch} {R : Room} {p : Program} {e : Env} {below : List Frame} {s : State} {sargs : Array Value} {y : MethodName} {len W9 : Nat}
theorem vx_back {ws : List Cond} {rm : Room} {Pc : Array Value → State → Prop} {Qc : Array Value → State → Outcome → State → Prop} {XC : String → State → State → Prop} {mc ms : Nat} {free : Addr → Prop} {bytes : ByteArray} {maxL : Nat} {ret : Option FieldType}
    (hM : vx_Met l y ws rm Pc Qc XC mc ms free) (hblind : FrameBlind Pc) (hrc : rm.cells = mc) (hrs : rm.slots = ms)
    (hframes : rm.frames + 1 ≤ R.frames) (hlocals : W9 + (maxL + 11) + rm.locals ≤ R.locals)
    (hws : ∀ w ∈ ws, ∀ a' U, s.WarmedH U.vm → w.before a' U = true) (hcode : Cond.code y bytes maxL ret ∈ ws) (hinit : ∀ a' U, s.WarmedH U.vm → (Cond.initialized y.cls).before a' U = true) :
    vx_Back l R p e below s sargs y len W9 (PreOf R mc ms Pc) (PostOf Qc mc ms free) (vx_Post XC mc ms free) := by
  intro m meth c A g ig mk a X hg hsize hdg hW hn hp
  have h1 : (headSpec ws rm).pre.before a A.U = true := atoms_intro fun w hw => hws w hw _ _ X.warmed
  have h2 : (Cond.code y bytes maxL ret).before a A.U = true := hws _ hcode _ _ X.warmed
  have h3 : (Cond.initialized y.cls).before a A.U = true := hinit _ _ X.warmed
  have h4 : A.cells + (headSpec ws rm).room.cells ≤ R.cells := by rw [show (headSpec ws rm).room.cells = mc from hrc]; exact hp.1
  have h5 : A.slots + (headSpec ws rm).room.slots ≤ R.slots := by rw [show (headSpec ws rm).room.slots = ms from hrs]; exact hp.2.1
  have hPc : Pc a (A.U.calling g mk a) := hblind _ _ _ _ hp.2.2
  obtain ⟨U, Ls, c0, s0⟩ := A
  dsimp only [Pt.U, Pt.locs, Pt.cells, Pt.slots] at h1 h2 h3 h4 h5 X hn hPc ⊢
  obtain ⟨methY, cY, hmY, hcY, -, hlY, -, -, -, -⟩ := Cond.code_spec hn h2
  obtain ⟨kY, hkY, -⟩ := className_of_methodNamed hn
  have hinitY : kY.init = .initialized := Cond.initialized_spec (findClass_of_methodNamed hn) hkY h3
  have h : At U g.method c below := by rw [hg]; exact X.here
  have hlocals9 : W9 + (maxL + 11) + (headSpec ws rm).room.locals ≤ R.locals := hlocals
  have happ : (headSpec ws rm).appliesLoose y e.platform (U.calling g mk a) = true :=
    Spec.appliesLoose_calling (g := g) h hdg hn hkY hinitY
      (X.room_calling (g := g) (R' := (headSpec ws rm).room) hsize hmY hcY hframes (by rw [hlY]; omega) h4 h5) h1
  obtain ⟨mid, hmid⟩ := h.above
  have hfr : (U.setTop g).frames = (.java g :: mid) ++ below := by rw [State.frames_setTop' g h.top, hmid]; rfl
  obtain ⟨o, s₂, hsteps, -, hend, hq⟩ := Steps.callFree hM p X.admits X.cas X.clock (acts := []) hfr happ hPc trivial
  have hq' : vx_Q Qc XC mc ms free a (U.calling g mk a) o s₂ := hq
  rw [State.frames_setTop' g h.top] at hend
  obtain ⟨g₀, hg0⟩ := Option.isSome_iff_exists.mp h.top
  obtain ⟨r, hr⟩ := State.topJava?_eq_some.mp hg0
  have hr' : (({ U with heap := s₂.heap, slotsUsed := s₂.slotsUsed } : State).setVm s₂.vm).frames = .java g₀ :: r := hr
  rcases hq' with ⟨hqc, L, hfe, hL⟩ | ⟨q, rfl, E, ce, L, hx, hce, hcv, hcl, hW₂, hsm, hL⟩
  · obtain ⟨⟨v, rfl⟩, hW₂, e2, q2, q3, q4, q5, q6⟩ := id hfe
    have e3 : s₂ = ({ (U.calling g mk a).setFrames s₂.frames with heap := s₂.heap, slotsUsed := s₂.slotsUsed } : State).setVm s₂.vm := by
      have : s₂ = ({ s₂ with vm := (U.calling g mk a).vm } : State).setVm s₂.vm := rfl
      rw [e2] at this
      exact this
    obtain ⟨c₂, i₂, len₂, hc₂, hd₂, hf₂⟩ := hend
    have hW' : U.WarmedH s₂.vm := hW₂
    have hcc : c₂ = c := by
      have h1 : s₂.code? g.method = U.code? g.method := by
        rw [State.code?_eq, State.code?_eq, hW'.alike.method?]
      exact Option.some.inj (hc₂.symm.trans (h1.trans h.code))
    subst hcc
    have hlen : len₂ = len := by rw [hdg] at hd₂; cases hd₂; rfl
    subst hlen
    have hs₂ : s₂ = (({ U with heap := s₂.heap, slotsUsed := s₂.slotsUsed } : State).setVm s₂.vm).setTop { g with pc := g.pc + len₂, stack := v.toList ++ g.stack } := by
      refine e3.trans ?_
      rw [hf₂, State.calling_eq h.top, State.setFrames_setFrames, State.setTop_of_frames _ hr', hr]
      rfl
    have hsame : U.sameButNew ({ U with heap := s₂.heap, slotsUsed := s₂.slotsUsed } : State) L mc ms := by
      refine ⟨?_, q2, q3, q4, q5, q6⟩
      obtain ⟨t, ht, -⟩ := State.frames_cons hr
      show ({ U with heap := s₂.heap, slotsUsed := s₂.slotsUsed } : State) = { U.setFrames U.frames with heap := s₂.heap, slotsUsed := s₂.slotsUsed }
      rw [State.setFrames_self ht]
    subst hg
    refine Or.inl ⟨v, ⟨(({ U with heap := s₂.heap, slotsUsed := s₂.slotsUsed } : State).setVm s₂.vm), Ls ++ L, c0 + mc, s0 + ms⟩,
      ⟨X.admits, X.cas, X.clock, X.frames, X.room, X.hears, X.method, X.code, (X.here.setHeapUsed s₂.heap s₂.slotsUsed).setVm hW'.alike, X.tail, State.WarmedH.trans X.warmed hW', X.limits, X.bytes, X.same.trans (hsame.setVm s.vm)⟩,
      ⟨g, mk, s₂, L, rfl, rfl, hqc, rfl, hL, rfl, rfl⟩, ?_⟩
    show Steps p.tables e below _ ((({ U with heap := s₂.heap, slotsUsed := s₂.slotsUsed } : State).setVm s₂.vm).setTop { g with pc := g.pc + len₂, stack := v.toList ++ g.stack })
    rw [← hs₂]
    exact hsteps
  · obtain ⟨e2, q2, q3, q4, q5, q6⟩ := id hsm
    have e3 : s₂ = ({ (U.calling g mk a).setFrames s₂.frames with heap := s₂.heap, slotsUsed := s₂.slotsUsed } : State).setVm s₂.vm := by
      have : s₂ = ({ s₂ with vm := (U.calling g mk a).vm } : State).setVm s₂.vm := rfl
      rw [e2] at this
      exact this
    have hf₂ : s₂.frames = .throwing q :: .java g :: U.frames.tail := hend
    have hW' : U.WarmedH s₂.vm := hW₂
    have hs₂ : s₂ = ((({ U with heap := s₂.heap, slotsUsed := s₂.slotsUsed } : State).setVm s₂.vm).setTop g).pushFrame (.throwing q) := by
      refine e3.trans ?_
      rw [hf₂, State.calling_eq h.top, State.setFrames_setFrames, State.pushFrame, State.frames_setTop _ hr', State.setTop_of_frames _ hr', State.setFrames_setFrames, hr]
      rfl
    have hsame : U.sameButNew ({ U with heap := s₂.heap, slotsUsed := s₂.slotsUsed } : State) L mc ms := by
      refine ⟨?_, q2, q3, q4, q5, q6⟩
      obtain ⟨t, ht, -⟩ := State.frames_cons hr
      show ({ U with heap := s₂.heap, slotsUsed := s₂.slotsUsed } : State) = { U.setFrames U.frames with heap := s₂.heap, slotsUsed := s₂.slotsUsed }
      rw [State.setFrames_self ht]
    subst hg
    refine Or.inr ⟨q, ⟨(({ U with heap := s₂.heap, slotsUsed := s₂.slotsUsed } : State).setVm s₂.vm), Ls ++ L, c0 + mc, s0 + ms⟩,
      ⟨X.admits, X.cas, X.clock, X.frames, X.room, X.hears, X.method, X.code, (X.here.setHeapUsed s₂.heap s₂.slotsUsed).setVm hW'.alike, X.tail, State.WarmedH.trans X.warmed hW', X.limits, X.bytes, X.same.trans (hsame.setVm s.vm)⟩,
      ⟨g, mk, s₂, L, E, ce, rfl, rfl, hx, hce, hcv, hcl, rfl, hL, rfl, rfl⟩, ?_⟩
    show Steps p.tables e below _ (((({ U with heap := s₂.heap, slotsUsed := s₂.slotsUsed } : State).setVm s₂.vm).setTop g).pushFrame (.throwing q))
    rw [← hs₂]
    exact hsteps
end Payer
section Calls
variable {p : Program} {l : Launch} {e : Env} {R : Room} {s : State} {m : MethodId} {args : Array Value} {below : List Frame} {meth : Method} {c : Code} {T : State} {locs : List Loc} {cells slots : Nat}
theorem vx_callV (X : Stand p l e R s m args below meth c T locs cells slots) (hexec : p.tables.exec = Jvm.exec) {own C : String} {index : Nat} {y : MethodName} {bytes : ByteArray} {maxL : Nat} {ret : Option FieldType}
    (hown : s.vm.findClass own = some m.cls) (hlink : (Cond.methodLink own index y).before args s = true) (hinst : (Cond.instanceMethod y).before args s = true) (hsel : (Cond.selects C y y).before args s = true)
    (hcode : (Cond.code y bytes maxL ret).before args s = true) (hy : y.cls ≠ "java/lang/invoke/MethodHandle" ∧ y.cls ≠ "java/lang/invoke/VarHandle")
    {W9 : Nat} {Pre : Pt → Array Value → Prop} {Post : Pt → Array Value → Option Value → Pt → Prop} {PostX : Pt → Array Value → Addr → Pt → Prop} (hK : vx_Back l R p e below s args y 3 W9 Pre Post PostX)
    {b : Addr} {cellB : Cell} (hcell : T.heap[b]? = some cellB) (hobj : cellB.vm.isStatics = false) (hcls : s.vm.findClass C = some cellB.cls)
    {g : JFrame} (hg : g.method = m) (hsize : g.locals.size = c.maxLocals) {argsL rest : List Value} (hlen : ∀ sig, parseMethodDescriptor y.desc = some sig → argsL.length = sig.parameters.length)
    (hstack : g.stack = argsL.reverse ++ .ref b :: rest) (hW : 2 * g.monitorRoom + (rest.map fun v => v.category).sum ≤ W9) (hdg : decode c.code g.pc = .ok (.invokevirtual index, 3))
    (hpre : ∀ vm₁, s.WarmedH vm₁ → Pre ⟨T.setVm vm₁, locs, cells, slots⟩ (Value.ref b :: argsL).toArray) :
    (∃ (v : Option Value) (vm₁ : Vm) (B : Pt), s.WarmedH vm₁ ∧ Stand p l e R s m args below meth c B.U B.locs B.cells B.slots ∧ Post ⟨T.setVm vm₁, locs, cells, slots⟩ (Value.ref b :: argsL).toArray v B ∧
      ∀ target, Steps p.tables e below (B.U.setTop { g with pc := g.pc + 3, stack := v.toList ++ rest }) target → Steps p.tables e below (T.setTop g) target) ∨
    (∃ (q : Addr) (vm₁ : Vm) (B : Pt), s.WarmedH vm₁ ∧ Stand p l e R s m args below meth c B.U B.locs B.cells B.slots ∧ PostX ⟨T.setVm vm₁, locs, cells, slots⟩ (Value.ref b :: argsL).toArray q B ∧
      Steps p.tables e below (T.setTop g) ((B.U.setTop { g with stack := rest }).pushFrame (.throwing q))) := by
  obtain ⟨mk, methM, hnamed, hmethM, hstM, habM⟩ := Cond.instanceMethod_spec hinst
  obtain ⟨methM', cM, hmethM', -, -, -, -, -, -, hsigM⟩ := Cond.code_spec hnamed hcode
  cases hmethM.symm.trans hmethM'
  obtain ⟨c2, r2, m2, q1, q2, q3, q4, kP, hkP, hkPi⟩ := Cond.selects_spec hsel
  cases hcls.symm.trans q1
  cases (State.methodFound?_of_named hnamed hy).symm.trans q2
  cases hnamed.symm.trans q3
  have hselP : selectMethod e.platform s.vm cellB.cls mk = .method mk := by rw [Launch.admits_selectMethod X.admits]; exact q4
  obtain ⟨vm₁, X₁, hstep₁⟩ := X.invokevirtual hexec hown hlink hnamed hmethM hstM hkP hkPi hy (a := b) (cell := cellB) hcell
    (fun z h => by rw [h] at hobj; cases hobj) hselP hmethM habM hkP hkPi (g := g) hg (argsL := argsL) (rest := rest) (hlen _ hsigM) hstack hdg
  rcases hK m meth c ⟨T.setVm vm₁, locs, cells, slots⟩ { g with stack := rest } (.invokevirtual index) mk (Value.ref b :: argsL).toArray X₁ hg hsize hdg hW (X₁.named hnamed) (hpre vm₁ X₁.warmed) with ⟨v, B, X', hpost, hsteps⟩ | ⟨q, B, X', hpost, hsteps⟩
  · exact Or.inl ⟨v, vm₁, B, X₁.warmed, X', hpost, fun target h => hstep₁ _ fun acts => by rw [doInvoke_state]; exact hsteps.trans h⟩
  · exact Or.inr ⟨q, vm₁, B, X₁.warmed, X', hpost, hstep₁ _ fun acts => by rw [doInvoke_state]; exact hsteps⟩
theorem vx_callS (X : Stand p l e R s m args below meth c T locs cells slots) (hexec : p.tables.exec = Jvm.exec) {own : String} {index : Nat} {y : MethodName} {bytes : ByteArray} {maxL : Nat} {ret : Option FieldType}
    (hown : s.vm.findClass own = some m.cls) (hlink : (Cond.methodLink own index y).before args s = true) (hstat : (Cond.static y).before args s = true) (hinit : (Cond.initialized y.cls).before args s = true)
    (hcode : (Cond.code y bytes maxL ret).before args s = true) (hy : y.cls ≠ "java/lang/invoke/MethodHandle" ∧ y.cls ≠ "java/lang/invoke/VarHandle")
    {W9 : Nat} {Pre : Pt → Array Value → Prop} {Post : Pt → Array Value → Option Value → Pt → Prop} {PostX : Pt → Array Value → Addr → Pt → Prop} (hK : vx_Back l R p e below s args y 3 W9 Pre Post PostX)
    {g : JFrame} (hg : g.method = m) (hsize : g.locals.size = c.maxLocals) {argsL rest : List Value} (hlen : ∀ sig, parseMethodDescriptor y.desc = some sig → argsL.length = sig.parameters.length)
    (hstack : g.stack = argsL.reverse ++ rest) (hW : 2 * g.monitorRoom + (rest.map fun v => v.category).sum ≤ W9) (hdg : decode c.code g.pc = .ok (.invokestatic index, 3))
    (hpre : ∀ vm₁, s.WarmedH vm₁ → Pre ⟨T.setVm vm₁, locs, cells, slots⟩ argsL.toArray) :
    (∃ (v : Option Value) (vm₁ : Vm) (B : Pt), s.WarmedH vm₁ ∧ Stand p l e R s m args below meth c B.U B.locs B.cells B.slots ∧ Post ⟨T.setVm vm₁, locs, cells, slots⟩ argsL.toArray v B ∧
      ∀ target, Steps p.tables e below (B.U.setTop { g with pc := g.pc + 3, stack := v.toList ++ rest }) target → Steps p.tables e below (T.setTop g) target) ∨
    (∃ (q : Addr) (vm₁ : Vm) (B : Pt), s.WarmedH vm₁ ∧ Stand p l e R s m args below meth c B.U B.locs B.cells B.slots ∧ PostX ⟨T.setVm vm₁, locs, cells, slots⟩ argsL.toArray q B ∧
      Steps p.tables e below (T.setTop g) ((B.U.setTop { g with stack := rest }).pushFrame (.throwing q))) := by
  obtain ⟨mk, hnamed⟩ := Cond.code_named hcode
  obtain ⟨methM, cM, hmethM, -, -, -, -, -, -, hsigM⟩ := Cond.code_spec hnamed hcode
  have hstatic : methM.isStatic = true := Cond.static_spec hnamed hmethM hstat
  obtain ⟨kP, hkP, -⟩ := className_of_methodNamed hnamed
  have hinitP : kP.init = .initialized := Cond.initialized_spec (findClass_of_methodNamed hnamed) hkP hinit
  obtain ⟨vm₁, X₁, hstep₁⟩ := X.invokestatic hexec hown hlink hnamed hmethM hstatic hkP hinitP hy (g := g) hg (argsL := argsL) (rest := rest) (hlen _ hsigM) hstack hdg
  rcases hK m meth c ⟨T.setVm vm₁, locs, cells, slots⟩ { g with stack := rest } (.invokestatic index) mk argsL.toArray X₁ hg hsize hdg hW (X₁.named hnamed) (hpre vm₁ X₁.warmed) with ⟨v, B, X', hpost, hsteps⟩ | ⟨q, B, X', hpost, hsteps⟩
  · exact Or.inl ⟨v, vm₁, B, X₁.warmed, X', hpost, fun target h => hstep₁ _ fun acts => by rw [doInvoke_state]; exact hsteps.trans h⟩
  · exact Or.inr ⟨q, vm₁, B, X₁.warmed, X', hpost, hstep₁ _ fun acts => by rw [doInvoke_state]; exact hsteps⟩
end Calls
theorem vx_cls {s : State} {T : State} {vm₁ : Vm} {E : String} {k : ClassId} (hW : s.WarmedH vm₁) (h : (T.setVm vm₁).vm.findClass E = some k) : s.vm.findClass E = some k := by
  have h1 : vm₁.findClass E = some k := h
  rw [hW.alike.findClass] at h1
  exact h1
/-- the method's frame g, with q thrown over it -/
def vx_W (p : Program) (l : Launch) (e : Env) (R : Room) (s : State) (m : MethodId) (args : Array Value) (below : List Frame) (meth : Method) (c : Code) (H : Heap) (locs : List Loc) (cells slots : Nat) (Q : State → Prop) (g : JFrame) (q : Addr) : Prop :=
  ∀ T : State, T.heap = H → Stand p l e R s m args below meth c T locs cells slots → ∃ t, Steps p.tables e below ((T.setTop g).pushFrame (.throwing q)) t ∧ Q t
def vx_Run (p : Program) (l : Launch) (e : Env) (R : Room) (s : State) (m : MethodId) (args : Array Value) (below : List Frame) (meth : Method) (c : Code) (H : Heap) (locs : List Loc) (cells slots mc ms : Nat) (g : JFrame) (rest : List Value) (Qa : State → Outcome → State → Prop) (XC : String → State → State → Prop) (free : Addr → Prop) : Prop :=
  ∀ T : State, T.heap = H → Stand p l e R s m args below meth c T locs cells slots →
    (∃ (v : Option Value) (st₀ t T' : State) (L : List Loc), st₀.heap = H ∧ Stand p l e R s m args below meth c T' (locs ++ L) (cells + mc) (slots + ms) ∧ (∀ q ∈ L, free q.base) ∧ T'.heap = t.heap ∧ T'.vm = t.vm ∧ Qa st₀ (.returned v) t ∧
      Goes p e below T g T' { g with pc := g.pc + 3, stack := v.toList ++ rest }) ∨
    (∃ (q : Addr) (st₀ t T' : State) (L : List Loc) (E : String) (ce : Cell), st₀.heap = H ∧ Stand p l e R s m args below meth c T' (locs ++ L) (cells + mc) (slots + ms) ∧ (∀ z ∈ L, free z.base) ∧ T'.heap = t.heap ∧ T'.vm = t.vm ∧ XC E st₀ t ∧ t.heap[q]? = some ce ∧ ce.vm = .none ∧ s.vm.findClass E = some ce.cls ∧
      Steps p.tables e below (T.setTop g) ((T'.setTop { g with stack := rest }).pushFrame (.throwing q)))
def vx_X {S : Type} (px : S → Prop) (B : String → S → State → Prop) (A : Nat → Prop) : String → State → State → Prop := fun E st t => ∃ u : S, px u ∧ B E u t ∧ va_F A st t
section Runs
variable {p : Program} {l : Launch} {e : Env} {R : Room} {s : State} {m : MethodId} {args : Array Value} {below : List Frame} {meth : Method} {c : Code} {H : Heap} {locs : List Loc} {cells slots : Nat}
variable {y : MethodName} {bytes cc : ByteArray} {maxL nL mc ms n index : Nat} {ret : Option FieldType} {ws : List Cond} {rm : Room} {Pc : Array Value → State → Prop} {Qc : Array Value → State → Outcome → State → Prop} {XC : String → State → State → Prop} {free : Addr → Prop} {Ts : List Cond} {own C : String} {b : Addr} {As rest : List Value} {g : JFrame}
theorem vx_callBack (cb : CallB R s args own index y bytes maxL ret ws rm mc ms n) (hM : vx_Met l y ws rm Pc Qc XC mc ms free) (hbl : FrameBlind Pc) : vx_Back l R p e below s args y 3 8 (PreOf R mc ms Pc) (PostOf Qc mc ms free) (vx_Post XC mc ms free) := by
  obtain ⟨hrc, hrs, hfr, hlo, hws, hcw, -, hini, -⟩ := cb
  exact vx_back (bytes := bytes) (maxL := maxL) (ret := ret) hM hbl hrc hrs hfr hlo hws hcw (fun a' U hW => word_at hW (Or.inl (by first | rfl | simp [Cond.onTables, Cond.keeps, Cond.steady])) hini)
theorem vx_runV (S : CallFix p m c cc nL s args Ts own) (hM : vx_Met l y ws rm Pc Qc XC mc ms free) (cw : CallW R s args own C index y bytes maxL ret ws rm mc ms n) (hp : PreV s H C b Pc As)
    (hg : g.method = m) (hn : As.length = n) (hsize : g.locals.size = nL) (hstack : g.stack = As.reverse ++ .ref b :: rest) (hW : 2 * g.monitorRoom + (rest.map fun v => v.category).sum ≤ 8) (hdg : decode cc g.pc = .ok (.invokevirtual index, 3)) (hf : cells + mc ≤ R.cells ∧ slots + ms ≤ R.slots) :
    vx_Run p l e R s m args below meth c H locs cells slots mc ms g rest (Qc (Value.ref b :: As).toArray) XC free := by
  have hK : vx_Back l R p e below s args y 3 8 (PreOf R mc ms Pc) (PostOf Qc mc ms free) (vx_Post XC mc ms free) := vx_callBack cw.1 hM hp.1
  obtain ⟨⟨-, -, -, -, -, -, hcode, -, hy, hlen, hl⟩, hin, hse⟩ := cw
  obtain ⟨hx, hb, hml, ho, -⟩ := S
  obtain ⟨-, ⟨cellB, hcB, hoB, hclB⟩, hPc⟩ := hp
  intro T hT X
  rcases vx_callV X hx (C := C) (bytes := bytes) (maxL := maxL) (ret := ret) ho hl hin hse hcode hy hK (by rw [hT]; exact hcB) hoB hclB hg (hsize.trans hml.symm) (argsL := As) (rest := rest) (fun sig h => hn.trans (hlen sig h)) hstack hW (by rw [hb]; exact hdg)
    (fun vm₁ hW₁ => ⟨hf.1, hf.2, hPc (T.setVm vm₁) hT hW₁⟩) with ⟨v, vm₁, ⟨U', l2, c2, s2⟩, hW₁, X', ⟨g', mk, t, L, e1, e2, hq, h1, hL, h2, h3⟩, st⟩ | ⟨q, vm₁, ⟨U', l2, c2, s2⟩, hW₁, X', ⟨g', mk, t, L, E, ce, e1, e2, hq, hce, hcv, hcl, h1, hL, h2, h3⟩, st⟩
  · dsimp only [Pt.U, Pt.locs, Pt.cells, Pt.slots] at X' e1 e2 h1 h2 h3 st
    subst h1; subst h2; subst h3
    exact Or.inl ⟨v, (T.setVm vm₁).calling g' mk (Value.ref b :: As).toArray, t, U', L, hT, X', hL, e1, e2, hq, st⟩
  · dsimp only [Pt.U, Pt.locs, Pt.cells, Pt.slots] at X' e1 e2 h1 h2 h3 st hcl
    subst h1; subst h2; subst h3
    exact Or.inr ⟨q, (T.setVm vm₁).calling g' mk (Value.ref b :: As).toArray, t, U', L, E, ce, hT, X', hL, e1, e2, hq, hce, hcv, vx_cls hW₁ hcl, st⟩
theorem vx_runS (S : CallFix p m c cc nL s args Ts own) (hM : vx_Met l y ws rm Pc Qc XC mc ms free) (cw : CallB R s args own index y bytes maxL ret ws rm mc ms n ∧ (Cond.static y).before args s = true) (hp : PreS s H Pc As)
    (hg : g.method = m) (hn : As.length = n) (hsize : g.locals.size = nL) (hstack : g.stack = As.reverse ++ rest) (hW : 2 * g.monitorRoom + (rest.map fun v => v.category).sum ≤ 8) (hdg : decode cc g.pc = .ok (.invokestatic index, 3)) (hf : cells + mc ≤ R.cells ∧ slots + ms ≤ R.slots) :
    vx_Run p l e R s m args below meth c H locs cells slots mc ms g rest (Qc As.toArray) XC free := by
  have hK : vx_Back l R p e below s args y 3 8 (PreOf R mc ms Pc) (PostOf Qc mc ms free) (vx_Post XC mc ms free) := vx_callBack cw.1 hM hp.1
  obtain ⟨⟨-, -, -, -, -, -, hcode, hini, hy, hlen, hl⟩, hstt⟩ := cw
  obtain ⟨hx, hb, hml, ho, -⟩ := S
  intro T hT X
  rcases vx_callS X hx (bytes := bytes) (maxL := maxL) (ret := ret) ho hl hstt hini hcode hy hK hg (hsize.trans hml.symm) (argsL := As) (rest := rest) (fun sig h => hn.trans (hlen sig h)) hstack hW (by rw [hb]; exact hdg)
    (fun vm₁ hW₁ => ⟨hf.1, hf.2, hp.2 (T.setVm vm₁) hT hW₁⟩) with ⟨v, vm₁, ⟨U', l2, c2, s2⟩, hW₁, X', ⟨g', mk, t, L, e1, e2, hq, h1, hL, h2, h3⟩, st⟩ | ⟨q, vm₁, ⟨U', l2, c2, s2⟩, hW₁, X', ⟨g', mk, t, L, E, ce, e1, e2, hq, hce, hcv, hcl, h1, hL, h2, h3⟩, st⟩
  · dsimp only [Pt.U, Pt.locs, Pt.cells, Pt.slots] at X' e1 e2 h1 h2 h3 st
    subst h1; subst h2; subst h3
    exact Or.inl ⟨v, (T.setVm vm₁).calling g' mk As.toArray, t, U', L, hT, X', hL, e1, e2, hq, st⟩
  · dsimp only [Pt.U, Pt.locs, Pt.cells, Pt.slots] at X' e1 e2 h1 h2 h3 st hcl
    subst h1; subst h2; subst h3
    exact Or.inr ⟨q, (T.setVm vm₁).calling g' mk As.toArray, t, U', L, E, ce, hT, X', hL, e1, e2, hq, hce, hcv, vx_cls hW₁ hcl, st⟩
end Runs
section Rows
variable {p : Program} {l : Launch} {e : Env} {R : Room} {s : State} {m : MethodId} {args : Array Value} {below : List Frame} {meth : Method} {c : Code} {H : Heap} {locs : List Loc} {cells slots : Nat} {Q : State → Prop}
variable {mc ms : Nat} {free : Addr → Prop} {A0 A1 : Nat → Prop} {H0 : Heap} {a : Array Value} {pc : Nat} {ls : Array Slot} {st0 rest : List Value}
theorem vx_keep {st₀ t T' : State} {L : List Loc} (h0 : st₀.heap = H) (e1 : T'.heap = t.heap) (hS : va_S A0 H0 H locs) (hA : ∀ q, q < H.size → A1 q → A0 q) (hf : ∀ q, free q → A0 q) (hL : ∀ q ∈ L, free q.base) (hF : va_F A1 st₀ t) :
    H.size ≤ T'.heap.size ∧ (∀ q : Nat, q < H.size → ¬ A1 q → T'.heap[q]? = H[q]?) ∧ va_S A0 H0 T'.heap (locs ++ L) := by
  obtain ⟨hz, hk⟩ := hF
  rw [h0] at hz hk
  exact ⟨by rw [e1]; exact hz, fun q h1 h2 => by rw [e1]; exact hk q h1 h2,
    ⟨Nat.le_trans hS.1 (by rw [e1]; exact hz), fun q h1 h2 => by rw [e1, hk q (Nat.lt_of_lt_of_le h1 hS.1) (fun z => h2 (hA q (Nat.lt_of_lt_of_le h1 hS.1) z))]; exact hS.2.1 q h1 h2, fun q hq => by
      rcases List.mem_append.mp hq with h | h
      · exact hS.2.2 q h
      · exact hf _ (hL q h)⟩⟩
theorem vx_calli {S SX : Type} {post : Int32 → S → Prop} {px : SX → Prop} {B : S → State → Prop} {BX : String → SX → State → Prop} {AX : Nat → Prop} (hr : vx_Run p l e R s m args below meth c H locs cells slots mc ms (F0 m pc ls st0) rest (va_Qi post B A1 a) (vx_X px BX AX) free) (hS : va_S A0 H0 H locs) (hA : ∀ q, q < H.size → A1 q → A0 q) (hf : ∀ q, free q → A0 q) (hAX : ∀ q, q < H.size → AX q → A0 q)
    (kx : ∀ (E : String) (ce : Cell) (q9 : Addr) (u : SX) (t : State) (H1 : Heap) (locs1 : List Loc), t.heap = H1 → s.vm.Alike t.vm → px u → BX E u t → H.size ≤ H1.size → (∀ q : Nat, q < H.size → ¬ AX q → H1[q]? = H[q]?) → va_S A0 H0 H1 locs1 → H1[q9]? = some ce → ce.vm = .none → s.vm.findClass E = some ce.cls → vx_W p l e R s m args below meth c H1 locs1 (cells + mc) (slots + ms) Q (F0 m pc ls rest) q9)
    (kk : ∀ (r : Int32) (u : S) (t : State) (H1 : Heap) (locs1 : List Loc), t.heap = H1 → s.vm.Alike t.vm → post r u → B u t → H.size ≤ H1.size → (∀ q : Nat, q < H.size → ¬ A1 q → H1[q]? = H[q]?) → va_S A0 H0 H1 locs1 → W p l e R s m args below meth c H1 locs1 (cells + mc) (slots + ms) Q (F0 m (pc + 3) ls (.int r :: rest))) : W p l e R s m args below meth c H locs cells slots Q (F0 m pc ls st0) := by
  intro T hT X
  rcases hr T hT X with ⟨v, st₀, t, T', L, h0, X', hL, e1, e2, ⟨⟨r, u, hv, hp, hb⟩, hF⟩, st⟩ | ⟨q, st₀, t, T', L, E, ce, h0, X', hL, e1, e2, ⟨u, hp, hb, hF⟩, hce, hcv, hcl, st⟩
  · cases hv
    obtain ⟨k1, k2, k3⟩ := vx_keep h0 e1 hS hA hf hL hF
    obtain ⟨t2, a1, b1⟩ := kk r u t T'.heap (locs ++ L) e1.symm (by rw [← e2]; exact X'.warmed.alike) hp hb k1 k2 k3 T' rfl X'
    exact ⟨t2, st t2 a1, b1⟩
  · obtain ⟨k1, k2, k3⟩ := vx_keep h0 e1 hS hAX hf hL hF
    obtain ⟨t2, a1, b1⟩ := kx E ce q u t T'.heap (locs ++ L) e1.symm (by rw [← e2]; exact X'.warmed.alike) hp hb k1 k2 k3 (by rw [e1]; exact hce) hcv hcl T' rfl X'
    exact ⟨t2, st.trans a1, b1⟩
theorem vx_calll {S SX : Type} {post : Int64 → S → Prop} {px : SX → Prop} {B : S → State → Prop} {BX : String → SX → State → Prop} {AX : Nat → Prop} (hr : vx_Run p l e R s m args below meth c H locs cells slots mc ms (F0 m pc ls st0) rest (va_Ql post B A1 a) (vx_X px BX AX) free) (hS : va_S A0 H0 H locs) (hA : ∀ q, q < H.size → A1 q → A0 q) (hf : ∀ q, free q → A0 q) (hAX : ∀ q, q < H.size → AX q → A0 q)
    (kx : ∀ (E : String) (ce : Cell) (q9 : Addr) (u : SX) (t : State) (H1 : Heap) (locs1 : List Loc), t.heap = H1 → s.vm.Alike t.vm → px u → BX E u t → H.size ≤ H1.size → (∀ q : Nat, q < H.size → ¬ AX q → H1[q]? = H[q]?) → va_S A0 H0 H1 locs1 → H1[q9]? = some ce → ce.vm = .none → s.vm.findClass E = some ce.cls → vx_W p l e R s m args below meth c H1 locs1 (cells + mc) (slots + ms) Q (F0 m pc ls rest) q9)
    (kk : ∀ (r : Int64) (u : S) (t : State) (H1 : Heap) (locs1 : List Loc), t.heap = H1 → s.vm.Alike t.vm → post r u → B u t → H.size ≤ H1.size → (∀ q : Nat, q < H.size → ¬ A1 q → H1[q]? = H[q]?) → va_S A0 H0 H1 locs1 → W p l e R s m args below meth c H1 locs1 (cells + mc) (slots + ms) Q (F0 m (pc + 3) ls (.long r :: rest))) : W p l e R s m args below meth c H locs cells slots Q (F0 m pc ls st0) := by
  intro T hT X
  rcases hr T hT X with ⟨v, st₀, t, T', L, h0, X', hL, e1, e2, ⟨⟨r, u, hv, hp, hb⟩, hF⟩, st⟩ | ⟨q, st₀, t, T', L, E, ce, h0, X', hL, e1, e2, ⟨u, hp, hb, hF⟩, hce, hcv, hcl, st⟩
  · cases hv
    obtain ⟨k1, k2, k3⟩ := vx_keep h0 e1 hS hA hf hL hF
    obtain ⟨t2, a1, b1⟩ := kk r u t T'.heap (locs ++ L) e1.symm (by rw [← e2]; exact X'.warmed.alike) hp hb k1 k2 k3 T' rfl X'
    exact ⟨t2, st t2 a1, b1⟩
  · obtain ⟨k1, k2, k3⟩ := vx_keep h0 e1 hS hAX hf hL hF
    obtain ⟨t2, a1, b1⟩ := kx E ce q u t T'.heap (locs ++ L) e1.symm (by rw [← e2]; exact X'.warmed.alike) hp hb k1 k2 k3 (by rw [e1]; exact hce) hcv hcl T' rfl X'
    exact ⟨t2, st.trans a1, b1⟩
theorem vx_callf {S SX : Type} {post : UInt32 → S → Prop} {px : SX → Prop} {B : S → State → Prop} {BX : String → SX → State → Prop} {AX : Nat → Prop} (hr : vx_Run p l e R s m args below meth c H locs cells slots mc ms (F0 m pc ls st0) rest (va_Qf post B A1 a) (vx_X px BX AX) free) (hS : va_S A0 H0 H locs) (hA : ∀ q, q < H.size → A1 q → A0 q) (hf : ∀ q, free q → A0 q) (hAX : ∀ q, q < H.size → AX q → A0 q)
    (kx : ∀ (E : String) (ce : Cell) (q9 : Addr) (u : SX) (t : State) (H1 : Heap) (locs1 : List Loc), t.heap = H1 → s.vm.Alike t.vm → px u → BX E u t → H.size ≤ H1.size → (∀ q : Nat, q < H.size → ¬ AX q → H1[q]? = H[q]?) → va_S A0 H0 H1 locs1 → H1[q9]? = some ce → ce.vm = .none → s.vm.findClass E = some ce.cls → vx_W p l e R s m args below meth c H1 locs1 (cells + mc) (slots + ms) Q (F0 m pc ls rest) q9)
    (kk : ∀ (r : UInt32) (u : S) (t : State) (H1 : Heap) (locs1 : List Loc), t.heap = H1 → s.vm.Alike t.vm → post r u → B u t → H.size ≤ H1.size → (∀ q : Nat, q < H.size → ¬ A1 q → H1[q]? = H[q]?) → va_S A0 H0 H1 locs1 → W p l e R s m args below meth c H1 locs1 (cells + mc) (slots + ms) Q (F0 m (pc + 3) ls (.float r :: rest))) : W p l e R s m args below meth c H locs cells slots Q (F0 m pc ls st0) := by
  intro T hT X
  rcases hr T hT X with ⟨v, st₀, t, T', L, h0, X', hL, e1, e2, ⟨⟨r, u, hv, hp, hb⟩, hF⟩, st⟩ | ⟨q, st₀, t, T', L, E, ce, h0, X', hL, e1, e2, ⟨u, hp, hb, hF⟩, hce, hcv, hcl, st⟩
  · cases hv
    obtain ⟨k1, k2, k3⟩ := vx_keep h0 e1 hS hA hf hL hF
    obtain ⟨t2, a1, b1⟩ := kk r u t T'.heap (locs ++ L) e1.symm (by rw [← e2]; exact X'.warmed.alike) hp hb k1 k2 k3 T' rfl X'
    exact ⟨t2, st t2 a1, b1⟩
  · obtain ⟨k1, k2, k3⟩ := vx_keep h0 e1 hS hAX hf hL hF
    obtain ⟨t2, a1, b1⟩ := kx E ce q u t T'.heap (locs ++ L) e1.symm (by rw [← e2]; exact X'.warmed.alike) hp hb k1 k2 k3 (by rw [e1]; exact hce) hcv hcl T' rfl X'
    exact ⟨t2, st.trans a1, b1⟩
theorem vx_calld {S SX : Type} {post : UInt64 → S → Prop} {px : SX → Prop} {B : S → State → Prop} {BX : String → SX → State → Prop} {AX : Nat → Prop} (hr : vx_Run p l e R s m args below meth c H locs cells slots mc ms (F0 m pc ls st0) rest (va_Qd post B A1 a) (vx_X px BX AX) free) (hS : va_S A0 H0 H locs) (hA : ∀ q, q < H.size → A1 q → A0 q) (hf : ∀ q, free q → A0 q) (hAX : ∀ q, q < H.size → AX q → A0 q)
    (kx : ∀ (E : String) (ce : Cell) (q9 : Addr) (u : SX) (t : State) (H1 : Heap) (locs1 : List Loc), t.heap = H1 → s.vm.Alike t.vm → px u → BX E u t → H.size ≤ H1.size → (∀ q : Nat, q < H.size → ¬ AX q → H1[q]? = H[q]?) → va_S A0 H0 H1 locs1 → H1[q9]? = some ce → ce.vm = .none → s.vm.findClass E = some ce.cls → vx_W p l e R s m args below meth c H1 locs1 (cells + mc) (slots + ms) Q (F0 m pc ls rest) q9)
    (kk : ∀ (r : UInt64) (u : S) (t : State) (H1 : Heap) (locs1 : List Loc), t.heap = H1 → s.vm.Alike t.vm → post r u → B u t → H.size ≤ H1.size → (∀ q : Nat, q < H.size → ¬ A1 q → H1[q]? = H[q]?) → va_S A0 H0 H1 locs1 → W p l e R s m args below meth c H1 locs1 (cells + mc) (slots + ms) Q (F0 m (pc + 3) ls (.double r :: rest))) : W p l e R s m args below meth c H locs cells slots Q (F0 m pc ls st0) := by
  intro T hT X
  rcases hr T hT X with ⟨v, st₀, t, T', L, h0, X', hL, e1, e2, ⟨⟨r, u, hv, hp, hb⟩, hF⟩, st⟩ | ⟨q, st₀, t, T', L, E, ce, h0, X', hL, e1, e2, ⟨u, hp, hb, hF⟩, hce, hcv, hcl, st⟩
  · cases hv
    obtain ⟨k1, k2, k3⟩ := vx_keep h0 e1 hS hA hf hL hF
    obtain ⟨t2, a1, b1⟩ := kk r u t T'.heap (locs ++ L) e1.symm (by rw [← e2]; exact X'.warmed.alike) hp hb k1 k2 k3 T' rfl X'
    exact ⟨t2, st t2 a1, b1⟩
  · obtain ⟨k1, k2, k3⟩ := vx_keep h0 e1 hS hAX hf hL hF
    obtain ⟨t2, a1, b1⟩ := kx E ce q u t T'.heap (locs ++ L) e1.symm (by rw [← e2]; exact X'.warmed.alike) hp hb k1 k2 k3 (by rw [e1]; exact hce) hcv hcl T' rfl X'
    exact ⟨t2, st.trans a1, b1⟩
theorem vx_callv {S SX : Type} {post : S → Prop} {px : SX → Prop} {B : S → State → Prop} {BX : String → SX → State → Prop} {AX : Nat → Prop} (hr : vx_Run p l e R s m args below meth c H locs cells slots mc ms (F0 m pc ls st0) rest (va_Qv post B A1 a) (vx_X px BX AX) free) (hS : va_S A0 H0 H locs) (hA : ∀ q, q < H.size → A1 q → A0 q) (hf : ∀ q, free q → A0 q) (hAX : ∀ q, q < H.size → AX q → A0 q)
    (kx : ∀ (E : String) (ce : Cell) (q9 : Addr) (u : SX) (t : State) (H1 : Heap) (locs1 : List Loc), t.heap = H1 → s.vm.Alike t.vm → px u → BX E u t → H.size ≤ H1.size → (∀ q : Nat, q < H.size → ¬ AX q → H1[q]? = H[q]?) → va_S A0 H0 H1 locs1 → H1[q9]? = some ce → ce.vm = .none → s.vm.findClass E = some ce.cls → vx_W p l e R s m args below meth c H1 locs1 (cells + mc) (slots + ms) Q (F0 m pc ls rest) q9)
    (kk : ∀ (u : S) (t : State) (H1 : Heap) (locs1 : List Loc), t.heap = H1 → s.vm.Alike t.vm → post u → B u t → H.size ≤ H1.size → (∀ q : Nat, q < H.size → ¬ A1 q → H1[q]? = H[q]?) → va_S A0 H0 H1 locs1 → W p l e R s m args below meth c H1 locs1 (cells + mc) (slots + ms) Q (F0 m (pc + 3) ls (rest))) : W p l e R s m args below meth c H locs cells slots Q (F0 m pc ls st0) := by
  intro T hT X
  rcases hr T hT X with ⟨v, st₀, t, T', L, h0, X', hL, e1, e2, ⟨⟨u, hv, hp, hb⟩, hF⟩, st⟩ | ⟨q, st₀, t, T', L, E, ce, h0, X', hL, e1, e2, ⟨u, hp, hb, hF⟩, hce, hcv, hcl, st⟩
  · cases hv
    obtain ⟨k1, k2, k3⟩ := vx_keep h0 e1 hS hA hf hL hF
    obtain ⟨t2, a1, b1⟩ := kk u t T'.heap (locs ++ L) e1.symm (by rw [← e2]; exact X'.warmed.alike) hp hb k1 k2 k3 T' rfl X'
    exact ⟨t2, st t2 a1, b1⟩
  · obtain ⟨k1, k2, k3⟩ := vx_keep h0 e1 hS hAX hf hL hF
    obtain ⟨t2, a1, b1⟩ := kx E ce q u t T'.heap (locs ++ L) e1.symm (by rw [← e2]; exact X'.warmed.alike) hp hb k1 k2 k3 (by rw [e1]; exact hce) hcv hcl T' rfl X'
    exact ⟨t2, st.trans a1, b1⟩
/-- caught by the row x of this method's table; the rows ahead don't take it -/
theorem vx_catch {own name : String} {E : String} {ce : Cell} {q : Addr} (hown : s.vm.findClass own = some m.cls) (pre : List ExceptionTableEntry) (x : ExceptionTableEntry) (suf : List ExceptionTableEntry) (hsplit : c.exceptionTable.toList = pre ++ x :: suf)
    (hpass : ∀ z ∈ pre, covers z pc = false ∨ (z.catchType ≠ 0 ∧ ∃ nm : String, (Cond.classLink own z.catchType nm).before args s = true ∧ va_Nc E nm s)) (hx : covers x pc = true) (h0 : x.catchType ≠ 0)
    (hlink : (Cond.classLink own x.catchType name).before args s = true) (hcast : (Cond.castable E name).before args s = true) (hcell : H[q]? = some ce) (hv : ce.vm = .none) (hcl : s.vm.findClass E = some ce.cls)
    (kk : W p l e R s m args below meth c H locs cells slots Q (F0 m x.handlerPc ls [.ref q])) : vx_W p l e R s m args below meth c H locs cells slots Q (F0 m pc ls rest) q := by
  intro T hT X
  have hpl : e.platform.magicAccessors = ({} : Platform).magicAccessors := by rw [X.admits.platform]
  obtain ⟨c3, c4, hc3, hc4, hasg⟩ := Cond.castable_spec hcast
  cases Option.some.inj (hc3.symm.trans hcl)
  obtain ⟨c5, hc5, hcl5⟩ := Cond.classLink_spec hown hlink e.platform hpl
  cases Option.some.inj (hc4.symm.trans hc5)
  obtain ⟨vm', X', st⟩ := X.thenCaughtThrough q (g := F0 m pc ls rest) rfl (Steps.refl _) (by rw [hT]; exact hcell) (by rw [hv]; rfl) (by obtain ⟨k9, h9, -⟩ := Vm.findClass_spec hcl; exact ⟨k9, h9⟩) pre x suf hsplit
    (fun z hz => by
      rcases hpass z hz with h | ⟨hz0, nm, hl1, hn1⟩
      · exact Or.inl h
      · obtain ⟨c6, hc6, hcl6⟩ := Cond.classLink_spec hown hl1 e.platform hpl
        obtain ⟨a8, b8, h1, h2, h3⟩ := hn1
        cases Option.some.inj (h1.symm.trans hcl)
        cases Option.some.inj (h2.symm.trans hc6)
        exact Or.inr ⟨hz0, _, hcl6, h3⟩) hx (Or.inr ⟨h0, c4, hcl5, hasg⟩)
  obtain ⟨t, a1, b1⟩ := kk (T.setVm vm') hT X'
  exact ⟨t, st.trans a1, b1⟩
end Rows
section Ends
variable {p : Program} {l : Launch} {e : Env} {R : Room} {s : State} {m : MethodId} {args : Array Value} {below : List Frame} {meth : Method} {c : Code} {H : Heap} {locs : List Loc} {cells slots : Nat} {Q : State → Prop}
variable {mc ms : Nat} {free : Addr → Prop} {A0 A1 : Nat → Prop} {H0 : Heap} {a : Array Value} {ls : Array Slot} {st0 rest : List Value}
variable {Qc : Array Value → State → Outcome → State → Prop} {XC : String → State → State → Prop}
/-- what a body that may throw owes at its end -/
def vx_MQ (below : List Frame) (Qc : Array Value → State → Outcome → State → Prop) (XC : String → State → State → Prop) (a : Array Value) (s : State) (mc ms : Nat) (free : Addr → Prop) : State → Prop := fun t =>
  ∃ o, t.status = .running ∧ Ended t below o ∧ vx_Q Qc XC mc ms free a s o t
theorem vx_ret {g : JFrame} {mc ms : Nat} (k : W p l e R s m args below meth c H locs cells slots (MQ below Qc args s mc ms free) g) : W p l e R s m args below meth c H locs cells slots (vx_MQ below Qc XC args s mc ms free) g := by
  intro T hT X
  obtain ⟨t, a1, o, b1, b2, b3, b4⟩ := k T hT X
  exact ⟨t, a1, o, b1, b2, Or.inl ⟨b3, b4⟩⟩
/-- not caught here: it goes on to the caller -/
theorem vx_widen {g : JFrame} {q : Addr} {k n : Nat} (h1 : cells ≤ k) (h2 : slots ≤ n) (kk : vx_W p l e R s m args below meth c H locs k n Q g q) : vx_W p l e R s m args below meth c H locs cells slots Q g q := fun T hT X => kk T hT (stand_widen X h1 h2)
theorem vx_out {pc : Nat} {E : String} {ce : Cell} {q : Addr} {mc ms : Nat} (hout : ∀ x ∈ c.exceptionTable.toList, covers x pc = false) (hlocks : meth.locks = false) (hcell : H[q]? = some ce) (hv : ce.vm = .none) (hcl : s.vm.findClass E = some ce.cls)
    (hx : ∀ t : State, t.heap = H → s.vm.Alike t.vm → XC E s t) (hf : ∀ z ∈ locs, free z.base) (hc : cells ≤ mc) (hs : slots ≤ ms) :
    vx_W p l e R s m args below meth c H locs cells slots (vx_MQ below Qc XC args s mc ms free) (F0 m pc ls rest) q := by
  intro T hT X
  obtain ⟨st1, hrun, hend, hW, hsm⟩ := X.leaveThrown q (g := F0 m pc ls rest) rfl rfl rfl hout hlocks
  have hcell9 : (T.setFrames (.throwing q :: below)).heap[q]? = some ce := by
    show T.heap[q]? = some ce
    rw [hT]; exact hcell
  exact ⟨_, st1, .threw q, hrun, hend, Or.inr ⟨q, rfl, E, ce, locs, hx _ hT hW.alike, hcell9, hv, hcl, hW, hsm.mono hc hs, hf⟩⟩
theorem vx_frame {U : State} {k n : Nat} (h : s.sameButNew ({ U with vm := s.vm } : State) locs k n) : s.heap.size ≤ U.heap.size ∧ ∀ q : Nat, q < s.heap.size → (∀ z ∈ locs, z.base ≠ q) → U.heap[q]? = s.heap[q]? := by
  obtain ⟨-, h2, -, -, -, h6⟩ := h
  refine ⟨h2, fun q hq hz => ?_⟩
  obtain ⟨c9, e1, e2, e3, e4⟩ := h6 q _ (Array.getElem?_eq_getElem hq)
  have hs : c9.slots = (s.heap[q]).slots := Array.ext_getElem? fun i => e4 i fun hm => hz _ hm rfl
  have h9 : c9 = s.heap[q] := by
    rw [hs] at e2
    exact e2
  have e5 : U.heap[q]? = some c9 := e1
  rw [e5, h9, Array.getElem?_eq_getElem hq]
/-- the words of a throw but the four that speak of the heap -/
def vx_no (w : Cond) : Bool := decide (w ≠ .isRef (.static Bundle.tN "UNASSIGNED_STACK" Bundle.steD)) && decide (w ≠ .isRef (.static Bundle.tN "SUPPRESSED_SENTINEL" Bundle.listD)) && decide (w ≠ .laysStatic Bundle.tN "UNASSIGNED_STACK" Bundle.steD) && decide (w ≠ .laysStatic Bundle.tN "SUPPRESSED_SENTINEL" Bundle.listD)
def vx_at0 (own : String) (ic : Nat) (X : String) (names : List String) : List Cond := (Bundle.ownAtoms0 own ic X names).filter vx_no
def vx_atS (own : String) (ic : Nat) (X : String) (names : List String) : List Cond := (Bundle.ownAtoms own ic X names).filter vx_no
/-- a word that the tables alone decide, or a good one -/
def vx_ot (w : Cond) : Bool := w.onTables || goodWord w
theorem vx_ot_at {args a' : Array Value} {s U : State} {w : Cond} (hW : s.WarmedH U.vm) (hvm : s.vm = U.vm) (hg : vx_ot w = true) (h : w.before args s = true) : w.before a' U = true := by
  simp only [vx_ot, Bool.or_eq_true] at hg
  rcases hg with hg | hg
  · exact va_tabs hg hvm h
  · exact word_at hW (good_of_word hg) h
/-- a list's words: the good ones out of the method's own list, the others by premises of their own -/
theorem vx_hat {args : Array Value} {s : State} {L B : List Cond} (h1 : ∀ w ∈ L.filter goodWord, w.before args s = true) (h2 : ∀ w ∈ L.filter (fun w => !goodWord w), w ∈ B) (h3 : ∀ w ∈ B, w.before args s = true) : ∀ w ∈ L, w.before args s = true := by
  intro w hw
  by_cases g : goodWord w = true
  · exact h1 w (List.mem_filter.mpr ⟨hw, g⟩)
  · refine h3 w (h2 w (List.mem_filter.mpr ⟨hw, ?_⟩))
    show (!goodWord w) = true
    cases hgw : goodWord w
    · rfl
    · exact absurd hgw g
theorem vx_c {args : Array Value} {s : State} {w : Cond} {B : List Cond} (h : w.before args s = true) (t : ∀ w ∈ B, w.before args s = true) : ∀ w' ∈ w :: B, w'.before args s = true := fun w' h' => (List.mem_cons.mp h').elim (fun e => by rw [e]; exact h) (t w')
theorem vx_n {args : Array Value} {s : State} : ∀ w ∈ ([] : List Cond), w.before args s = true := fun _ h => nomatch h
theorem vx_own {args : Array Value} {s : State} {L : List Cond} (h1 : ∀ w ∈ L.filter vx_no, w.before args s = true)
    (hU : (Cond.isRef (.static Bundle.tN "UNASSIGNED_STACK" Bundle.steD)).before args s = true) (hN : (Cond.isRef (.static Bundle.tN "SUPPRESSED_SENTINEL" Bundle.listD)).before args s = true)
    (lU : (Cond.laysStatic Bundle.tN "UNASSIGNED_STACK" Bundle.steD).before args s = true) (lN : (Cond.laysStatic Bundle.tN "SUPPRESSED_SENTINEL" Bundle.listD).before args s = true) : ∀ w ∈ L, w.before args s = true := by
  intro w hw
  by_cases e1 : w = .isRef (.static Bundle.tN "UNASSIGNED_STACK" Bundle.steD)
  · rw [e1]; exact hU
  · by_cases e2 : w = .isRef (.static Bundle.tN "SUPPRESSED_SENTINEL" Bundle.listD)
    · rw [e2]; exact hN
    · by_cases e3 : w = .laysStatic Bundle.tN "UNASSIGNED_STACK" Bundle.steD
      · rw [e3]; exact lU
      · by_cases e4 : w = .laysStatic Bundle.tN "SUPPRESSED_SENTINEL" Bundle.listD
        · rw [e4]; exact lN
        · exact h1 w (List.mem_filter.mpr ⟨hw, by unfold vx_no; rw [decide_eq_true e1, decide_eq_true e2, decide_eq_true e3, decide_eq_true e4]; rfl⟩)
/-- where a static field lies, its class's statics cell in H -/
def vx_L (C n d : String) (A : Nat → Prop) (U : State) (H : Heap) : Prop := ∃ (c : ClassId) (k : Class) (i : Nat) (f : Field) (a : Nat) (cell : Cell), U.vm.findClass C = some c ∧ U.fieldFound? C n d = some (c, k, i, f) ∧ f.isStatic = true ∧ k.statics = some a ∧ H[a]? = some cell ∧ cell.vm.isStatics = true ∧ cell.cls = c ∧ f.slot < cell.slots.size ∧ k.staticTypes[f.slot]? = some f.type ∧ ¬ A a
theorem vx_L.moved {C n d : String} {A : Nat → Prop} {u U : State} {H : Heap} (hvm : u.vm.Alike U.vm) (h : vx_L C n d A u H) : vx_L C n d A U H := by
  obtain ⟨c, k, i, f, a, cell, h1, h2, h3, h4, h5, h6, h7, h8, h9, h10⟩ := h
  obtain ⟨k', hi', he⟩ := State.fieldFound?_setVm hvm h2
  exact ⟨c, k', i, f, a, cell, by rw [hvm.findClass]; exact h1, hi', h3, by rw [he]; exact h4, h5, h6, h7, h8, by rw [he]; exact h9, h10⟩
theorem vx_L.kept {C n d : String} {A : Nat → Prop} {U : State} {H H1 : Heap} (h : vx_L C n d A U H) (hq : ∀ a : Nat, a < H.size → ¬ A a → H1[a]? = H[a]?) : vx_L C n d A U H1 := by
  obtain ⟨c, k, i, f, a, cell, h1, h2, h3, h4, h5, h6, h7, h8, h9, h10⟩ := h
  exact ⟨c, k, i, f, a, cell, h1, h2, h3, h4, by rw [hq a (Array.getElem?_eq_some_iff.mp h5).1 h10]; exact h5, h6, h7, h8, h9, h10⟩
theorem vx_L.narrow {C n d : String} {A B : Nat → Prop} {U : State} {H : Heap} (h : vx_L C n d A U H) (hAB : ∀ q, B q → A q) : vx_L C n d B U H := by
  obtain ⟨c, k, i, f, a, cell, h1, h2, h3, h4, h5, h6, h7, h8, h9, h10⟩ := h
  exact ⟨c, k, i, f, a, cell, h1, h2, h3, h4, h5, h6, h7, h8, h9, fun z => h10 (hAB _ z)⟩
theorem vx_L.word {C n d : String} {A : Nat → Prop} {s : State} {args : Array Value} (h : vx_L C n d A s s.heap) : (Cond.laysStatic C n d).before args s = true := by
  obtain ⟨c, k, i, f, a, cell, h1, h2, h3, h4, h5, h6, h7, h8, h9, -⟩ := h
  show (Cond.laysStatic C n d).holds args s none s [] = true
  exact Cond.laysStatic_of h1 h2 h3 h4 h5 h6 h7 h8 h9
/-- .. and what it holds: null or some reference -/
def vx_Zq (C n d : String) (A : Nat → Prop) (U : State) (H : Heap) : Prop := va_Zq C n d A U H ∧ vx_L C n d A U H
theorem vx_Zq.moved {C n d : String} {A : Nat → Prop} {u U : State} {H : Heap} (hvm : u.vm.Alike U.vm) (h : vx_Zq C n d A u H) : vx_Zq C n d A U H := ⟨va_Zq.moved hvm h.1, vx_L.moved hvm h.2⟩
theorem vx_Zq.kept {C n d : String} {A : Nat → Prop} {U : State} {H H1 : Heap} (h : vx_Zq C n d A U H) (hq : ∀ a : Nat, a < H.size → ¬ A a → H1[a]? = H[a]?) : vx_Zq C n d A U H1 := ⟨va_Zq.kept h.1 hq, vx_L.kept h.2 hq⟩
theorem vx_Zq.narrow {C n d : String} {A B : Nat → Prop} {U : State} {H : Heap} (h : vx_Zq C n d A U H) (hAB : ∀ q, B q → A q) : vx_Zq C n d B U H := ⟨va_Zq.narrow h.1 hAB, vx_L.narrow h.2 hAB⟩
theorem vx_Zqof {args : Array Value} {s : State} {C n d : String} {A : Nat → Prop} (hl : (Cond.laysStatic C n d).before args s = true) (hini : (Cond.initialized C).before args s = true) (h : (Cond.isRef (.static C n d)).before args s = true) (hA : ∀ a : Nat, a < s.heap.size → ¬ A a) : vx_Zq C n d A s s.heap := by
  refine ⟨va_Zqof hl hini h hA, ?_⟩
  obtain ⟨c, k, i, f, a, cell, h1, h2, h3, h4, h5, h6, h7, h8, h9⟩ := Cond.laysStatic_spec hl
  exact ⟨c, k, i, f, a, cell, h1, h2, h3, h4, h5, h6, h7, h8, h9, hA a (Array.getElem?_eq_some_iff.mp h5).1⟩
theorem vx_isRef {C n d : String} {v : Value} {A : Nat → Prop} {s : State} {args : Array Value} (h : va_Z C n d v A s s.heap) (hv : v.isRef = true) : (Cond.isRef (.static C n d)).before args s = true := by
  obtain ⟨cf, kf, fi, f, a, cell, h1, h2, h3, h4, h5, h6, h7, -⟩ := h
  have he : (Term.static C n d).eval args s none [] s = some v := by
    simp [Term.eval, State.fieldNamed?, h1, h2, h4, h5, h6, h7]
  simp only [Cond.before, Cond.holds, Cond.value, he]
  cases v <;> simp_all [Value.isRef]
theorem vx_isRefq {C n d : String} {A : Nat → Prop} {s : State} {args : Array Value} (h : va_Zq C n d A s s.heap) : (Cond.isRef (.static C n d)).before args s = true := by
  rcases h with h | ⟨t, h⟩
  · exact vx_isRef h rfl
  · exact vx_isRef h rfl
/-- the same frame, seen from here: as if the method were called anew in this heap -/
theorem vx_rebase {T : State} (X : Stand p l e R s m args below meth c T locs cells slots) {R' : Room} (hf : R'.frames ≤ R.frames) (hl : R'.locals ≤ R.locals) (hc : cells + R'.cells ≤ R.cells) (hs : slots + R'.slots ≤ R.slots) :
    Stand p l e R' ((T.setVm s.vm).setFrames (.invoking m args :: below)) m args below meth c T [] 0 0 := by
  have htop : (T.setVm s.vm).topJava?.isSome := X.here.top
  have hF : ((T.setVm s.vm).setFrames (.invoking m args :: below)).frames = .invoking m args :: below := State.frames_setFrames _ (State.cur_lt_of_top htop)
  obtain ⟨g₀, hg0⟩ := Option.isSome_iff_exists.mp htop
  obtain ⟨r, hr⟩ := State.topJava?_eq_some.mp hg0
  have hl9 : e.platform.stackLimits (T.setVm s.vm).me = e.platform.stackLimits s.me := X.limits
  have hb9 : (T.setVm s.vm).me.stackBytes = s.me.stackBytes := X.bytes
  refine ⟨X.admits, X.cas, X.clock, hF, ?_, X.hears, X.method, X.code, X.here, X.tail, X.warmed, ?_, ?_, ?_⟩
  · have h := X.room
    have hU : ((T.setVm s.vm).setFrames (.invoking m args :: below)).localsInUse = s.localsInUse := by
      rw [State.localsInUse_invoking hF (meth := meth) (c := c) X.method X.code, State.localsInUse_invoking X.frames X.method X.code]
    simp only [State.hasRoom, Bool.and_eq_true, decide_eq_true_eq] at h ⊢
    obtain ⟨⟨⟨⟨h1, h2, h3, h4, h5, h6⟩, h7⟩, h8⟩, h9⟩ := h
    rw [X.frames, List.length_cons] at h2 h3
    have q1 := X.heapSize
    have q2 := X.used
    simp only [hF, hU, List.length_cons, State.stackLimits_setFrames, State.stackBytes_setFrames, hl9, hb9]
    refine ⟨⟨⟨⟨by omega, by omega, by omega, by omega, by omega, h6⟩, ?_⟩, ?_⟩, X.book⟩
    · show T.heap.size + R'.cells ≤ e.platform.maxCells
      omega
    · show T.slotsUsed + R'.slots ≤ e.platform.maxSlots
      omega
  · rw [State.stackLimits_setFrames]; rfl
  · rw [State.stackBytes_setFrames]; rfl
  · refine ⟨?_, Nat.le_refl _, Nat.le_refl _, ?_, ?_, fun a c9 h9 => ⟨c9, h9, rfl, rfl, fun _ _ => rfl⟩⟩
    · obtain ⟨t, ht, -⟩ := State.frames_cons hr
      show T.setVm s.vm = { ((T.setVm s.vm).setFrames (.invoking m args :: below)).setFrames (T.setVm s.vm).frames with heap := T.heap, slotsUsed := T.slotsUsed }
      rw [State.setFrames_setFrames, State.setFrames_self ht]
      rfl
    · show T.slotsUsed = T.slotsUsed + ((T.heap.toList.drop T.heap.size).map (·.slots.size)).sum
      rw [List.drop_eq_nil_of_le (Nat.le_of_eq Array.length_toList)]
      rfl
    · show ((T.heap.toList.drop T.heap.size).map (·.slots.size)).sum ≤ 0
      rw [List.drop_eq_nil_of_le (Nat.le_of_eq Array.length_toList)]
      exact Nat.le_refl _
/-- 'throw new E()': new; dup; invokespecial; athrow -/
theorem vx_throw0 {cc : ByteArray} {pc : Nat} (hexec : p.tables.exec = Jvm.exec) (hb : c.code = cc) (hl : l.stackTraces = false) {own cls : String} {names : List String} {ik ic mc ms : Nat} {A : Nat → Prop}
    (hown : s.vm.findClass own = some m.cls) (hcls : Bundle.fit cls = true) (hnames : ∀ n ∈ names, Bundle.fit n = true)
    (hk : (Cond.classLink own ik cls).before args s = true) (hini : (Cond.initialized cls).before args s = true) (hat : ∀ w ∈ vx_at0 own ic cls names, w.before args s = true)
    (hgood : ∀ w ∈ Cond.classLink own ik cls :: Cond.initialized cls :: vx_at0 own ic cls names, vx_ot w = true)
    (hU : vx_Zq Bundle.tN "UNASSIGNED_STACK" Bundle.steD A s s.heap) (hN : vx_Zq Bundle.tN "SUPPRESSED_SENTINEL" Bundle.listD A s s.heap) (hS : va_S A s.heap H locs) (hsize : ls.size = c.maxLocals)
    (d0 : decode cc pc = .ok (.new ik, 3)) (d3 : decode cc (pc + 3) = .ok (.dup, 1)) (d4 : decode cc (pc + 4) = .ok (.invokespecial ic, 3)) (d7 : decode cc (pc + 7) = .ok (.athrow, 1))
    (hout : ∀ x ∈ c.exceptionTable.toList, covers x (pc + 7) = false)
    (hRframes : names.length + 3 < R.frames) (hRlocals : (rest.map fun v => v.category).sum + (13 * (names.length + 1) + 42) ≤ R.locals) (hRcells : cells + 1 ≤ R.cells) (hRslots : slots + 6 ≤ R.slots) (hlocks : meth.locks = false)
    (hx : ∀ t : State, s.vm.Alike t.vm → H.size ≤ t.heap.size → (∀ q : Nat, q < H.size → t.heap[q]? = H[q]?) → XC cls s t)
    (hf : ∀ z ∈ locs, free z.base) (hc : cells + 1 ≤ mc) (hs : slots + 6 ≤ ms) :
    W p l e R s m args below meth c H locs cells slots (vx_MQ below Qc XC args s mc ms free) (F0 m pc ls rest) := by
  intro T hT X
  have htr : e.platform.stackTraces = false := (show e.platform.stackTraces = l.stackTraces by rw [X.admits.platform]).trans hl
  have Y := vx_rebase X (R' := { frames := R.frames, locals := R.locals, cells := 1, slots := 6 }) (Nat.le_refl _) (Nat.le_refl _) hRcells hRslots
  obtain ⟨s', hA⟩ : ∃ z, z = (T.setVm s.vm).setFrames (.invoking m args :: below) := ⟨_, rfl⟩
  rw [← hA] at Y
  have hvm : s'.vm = s.vm := by rw [hA]; rfl
  have hhp : s'.heap = H := by rw [hA]; exact hT
  have hW0 : s.WarmedH s'.vm := by rw [hvm]; exact State.WarmedH.refl s
  have hat' : ∀ w ∈ vx_at0 own ic cls names, w.before args s' = true := fun w hw => vx_ot_at hW0 hvm.symm (hgood w (List.mem_cons_of_mem _ (List.mem_cons_of_mem _ hw))) (hat w hw)
  have hk' : (Cond.classLink own ik cls).before args s' = true := vx_ot_at hW0 hvm.symm (hgood _ List.mem_cons_self) hk
  have hini' : (Cond.initialized cls).before args s' = true := vx_ot_at hW0 hvm.symm (hgood _ (List.mem_cons_of_mem _ List.mem_cons_self)) hini
  have hU' : vx_Zq Bundle.tN "UNASSIGNED_STACK" Bundle.steD A s' s'.heap := by rw [hhp]; exact vx_Zq.moved hW0.alike (hU.kept hS.2.1)
  have hN' : vx_Zq Bundle.tN "SUPPRESSED_SENTINEL" Bundle.listD A s' s'.heap := by rw [hhp]; exact vx_Zq.moved hW0.alike (hN.kept hS.2.1)
  have h : ∀ w ∈ Bundle.ownAtoms0 own ic cls names, w.before args s' = true := vx_own hat' (vx_isRefq hU'.1) (vx_isRefq hN'.1) hU'.2.word hN'.2.word
  have hown' : s'.vm.findClass own = some m.cls := by rw [hvm]; exact hown
  have hins : (Cond.instantiable cls 6).before args s' = true := h _ (by simp [Bundle.ownAtoms0])
  obtain ⟨vm₁, cX, kX, hfX, hkX, -, -, X₁, st1⟩ := Y.newCold hexec (own := own) (C := cls) (index := ik) (n := 6) hown' hk' hins hini'
    (g := F0 m pc ls rest) rfl (by rw [hb]; exact d0) (Nat.le_refl _) (Nat.le_refl _)
  generalize hT1 : (T.setVm vm₁).pushCell { cls := cX, slots := kX.instanceTypes.map defaultValue, vm := .none } = T1 at X₁ st1
  have hcat : (Value.ref T.heap.size).category = 1 := rfl
  have hcellA : T1.heap[T.heap.size]? = some (freshCell cX kX) := by rw [← hT1]; exact State.heap_pushCell_size _ _
  have d3' : decode c.code (pc + 3) = .ok (.dup, 1) := by rw [hb]; exact d3
  obtain ⟨U, hsteps, hrun, hend, hW, hsame, ce, hce, hO⟩ := X₁.ctorThrow0 hexec htr (own := own) (cls := cls) (names := names) (ic := ic) hown' hcls hnames h (fun x hx => nomatch hx) hfX hkX hcellA (by rw [hhp, hT]; exact Nat.le_refl _)
    (g := { method := m, pc := pc + 4, locals := ls, stack := .ref T.heap.size :: .ref T.heap.size :: rest, locked := none }) rfl hsize rfl rfl (rest := rest) rfl
    (by rw [hb]; exact d4) (by rw [hb]; exact d7) hout hRframes (by simp only [List.map_cons, List.sum_cons, hcat]; omega) hlocks
  obtain ⟨f1, f2⟩ := vx_frame hsame
  rw [hhp] at f1 f2
  have hWs : s.WarmedH U.vm := State.WarmedH.trans hW0 hW
  have hcl : s.vm.findClass cls = some ce.cls := by
    have h9 := hO.cls
    rw [hvm] at h9
    exact h9
  have hall : s.sameButNew ({ U with vm := s.vm } : State) locs mc ms := by
    subst hA
    obtain ⟨e1, e2⟩ := hsame
    rw [State.setFrames_setFrames] at e1
    have h2 : (T.setVm s.vm).sameButNew ({ U with vm := s.vm } : State) [] (0 + 1) (0 + 6) := ⟨e1, e2⟩
    have h3 := X.same.trans h2
    rw [List.append_nil] at h3
    exact h3.mono hc hs
  refine ⟨U, ?_, .threw T.heap.size, hrun, hend, Or.inr ⟨T.heap.size, rfl, cls, ce, locs, hx U hWs.alike f1 (fun q hq => f2 q hq (fun z hz => nomatch hz)), hce, hO.vm, hcl, hWs, hall, hf⟩⟩
  refine st1 _ ?_
  show Steps p.tables e below (T1.setTop { method := m, pc := pc + 3, locals := ls, stack := .ref T.heap.size :: rest, locked := none }) _
  jvm_step X₁.here [X₁.here.top, hexec, d3', Value.category]
  exact hsteps
/-- 'throw new E("text")': new; dup; ldc; invokespecial; athrow -/
theorem vx_throwS {cc : ByteArray} {pc : Nat} (hexec : p.tables.exec = Jvm.exec) (hb : c.code = cc) (hl : l.stackTraces = false) {own cls text : String} {names : List String} {ik is ic mc ms sa : Nat} {A : Nat → Prop}
    (hown : s.vm.findClass own = some m.cls) (hcls : Bundle.fit cls = true) (hnames : ∀ n ∈ names, Bundle.fit n = true)
    (hk : (Cond.classLink own ik cls).before args s = true) (hini : (Cond.initialized cls).before args s = true) (hstr : vk_R own is text sa s) (hat : ∀ w ∈ vx_atS own ic cls names, w.before args s = true)
    (hgood : ∀ w ∈ Cond.classLink own ik cls :: Cond.initialized cls :: vx_atS own ic cls names, vx_ot w = true)
    (hU : vx_Zq Bundle.tN "UNASSIGNED_STACK" Bundle.steD A s s.heap) (hN : vx_Zq Bundle.tN "SUPPRESSED_SENTINEL" Bundle.listD A s s.heap) (hS : va_S A s.heap H locs) (hsize : ls.size = c.maxLocals)
    (d0 : decode cc pc = .ok (.new ik, 3)) (d3 : decode cc (pc + 3) = .ok (.dup, 1)) (d4 : decode cc (pc + 4) = .ok (.ldc is, 2)) (d6 : decode cc (pc + 6) = .ok (.invokespecial ic, 3)) (d9 : decode cc (pc + 9) = .ok (.athrow, 1))
    (hout : ∀ x ∈ c.exceptionTable.toList, covers x (pc + 9) = false)
    (hRframes : names.length + 3 < R.frames) (hRlocals : (rest.map fun v => v.category).sum + (13 * (names.length + 1) + 43) ≤ R.locals) (hRcells : cells + 1 ≤ R.cells) (hRslots : slots + 6 ≤ R.slots) (hlocks : meth.locks = false)
    (hx : ∀ t : State, s.vm.Alike t.vm → H.size ≤ t.heap.size → (∀ q : Nat, q < H.size → t.heap[q]? = H[q]?) → XC cls s t)
    (hf : ∀ z ∈ locs, free z.base) (hc : cells + 1 ≤ mc) (hs : slots + 6 ≤ ms) :
    W p l e R s m args below meth c H locs cells slots (vx_MQ below Qc XC args s mc ms free) (F0 m pc ls rest) := by
  intro T hT X
  have htr : e.platform.stackTraces = false := (show e.platform.stackTraces = l.stackTraces by rw [X.admits.platform]).trans hl
  have Y := vx_rebase X (R' := { frames := R.frames, locals := R.locals, cells := 1, slots := 6 }) (Nat.le_refl _) (Nat.le_refl _) hRcells hRslots
  obtain ⟨s', hA⟩ : ∃ z, z = (T.setVm s.vm).setFrames (.invoking m args :: below) := ⟨_, rfl⟩
  rw [← hA] at Y
  have hvm : s'.vm = s.vm := by rw [hA]; rfl
  have hhp : s'.heap = H := by rw [hA]; exact hT
  have hW0 : s.WarmedH s'.vm := by rw [hvm]; exact State.WarmedH.refl s
  have hat' : ∀ w ∈ vx_atS own ic cls names, w.before args s' = true := fun w hw => vx_ot_at hW0 hvm.symm (hgood w (List.mem_cons_of_mem _ (List.mem_cons_of_mem _ hw))) (hat w hw)
  have hk' : (Cond.classLink own ik cls).before args s' = true := vx_ot_at hW0 hvm.symm (hgood _ List.mem_cons_self) hk
  have hini' : (Cond.initialized cls).before args s' = true := vx_ot_at hW0 hvm.symm (hgood _ (List.mem_cons_of_mem _ List.mem_cons_self)) hini
  have hU' : vx_Zq Bundle.tN "UNASSIGNED_STACK" Bundle.steD A s' s'.heap := by rw [hhp]; exact vx_Zq.moved hW0.alike (hU.kept hS.2.1)
  have hN' : vx_Zq Bundle.tN "SUPPRESSED_SENTINEL" Bundle.listD A s' s'.heap := by rw [hhp]; exact vx_Zq.moved hW0.alike (hN.kept hS.2.1)
  have h : ∀ w ∈ Bundle.ownAtoms own ic cls names, w.before args s' = true := vx_own hat' (vx_isRefq hU'.1) (vx_isRefq hN'.1) hU'.2.word hN'.2.word
  have hown' : s'.vm.findClass own = some m.cls := by rw [hvm]; exact hown
  have hins : (Cond.instantiable cls 6).before args s' = true := h _ (by simp [Bundle.ownAtoms])
  obtain ⟨vm₁, cX, kX, hfX, hkX, -, -, X₁, st1⟩ := Y.newCold hexec (own := own) (C := cls) (index := ik) (n := 6) hown' hk' hins hini'
    (g := F0 m pc ls rest) rfl (by rw [hb]; exact d0) (Nat.le_refl _) (Nat.le_refl _)
  generalize hT1 : (T.setVm vm₁).pushCell { cls := cX, slots := kX.instanceTypes.map defaultValue, vm := .none } = T1 at X₁ st1
  have hcat : (Value.ref T.heap.size).category = 1 := rfl
  have hcellA : T1.heap[T.heap.size]? = some (freshCell cX kX) := by rw [← hT1]; exact State.heap_pushCell_size _ _
  have d3' : decode c.code (pc + 3) = .ok (.dup, 1) := by rw [hb]; exact d3
  have d4' : decode c.code (pc + 4) = .ok (.ldc is, 2) := by rw [hb]; exact d4
  have hstr' : vk_R own is text sa s' := vk_R.warm hW0 hstr
  obtain ⟨U, hsteps, hrun, hend, hW, hsame, ce, hce, hO⟩ := X₁.ctorThrowS hexec htr (own := own) (cls := cls) (names := names) (ic := ic) hown' hcls hnames h (fun x hx => nomatch hx) hfX hkX hcellA (by rw [hhp, hT]; exact Nat.le_refl _) (msg := .ref sa) rfl
    (g := { method := m, pc := pc + 6, locals := ls, stack := .ref sa :: .ref T.heap.size :: .ref T.heap.size :: rest, locked := none }) rfl hsize rfl rfl (rest := rest) rfl
    (by rw [hb]; exact d6) (by rw [hb]; exact d9) hout hRframes (by simp only [List.map_cons, List.sum_cons, hcat]; omega) hlocks
  obtain ⟨f1, f2⟩ := vx_frame hsame
  rw [hhp] at f1 f2
  have hWs : s.WarmedH U.vm := State.WarmedH.trans hW0 hW
  have hcl : s.vm.findClass cls = some ce.cls := by
    have h9 := hO.cls
    rw [hvm] at h9
    exact h9
  have hall : s.sameButNew ({ U with vm := s.vm } : State) locs mc ms := by
    subst hA
    obtain ⟨e1, e2⟩ := hsame
    rw [State.setFrames_setFrames] at e1
    have h2 : (T.setVm s.vm).sameButNew ({ U with vm := s.vm } : State) [] (0 + 1) (0 + 6) := ⟨e1, e2⟩
    have h3 := X.same.trans h2
    rw [List.append_nil] at h3
    exact h3.mono hc hs
  refine ⟨U, ?_, .threw T.heap.size, hrun, hend, Or.inr ⟨T.heap.size, rfl, cls, ce, locs, hx U hWs.alike f1 (fun q hq => f2 q hq (fun z hz => nomatch hz)), hce, hO.vm, hcl, hWs, hall, hf⟩⟩
  refine st1 _ ?_
  show Steps p.tables e below (T1.setTop { method := m, pc := pc + 3, locals := ls, stack := .ref T.heap.size :: rest, locked := none }) _
  jvm_step X₁.here [X₁.here.top, hexec, d3', Value.category]
  exact X₁.ldcString hexec (own := own) (text := text) (index := is) (a := sa) hown' hstr'.1 hstr'.2
    (g := { method := m, pc := pc + 4, locals := ls, stack := .ref T.heap.size :: .ref T.heap.size :: rest, locked := none }) rfl d4' _ hsteps
/-- 'throw new E("text")', the text by a wide index -/
theorem vx_throwSW {cc : ByteArray} {pc : Nat} (hexec : p.tables.exec = Jvm.exec) (hb : c.code = cc) (hl : l.stackTraces = false) {own cls text : String} {names : List String} {ik is ic mc ms sa : Nat} {A : Nat → Prop}
    (hown : s.vm.findClass own = some m.cls) (hcls : Bundle.fit cls = true) (hnames : ∀ n ∈ names, Bundle.fit n = true)
    (hk : (Cond.classLink own ik cls).before args s = true) (hini : (Cond.initialized cls).before args s = true) (hstr : vk_R own is text sa s) (hat : ∀ w ∈ vx_atS own ic cls names, w.before args s = true)
    (hgood : ∀ w ∈ Cond.classLink own ik cls :: Cond.initialized cls :: vx_atS own ic cls names, vx_ot w = true)
    (hU : vx_Zq Bundle.tN "UNASSIGNED_STACK" Bundle.steD A s s.heap) (hN : vx_Zq Bundle.tN "SUPPRESSED_SENTINEL" Bundle.listD A s s.heap) (hS : va_S A s.heap H locs) (hsize : ls.size = c.maxLocals)
    (d0 : decode cc pc = .ok (.new ik, 3)) (d3 : decode cc (pc + 3) = .ok (.dup, 1)) (d4 : decode cc (pc + 4) = .ok (.ldc_w is, 3)) (d7 : decode cc (pc + 7) = .ok (.invokespecial ic, 3)) (d10 : decode cc (pc + 10) = .ok (.athrow, 1))
    (hout : ∀ x ∈ c.exceptionTable.toList, covers x (pc + 10) = false)
    (hRframes : names.length + 3 < R.frames) (hRlocals : (rest.map fun v => v.category).sum + (13 * (names.length + 1) + 43) ≤ R.locals) (hRcells : cells + 1 ≤ R.cells) (hRslots : slots + 6 ≤ R.slots) (hlocks : meth.locks = false)
    (hx : ∀ t : State, s.vm.Alike t.vm → H.size ≤ t.heap.size → (∀ q : Nat, q < H.size → t.heap[q]? = H[q]?) → XC cls s t)
    (hf : ∀ z ∈ locs, free z.base) (hc : cells + 1 ≤ mc) (hs : slots + 6 ≤ ms) :
    W p l e R s m args below meth c H locs cells slots (vx_MQ below Qc XC args s mc ms free) (F0 m pc ls rest) := by
  intro T hT X
  have htr : e.platform.stackTraces = false := (show e.platform.stackTraces = l.stackTraces by rw [X.admits.platform]).trans hl
  have Y := vx_rebase X (R' := { frames := R.frames, locals := R.locals, cells := 1, slots := 6 }) (Nat.le_refl _) (Nat.le_refl _) hRcells hRslots
  obtain ⟨s', hA⟩ : ∃ z, z = (T.setVm s.vm).setFrames (.invoking m args :: below) := ⟨_, rfl⟩
  rw [← hA] at Y
  have hvm : s'.vm = s.vm := by rw [hA]; rfl
  have hhp : s'.heap = H := by rw [hA]; exact hT
  have hW0 : s.WarmedH s'.vm := by rw [hvm]; exact State.WarmedH.refl s
  have hat' : ∀ w ∈ vx_atS own ic cls names, w.before args s' = true := fun w hw => vx_ot_at hW0 hvm.symm (hgood w (List.mem_cons_of_mem _ (List.mem_cons_of_mem _ hw))) (hat w hw)
  have hk' : (Cond.classLink own ik cls).before args s' = true := vx_ot_at hW0 hvm.symm (hgood _ List.mem_cons_self) hk
  have hini' : (Cond.initialized cls).before args s' = true := vx_ot_at hW0 hvm.symm (hgood _ (List.mem_cons_of_mem _ List.mem_cons_self)) hini
  have hU' : vx_Zq Bundle.tN "UNASSIGNED_STACK" Bundle.steD A s' s'.heap := by rw [hhp]; exact vx_Zq.moved hW0.alike (hU.kept hS.2.1)
  have hN' : vx_Zq Bundle.tN "SUPPRESSED_SENTINEL" Bundle.listD A s' s'.heap := by rw [hhp]; exact vx_Zq.moved hW0.alike (hN.kept hS.2.1)
  have h : ∀ w ∈ Bundle.ownAtoms own ic cls names, w.before args s' = true := vx_own hat' (vx_isRefq hU'.1) (vx_isRefq hN'.1) hU'.2.word hN'.2.word
  have hown' : s'.vm.findClass own = some m.cls := by rw [hvm]; exact hown
  have hins : (Cond.instantiable cls 6).before args s' = true := h _ (by simp [Bundle.ownAtoms])
  obtain ⟨vm₁, cX, kX, hfX, hkX, -, -, X₁, st1⟩ := Y.newCold hexec (own := own) (C := cls) (index := ik) (n := 6) hown' hk' hins hini'
    (g := F0 m pc ls rest) rfl (by rw [hb]; exact d0) (Nat.le_refl _) (Nat.le_refl _)
  generalize hT1 : (T.setVm vm₁).pushCell { cls := cX, slots := kX.instanceTypes.map defaultValue, vm := .none } = T1 at X₁ st1
  have hcat : (Value.ref T.heap.size).category = 1 := rfl
  have hcellA : T1.heap[T.heap.size]? = some (freshCell cX kX) := by rw [← hT1]; exact State.heap_pushCell_size _ _
  have d3' : decode c.code (pc + 3) = .ok (.dup, 1) := by rw [hb]; exact d3
  have d4' : decode c.code (pc + 4) = .ok (.ldc_w is, 3) := by rw [hb]; exact d4
  have hstr' : vk_R own is text sa s' := vk_R.warm hW0 hstr
  obtain ⟨U, hsteps, hrun, hend, hW, hsame, ce, hce, hO⟩ := X₁.ctorThrowS hexec htr (own := own) (cls := cls) (names := names) (ic := ic) hown' hcls hnames h (fun x hx => nomatch hx) hfX hkX hcellA (by rw [hhp, hT]; exact Nat.le_refl _) (msg := .ref sa) rfl
    (g := { method := m, pc := pc + 7, locals := ls, stack := .ref sa :: .ref T.heap.size :: .ref T.heap.size :: rest, locked := none }) rfl hsize rfl rfl (rest := rest) rfl
    (by rw [hb]; exact d7) (by rw [hb]; exact d10) hout hRframes (by simp only [List.map_cons, List.sum_cons, hcat]; omega) hlocks
  obtain ⟨f1, f2⟩ := vx_frame hsame
  rw [hhp] at f1 f2
  have hWs : s.WarmedH U.vm := State.WarmedH.trans hW0 hW
  have hcl : s.vm.findClass cls = some ce.cls := by
    have h9 := hO.cls
    rw [hvm] at h9
    exact h9
  have hall : s.sameButNew ({ U with vm := s.vm } : State) locs mc ms := by
    subst hA
    obtain ⟨e1, e2⟩ := hsame
    rw [State.setFrames_setFrames] at e1
    have h2 : (T.setVm s.vm).sameButNew ({ U with vm := s.vm } : State) [] (0 + 1) (0 + 6) := ⟨e1, e2⟩
    have h3 := X.same.trans h2
    rw [List.append_nil] at h3
    exact h3.mono hc hs
  refine ⟨U, ?_, .threw T.heap.size, hrun, hend, Or.inr ⟨T.heap.size, rfl, cls, ce, locs, hx U hWs.alike f1 (fun q hq => f2 q hq (fun z hz => nomatch hz)), hce, hO.vm, hcl, hWs, hall, hf⟩⟩
  refine st1 _ ?_
  show Steps p.tables e below (T1.setTop { method := m, pc := pc + 3, locals := ls, stack := .ref T.heap.size :: rest, locked := none }) _
  jvm_step X₁.here [X₁.here.top, hexec, d3', Value.category]
  exact X₁.ldcStringW hexec (own := own) (text := text) (index := is) (a := sa) hown' hstr'.1 hstr'.2
    (g := { method := m, pc := pc + 4, locals := ls, stack := .ref T.heap.size :: .ref T.heap.size :: rest, locked := none }) rfl d4' _ hsteps
end Ends
section Bodies
variable {l : Launch}
theorem vx_ofW {y : MethodName} {ws ws' : List Cond} {rm : Room} {Pc : Array Value → State → Prop} {Qc : Array Value → State → Outcome → State → Prop} {XC : String → State → State → Prop} {mc ms : Nat} {free : Addr → Prop} {cc : ByteArray} {maxL : Nat} {ret : Option FieldType}
    (hy : plainName y.cls = true) (hw : ws = Cond.code y cc maxL ret :: ws')
    (body : ∀ p e s m args below meth c s₁, BodyLoose p l y (headSpec ws rm) cc maxL ret e s m args below meth c s₁ → c.maxLocals = maxL → (∀ x ∈ c.exceptionTable.toList, False) → Pc args s →
      W p l e (headSpec ws rm).room s m args below meth c s.heap [] 0 0 (vx_MQ below Qc XC args s mc ms free) (entryFrame m args maxL)) : vx_Met l y ws rm Pc Qc XC mc ms free := by
  refine MetFree.of_bodyS (code := cc) (maxLocals := maxL) (ret := ret) hy ?_ ?_
  · intro args s m h hn
    obtain ⟨meth, c, h1, h2, h3, h4, h5, h6, -, -⟩ := Cond.code_spec hn (atoms_spec (ws := ws) h _ (by rw [hw]; exact List.mem_cons_self))
    exact ⟨meth, c, h1, h2, h3, h4, h5, h6⟩
  · intro p e s m args below meth c s₁ B hml hP _
    have hh0 : s₁.heap = s.heap := by rw [B.state]; rfl
    have ht : ∀ x ∈ c.exceptionTable.toList, False := by
      obtain ⟨meth9, c9, h1, h2, -, -, -, -, h7, -⟩ := Cond.code_spec B.named (atoms_spec (ws := ws) B.pre _ (by rw [hw]; exact List.mem_cons_self))
      cases Option.some.inj (h1.symm.trans B.method)
      cases Option.some.inj (h2.symm.trans (Stand.of_body B).code)
      intro x hx
      rw [Array.isEmpty_iff.mp h7] at hx
      cases hx
    obtain ⟨t, a1, o, b1, b2, b3⟩ := body p e s m args below meth c s₁ B hml ht hP s₁ hh0 (Stand.of_body B)
    exact ⟨t, o, a1, b1, b2, b3⟩
/-- the table of a body with handlers -/
theorem vx_table {p : Program} {x y : MethodName} {S : Spec} {cc bytes : ByteArray} {maxL maxL' : Nat} {ret ret' : Option FieldType} {e : Env} {s s₁ : State} {m : MethodId} {args : Array Value} {below : List Frame} {meth : Method} {c : Code} {hh : List (Nat × Nat × Nat × Nat)}
    (B : BodyLoose p l y S cc maxL ret e s m args below meth c s₁) (h : (Cond.codeWith y bytes maxL' ret' hh).before args s = true) : c.exceptionTable.toList = tableOf hh := by
  obtain ⟨m9, meth9, c9, hn9, h1, h2, -, -, h6, -⟩ := Cond.codeWith_spec h
  cases Option.some.inj (hn9.symm.trans B.named)
  cases Option.some.inj (h1.symm.trans B.method)
  cases Option.some.inj (h2.symm.trans (Stand.of_body B).code)
  rw [← h6, table_eq]
end Bodies
end VXA
/-! ===== END ===== -/
/-! ===== BEGIN a static call of a method with an exception table ===== -/
section VXS
variable {p : Program} {l : Launch} {e : Env} {R : Room} {s : State} {m : MethodId} {args : Array Value} {below : List Frame} {meth : Method} {c : Code} {T : State} {H : Heap} {locs : List Loc} {cells slots : Nat}
abbrev vx_CSW (R : Room) (s : State) (args : Array Value) (own : String) (index : Nat) (y : MethodName) (bytes : ByteArray) (maxL : Nat) (ret : Option FieldType) (hh : List (Nat × Nat × Nat × Nat)) (ws : List Cond) (rm : Room) (mc ms n : Nat) : Prop :=
  (rm.cells = mc ∧ rm.slots = ms ∧ rm.frames + 1 ≤ R.frames ∧ 8 + (maxL + 11) + rm.locals ≤ R.locals ∧ (∀ w ∈ ws, ∀ (a' : Array Value) (U : State), s.WarmedH U.vm → w.before a' U = true) ∧ Cond.codeWith y bytes maxL ret hh ∈ ws) ∧
  (Cond.codeWith y bytes maxL ret hh).before args s = true ∧ (Cond.initialized y.cls).before args s = true ∧ (y.cls ≠ "java/lang/invoke/MethodHandle" ∧ y.cls ≠ "java/lang/invoke/VarHandle") ∧
  (∀ sig, parseMethodDescriptor y.desc = some sig → n = sig.parameters.length) ∧ (Cond.methodLink own index y).before args s = true ∧ (Cond.static y).before args s = true
theorem vx_cwSW {own : String} {index maxL mc ms : Nat} {y : MethodName} {bytes : ByteArray} {ret : Option FieldType} {hh : List (Nat × Nat × Nat × Nat)} {Ts ws ws' : List Cond} {rm : Room} (n : Nat) (ht : ∀ w ∈ Ts, w.before args s = true) (hT : GoodIn Ts (va_wsS own index y ws)) (hw : ws = Cond.codeWith y bytes maxL ret hh :: ws') (hrc : rm.cells = mc) (hrs : rm.slots = ms)
    (hd : y.cls ≠ "java/lang/invoke/MethodHandle" ∧ y.cls ≠ "java/lang/invoke/VarHandle" ∧ (parseMethodDescriptor y.desc).map (fun d => d.parameters.length) = some n) (hR : rm.frames + 1 ≤ R.frames ∧ 8 + (maxL + 11) + rm.locals ≤ R.locals) :
    vx_CSW R s args own index y bytes maxL ret hh ws rm mc ms n := by
  have ok : ∀ w ∈ va_wsS own index y ws, w.before args s = true := fun w h => ht w (hT w h).1
  have hG : GoodIn Ts ws := fun w h => hT w (by unfold va_wsS; exact List.mem_append_right _ h)
  have hc : Cond.codeWith y bytes maxL ret hh ∈ ws := by rw [hw]; exact List.mem_cons_self
  refine ⟨⟨hrc, hrs, hR.1, hR.2, pay_in ht hG, hc⟩, ht _ (hG _ hc).1, ok _ (by simp [va_wsS]), ⟨hd.1, hd.2.1⟩, fun sig h => ?_, ok _ (by simp [va_wsS]), ok _ (by simp [va_wsS])⟩
  have h2 := hd.2.2
  rw [h] at h2
  exact (Option.some.inj h2).symm
theorem vx_callSW (X : Stand p l e R s m args below meth c T locs cells slots) (hexec : p.tables.exec = Jvm.exec) {own : String} {index : Nat} {y : MethodName} {bytes : ByteArray} {maxL : Nat} {ret : Option FieldType} {hh : List (Nat × Nat × Nat × Nat)}
    (hown : s.vm.findClass own = some m.cls) (hlink : (Cond.methodLink own index y).before args s = true) (hstat : (Cond.static y).before args s = true) (hinit : (Cond.initialized y.cls).before args s = true)
    (hcode : (Cond.codeWith y bytes maxL ret hh).before args s = true) (hy : y.cls ≠ "java/lang/invoke/MethodHandle" ∧ y.cls ≠ "java/lang/invoke/VarHandle")
    {W9 : Nat} {Pre : Pt → Array Value → Prop} {Post : Pt → Array Value → Option Value → Pt → Prop} (hK : Back l R p e below s args y 3 W9 Pre Post)
    {g : JFrame} (hg : g.method = m) (hsize : g.locals.size = c.maxLocals) {argsL rest : List Value} (hlen : ∀ sig, parseMethodDescriptor y.desc = some sig → argsL.length = sig.parameters.length)
    (hstack : g.stack = argsL.reverse ++ rest) (hW : 2 * g.monitorRoom + (rest.map fun v => v.category).sum ≤ W9) (hdg : decode c.code g.pc = .ok (.invokestatic index, 3))
    (hpre : ∀ vm₁, s.WarmedH vm₁ → Pre ⟨T.setVm vm₁, locs, cells, slots⟩ argsL.toArray) :
    ∃ (v : Option Value) (vm₁ : Vm) (B : Pt), s.WarmedH vm₁ ∧ Stand p l e R s m args below meth c B.U B.locs B.cells B.slots ∧ Post ⟨T.setVm vm₁, locs, cells, slots⟩ argsL.toArray v B ∧
      ∀ target, Steps p.tables e below (B.U.setTop { g with pc := g.pc + 3, stack := v.toList ++ rest }) target → Steps p.tables e below (T.setTop g) target := by
  obtain ⟨mk, methM, cM, hnamed, hmethM, -, -, -, -, -, -, hsigM⟩ := Cond.codeWith_spec hcode
  have hstatic : methM.isStatic = true := Cond.static_spec hnamed hmethM hstat
  obtain ⟨kP, hkP, -⟩ := className_of_methodNamed hnamed
  have hinitP : kP.init = .initialized := Cond.initialized_spec (findClass_of_methodNamed hnamed) hkP hinit
  obtain ⟨vm₁, X₁, hstep₁⟩ := X.invokestatic hexec hown hlink hnamed hmethM hstatic hkP hinitP hy (g := g) hg (argsL := argsL) (rest := rest) (hlen _ hsigM) hstack hdg
  obtain ⟨v, B, X', hpost, hsteps⟩ := hK m meth c ⟨T.setVm vm₁, locs, cells, slots⟩ { g with stack := rest } (.invokestatic index) mk argsL.toArray X₁ hg hsize hdg hW (X₁.named hnamed) (hpre vm₁ X₁.warmed)
  exact ⟨v, vm₁, B, X₁.warmed, X', hpost, fun target h => hstep₁ _ fun acts => by rw [doInvoke_state]; exact hsteps.trans h⟩
theorem vx_runSW {y : MethodName} {bytes cc : ByteArray} {maxL nL mc ms n index : Nat} {ret : Option FieldType} {hh : List (Nat × Nat × Nat × Nat)} {ws : List Cond} {rm : Room} {Pc : Array Value → State → Prop} {Qc : Array Value → State → Outcome → State → Prop} {free : Addr → Prop} {Ts : List Cond} {own : String} {As rest : List Value} {g : JFrame}
    (S : CallFix p m c cc nL s args Ts own) (hM : Met l y ws rm Pc Qc mc ms free) (cw : vx_CSW R s args own index y bytes maxL ret hh ws rm mc ms n) (hp : PreS s H Pc As)
    (hg : g.method = m) (hn : As.length = n) (hsize : g.locals.size = nL) (hstack : g.stack = As.reverse ++ rest) (hW : 2 * g.monitorRoom + (rest.map fun v => v.category).sum ≤ 8) (hdg : decode cc g.pc = .ok (.invokestatic index, 3)) (hf : cells + mc ≤ R.cells ∧ slots + ms ≤ R.slots) :
    va_Run p l e R s m args below meth c H locs cells slots mc ms g rest (Qc As.toArray) (free) := by
  obtain ⟨⟨hrc, hrs, hfr, hlo, hws, hcw⟩, hcode, hini, hy, hlen, hl, hstt⟩ := cw
  have hK : Back l R p e below s args y 3 8 (PreOf R mc ms Pc) (PostOf Qc mc ms free) := va_backW (hh := hh) (bytes := bytes) (maxL := maxL) (ret := ret) hM hp.1 hrc hrs hfr hlo hws hcw (fun a' U hW => word_at hW (Or.inl (by first | rfl | simp [Cond.onTables, Cond.keeps, Cond.steady])) hini)
  obtain ⟨hx, hb, hml, ho, -⟩ := S
  intro T hT X
  obtain ⟨v, vm₁, ⟨U', l2, c2, s2⟩, hW₁, X', ⟨g', mk, t, L, e1, e2, hq, h1, hL, h2, h3⟩, st⟩ := vx_callSW X hx (hh := hh) (bytes := bytes) (maxL := maxL) (ret := ret) ho hl hstt hini hcode hy hK hg (hsize.trans hml.symm) (argsL := As) (rest := rest) (fun sig h => hn.trans (hlen sig h)) hstack hW (by rw [hb]; exact hdg)
    (fun vm₁ hW₁ => ⟨hf.1, hf.2, hp.2 (T.setVm vm₁) hT hW₁⟩)
  dsimp only [Pt.U, Pt.locs, Pt.cells, Pt.slots] at X' e1 e2 h1 h2 h3 st
  subst h1; subst h2; subst h3
  exact ⟨v, (T.setVm vm₁).calling g' mk As.toArray, t, U', L, hT, X', hL, e1, e2, hq, st⟩
/-- not caught here, past rows that name other classes: it goes on to the caller -/
theorem vx_outP {p : Program} {l : Launch} {e : Env} {R : Room} {s : State} {m : MethodId} {args : Array Value} {below : List Frame} {meth : Method} {c : Code} {H : Heap} {locs : List Loc} {cells slots : Nat} {free : Addr → Prop} {ls : Array Slot} {rest : List Value} {Qc : Array Value → State → Outcome → State → Prop} {XC : String → State → State → Prop}
    {pc : Nat} {own E : String} {ce : Cell} {q : Addr} {mc ms : Nat} (hown : s.vm.findClass own = some m.cls) (hlocks : meth.locks = false)
    (hpass : ∀ z ∈ c.exceptionTable.toList, covers z pc = false ∨ (z.catchType ≠ 0 ∧ ∃ nm : String, (Cond.classLink own z.catchType nm).before args s = true ∧ va_Nc E nm s)) (hcell : H[q]? = some ce) (hv : ce.vm = .none) (hcl : s.vm.findClass E = some ce.cls)
    (hx : ∀ t : State, t.heap = H → s.vm.Alike t.vm → XC E s t) (hf : ∀ z ∈ locs, free z.base) (hc : cells ≤ mc) (hs : slots ≤ ms) :
    vx_W p l e R s m args below meth c H locs cells slots (vx_MQ below Qc XC args s mc ms free) (F0 m pc ls rest) q := by
  intro T hT X
  have hpl : e.platform.magicAccessors = ({} : Platform).magicAccessors := by rw [X.admits.platform]
  obtain ⟨vm', hW', X', st⟩ := X.outThrough hlocks q (g := F0 m pc ls rest) rfl rfl rfl (cell := ce) (by rw [hT]; exact hcell) (by rw [hv]; rfl)
    (by obtain ⟨k9, h9, -⟩ := Vm.findClass_spec hcl; exact ⟨k9, h9⟩) (fun z hz => by
      rcases hpass z hz with h | ⟨hz0, nm, hl1, hn1⟩
      · exact Or.inl h
      · obtain ⟨c6, hc6, hcl6⟩ := Cond.classLink_spec hown hl1 e.platform hpl
        obtain ⟨a8, b8, h1, h2, h3⟩ := hn1
        cases Option.some.inj (h1.symm.trans hcl)
        cases Option.some.inj (h2.symm.trans hc6)
        exact Or.inr ⟨hz0, _, hcl6, h3⟩)
  obtain ⟨g₀, hfr⟩ := X'.frames_eq
  have hcell9 : ((T.setVm vm').setFrames (.throwing q :: below)).heap[q]? = some ce := by
    show T.heap[q]? = some ce
    rw [hT]; exact hcell
  have hend : Ended ((T.setVm vm').setFrames (.throwing q :: below)) below (.threw q) := State.frames_setFrames _ (State.cur_lt_of_frames hfr)
  refine ⟨(T.setVm vm').setFrames (.throwing q :: below), ?_, .threw q, X'.here.running, hend, Or.inr ⟨q, rfl, E, ce, locs, hx _ hT (X'.ends _).1.alike, hcell9, hv, hcl, (X'.ends _).1, (X'.ends _).2.mono hc hs, hf⟩⟩
  rw [X.pushThrowing_eq]
  exact st
/-- a thing of a world lies in the heap -/
theorem vx_lt {D : va_G} {cl : List vw_C} {ws : va_W} {H1 : Heap} (h : va_P D cl ws H1) {k : Nat} {q : Nat × va_E} (hk : ws[k]? = some q) : q.1 < H1.size := (h k q hk).lt
end VXS
/-! ===== END ===== -/
/-! ===== BEGIN methods with a table of their own: called by a name, returning or throwing ===== -/
section VXH
/-! vx_backW, vx_callVX, vx_callSX, vx_callVW, vx_runVW, vx_runVX, vx_runSX, vx_ofWH follow the same proofs as their sisters above (Free/Laws.lean, Shelf42/LK1.lean); vx_outP calls Shelf42/NT130.lean (outThrough). -/
section
variable {l : Launch} {R : Room} {p : Program} {e : Env} {below : List Frame} {s : State} {sargs : Array Value} {y : MethodName} {len W9 : Nat}
theorem vx_backW {ws : List Cond} {rm : Room} {Pc : Array Value → State → Prop} {Qc : Array Value → State → Outcome → State → Prop} {XC : String → State → State → Prop} {mc ms : Nat} {free : Addr → Prop} {bytes : ByteArray} {maxL : Nat} {ret : Option FieldType} {hh : List (Nat × Nat × Nat × Nat)}
    (hM : vx_Met l y ws rm Pc Qc XC mc ms free) (hblind : FrameBlind Pc) (hrc : rm.cells = mc) (hrs : rm.slots = ms)
    (hframes : rm.frames + 1 ≤ R.frames) (hlocals : W9 + (maxL + 11) + rm.locals ≤ R.locals)
    (hws : ∀ w ∈ ws, ∀ a' U, s.WarmedH U.vm → w.before a' U = true) (hcode : Cond.codeWith y bytes maxL ret hh ∈ ws) (hinit : ∀ a' U, s.WarmedH U.vm → (Cond.initialized y.cls).before a' U = true) :
    vx_Back l R p e below s sargs y len W9 (PreOf R mc ms Pc) (PostOf Qc mc ms free) (vx_Post XC mc ms free) := by
  intro m meth c A g ig mk a X hg hsize hdg hW hn hp
  have h1 : (headSpec ws rm).pre.before a A.U = true := atoms_intro fun w hw => hws w hw _ _ X.warmed
  have h2 : (Cond.codeWith y bytes maxL ret hh).before a A.U = true := hws _ hcode _ _ X.warmed
  have h3 : (Cond.initialized y.cls).before a A.U = true := hinit _ _ X.warmed
  have h4 : A.cells + (headSpec ws rm).room.cells ≤ R.cells := by rw [show (headSpec ws rm).room.cells = mc from hrc]; exact hp.1
  have h5 : A.slots + (headSpec ws rm).room.slots ≤ R.slots := by rw [show (headSpec ws rm).room.slots = ms from hrs]; exact hp.2.1
  have hPc : Pc a (A.U.calling g mk a) := hblind _ _ _ _ hp.2.2
  obtain ⟨U, Ls, c0, s0⟩ := A
  dsimp only [Pt.U, Pt.locs, Pt.cells, Pt.slots] at h1 h2 h3 h4 h5 X hn hPc ⊢
  obtain ⟨m9, methY, cY, hn9, hmY, hcY, -, hlY, -⟩ := Cond.codeWith_spec h2
  cases Option.some.inj (hn9.symm.trans hn)
  obtain ⟨kY, hkY, -⟩ := className_of_methodNamed hn
  have hinitY : kY.init = .initialized := Cond.initialized_spec (findClass_of_methodNamed hn) hkY h3
  have h : At U g.method c below := by rw [hg]; exact X.here
  have hlocals9 : W9 + (maxL + 11) + (headSpec ws rm).room.locals ≤ R.locals := hlocals
  have happ : (headSpec ws rm).appliesLoose y e.platform (U.calling g mk a) = true :=
    Spec.appliesLoose_calling (g := g) h hdg hn hkY hinitY
      (X.room_calling (g := g) (R' := (headSpec ws rm).room) hsize hmY hcY hframes (by rw [hlY]; omega) h4 h5) h1
  obtain ⟨mid, hmid⟩ := h.above
  have hfr : (U.setTop g).frames = (.java g :: mid) ++ below := by rw [State.frames_setTop' g h.top, hmid]; rfl
  obtain ⟨o, s₂, hsteps, -, hend, hq⟩ := Steps.callFree hM p X.admits X.cas X.clock (acts := []) hfr happ hPc trivial
  have hq' : vx_Q Qc XC mc ms free a (U.calling g mk a) o s₂ := hq
  rw [State.frames_setTop' g h.top] at hend
  obtain ⟨g₀, hg0⟩ := Option.isSome_iff_exists.mp h.top
  obtain ⟨r, hr⟩ := State.topJava?_eq_some.mp hg0
  have hr' : (({ U with heap := s₂.heap, slotsUsed := s₂.slotsUsed } : State).setVm s₂.vm).frames = .java g₀ :: r := hr
  rcases hq' with ⟨hqc, L, hfe, hL⟩ | ⟨q, rfl, E, ce, L, hx, hce, hcv, hcl, hW₂, hsm, hL⟩
  · obtain ⟨⟨v, rfl⟩, hW₂, e2, q2, q3, q4, q5, q6⟩ := id hfe
    have e3 : s₂ = ({ (U.calling g mk a).setFrames s₂.frames with heap := s₂.heap, slotsUsed := s₂.slotsUsed } : State).setVm s₂.vm := by
      have : s₂ = ({ s₂ with vm := (U.calling g mk a).vm } : State).setVm s₂.vm := rfl
      rw [e2] at this
      exact this
    obtain ⟨c₂, i₂, len₂, hc₂, hd₂, hf₂⟩ := hend
    have hW' : U.WarmedH s₂.vm := hW₂
    have hcc : c₂ = c := by
      have h1 : s₂.code? g.method = U.code? g.method := by
        rw [State.code?_eq, State.code?_eq, hW'.alike.method?]
      exact Option.some.inj (hc₂.symm.trans (h1.trans h.code))
    subst hcc
    have hlen : len₂ = len := by rw [hdg] at hd₂; cases hd₂; rfl
    subst hlen
    have hs₂ : s₂ = (({ U with heap := s₂.heap, slotsUsed := s₂.slotsUsed } : State).setVm s₂.vm).setTop { g with pc := g.pc + len₂, stack := v.toList ++ g.stack } := by
      refine e3.trans ?_
      rw [hf₂, State.calling_eq h.top, State.setFrames_setFrames, State.setTop_of_frames _ hr', hr]
      rfl
    have hsame : U.sameButNew ({ U with heap := s₂.heap, slotsUsed := s₂.slotsUsed } : State) L mc ms := by
      refine ⟨?_, q2, q3, q4, q5, q6⟩
      obtain ⟨t, ht, -⟩ := State.frames_cons hr
      show ({ U with heap := s₂.heap, slotsUsed := s₂.slotsUsed } : State) = { U.setFrames U.frames with heap := s₂.heap, slotsUsed := s₂.slotsUsed }
      rw [State.setFrames_self ht]
    subst hg
    refine Or.inl ⟨v, ⟨(({ U with heap := s₂.heap, slotsUsed := s₂.slotsUsed } : State).setVm s₂.vm), Ls ++ L, c0 + mc, s0 + ms⟩,
      ⟨X.admits, X.cas, X.clock, X.frames, X.room, X.hears, X.method, X.code, (X.here.setHeapUsed s₂.heap s₂.slotsUsed).setVm hW'.alike, X.tail, State.WarmedH.trans X.warmed hW', X.limits, X.bytes, X.same.trans (hsame.setVm s.vm)⟩,
      ⟨g, mk, s₂, L, rfl, rfl, hqc, rfl, hL, rfl, rfl⟩, ?_⟩
    show Steps p.tables e below _ ((({ U with heap := s₂.heap, slotsUsed := s₂.slotsUsed } : State).setVm s₂.vm).setTop { g with pc := g.pc + len₂, stack := v.toList ++ g.stack })
    rw [← hs₂]
    exact hsteps
  · obtain ⟨e2, q2, q3, q4, q5, q6⟩ := id hsm
    have e3 : s₂ = ({ (U.calling g mk a).setFrames s₂.frames with heap := s₂.heap, slotsUsed := s₂.slotsUsed } : State).setVm s₂.vm := by
      have : s₂ = ({ s₂ with vm := (U.calling g mk a).vm } : State).setVm s₂.vm := rfl
      rw [e2] at this
      exact this
    have hf₂ : s₂.frames = .throwing q :: .java g :: U.frames.tail := hend
    have hW' : U.WarmedH s₂.vm := hW₂
    have hs₂ : s₂ = ((({ U with heap := s₂.heap, slotsUsed := s₂.slotsUsed } : State).setVm s₂.vm).setTop g).pushFrame (.throwing q) := by
      refine e3.trans ?_
      rw [hf₂, State.calling_eq h.top, State.setFrames_setFrames, State.pushFrame, State.frames_setTop _ hr', State.setTop_of_frames _ hr', State.setFrames_setFrames, hr]
      rfl
    have hsame : U.sameButNew ({ U with heap := s₂.heap, slotsUsed := s₂.slotsUsed } : State) L mc ms := by
      refine ⟨?_, q2, q3, q4, q5, q6⟩
      obtain ⟨t, ht, -⟩ := State.frames_cons hr
      show ({ U with heap := s₂.heap, slotsUsed := s₂.slotsUsed } : State) = { U.setFrames U.frames with heap := s₂.heap, slotsUsed := s₂.slotsUsed }
      rw [State.setFrames_self ht]
    subst hg
    refine Or.inr ⟨q, ⟨(({ U with heap := s₂.heap, slotsUsed := s₂.slotsUsed } : State).setVm s₂.vm), Ls ++ L, c0 + mc, s0 + ms⟩,
      ⟨X.admits, X.cas, X.clock, X.frames, X.room, X.hears, X.method, X.code, (X.here.setHeapUsed s₂.heap s₂.slotsUsed).setVm hW'.alike, X.tail, State.WarmedH.trans X.warmed hW', X.limits, X.bytes, X.same.trans (hsame.setVm s.vm)⟩,
      ⟨g, mk, s₂, L, E, ce, rfl, rfl, hx, hce, hcv, hcl, rfl, hL, rfl, rfl⟩, ?_⟩
    show Steps p.tables e below _ (((({ U with heap := s₂.heap, slotsUsed := s₂.slotsUsed } : State).setVm s₂.vm).setTop g).pushFrame (.throwing q))
    rw [← hs₂]
    exact hsteps
end
variable {p : Program} {l : Launch} {e : Env} {R : Room} {s : State} {m : MethodId} {args : Array Value} {below : List Frame} {meth : Method} {c : Code} {T : State} {H : Heap} {locs : List Loc} {cells slots : Nat}
theorem vx_callVX (X : Stand p l e R s m args below meth c T locs cells slots) (hexec : p.tables.exec = Jvm.exec) {own C : String} {index : Nat} {y : MethodName} {bytes : ByteArray} {maxL : Nat} {ret : Option FieldType} {hh : List (Nat × Nat × Nat × Nat)}
    (hown : s.vm.findClass own = some m.cls) (hlink : (Cond.methodLink own index y).before args s = true) (hinst : (Cond.instanceMethod y).before args s = true) (hsel : (Cond.selects C y y).before args s = true)
    (hcode : (Cond.codeWith y bytes maxL ret hh).before args s = true) (hy : y.cls ≠ "java/lang/invoke/MethodHandle" ∧ y.cls ≠ "java/lang/invoke/VarHandle")
    {W9 : Nat} {Pre : Pt → Array Value → Prop} {Post : Pt → Array Value → Option Value → Pt → Prop} {PostX : Pt → Array Value → Addr → Pt → Prop} (hK : vx_Back l R p e below s args y 3 W9 Pre Post PostX)
    {b : Addr} {cellB : Cell} (hcell : T.heap[b]? = some cellB) (hobj : cellB.vm.isStatics = false) (hcls : s.vm.findClass C = some cellB.cls)
    {g : JFrame} (hg : g.method = m) (hsize : g.locals.size = c.maxLocals) {argsL rest : List Value} (hlen : ∀ sig, parseMethodDescriptor y.desc = some sig → argsL.length = sig.parameters.length)
    (hstack : g.stack = argsL.reverse ++ .ref b :: rest) (hW : 2 * g.monitorRoom + (rest.map fun v => v.category).sum ≤ W9) (hdg : decode c.code g.pc = .ok (.invokevirtual index, 3))
    (hpre : ∀ vm₁, s.WarmedH vm₁ → Pre ⟨T.setVm vm₁, locs, cells, slots⟩ (Value.ref b :: argsL).toArray) :
    (∃ (v : Option Value) (vm₁ : Vm) (B : Pt), s.WarmedH vm₁ ∧ Stand p l e R s m args below meth c B.U B.locs B.cells B.slots ∧ Post ⟨T.setVm vm₁, locs, cells, slots⟩ (Value.ref b :: argsL).toArray v B ∧
      ∀ target, Steps p.tables e below (B.U.setTop { g with pc := g.pc + 3, stack := v.toList ++ rest }) target → Steps p.tables e below (T.setTop g) target) ∨
    (∃ (q : Addr) (vm₁ : Vm) (B : Pt), s.WarmedH vm₁ ∧ Stand p l e R s m args below meth c B.U B.locs B.cells B.slots ∧ PostX ⟨T.setVm vm₁, locs, cells, slots⟩ (Value.ref b :: argsL).toArray q B ∧
      Steps p.tables e below (T.setTop g) ((B.U.setTop { g with stack := rest }).pushFrame (.throwing q))) := by
  obtain ⟨mk, methM, hnamed, hmethM, hstM, habM⟩ := Cond.instanceMethod_spec hinst
  obtain ⟨m8, methM', cM, hn8, hmethM', -, -, -, -, -, -, hsigM⟩ := Cond.codeWith_spec hcode
  cases Option.some.inj (hn8.symm.trans hnamed)
  cases hmethM.symm.trans hmethM'
  obtain ⟨c2, r2, m2, q1, q2, q3, q4, kP, hkP, hkPi⟩ := Cond.selects_spec hsel
  cases hcls.symm.trans q1
  cases (State.methodFound?_of_named hnamed hy).symm.trans q2
  cases hnamed.symm.trans q3
  have hselP : selectMethod e.platform s.vm cellB.cls mk = .method mk := by rw [Launch.admits_selectMethod X.admits]; exact q4
  obtain ⟨vm₁, X₁, hstep₁⟩ := X.invokevirtual hexec hown hlink hnamed hmethM hstM hkP hkPi hy (a := b) (cell := cellB) hcell
    (fun z h => by rw [h] at hobj; cases hobj) hselP hmethM habM hkP hkPi (g := g) hg (argsL := argsL) (rest := rest) (hlen _ hsigM) hstack hdg
  rcases hK m meth c ⟨T.setVm vm₁, locs, cells, slots⟩ { g with stack := rest } (.invokevirtual index) mk (Value.ref b :: argsL).toArray X₁ hg hsize hdg hW (X₁.named hnamed) (hpre vm₁ X₁.warmed) with ⟨v, B, X', hpost, hsteps⟩ | ⟨q, B, X', hpost, hsteps⟩
  · exact Or.inl ⟨v, vm₁, B, X₁.warmed, X', hpost, fun target h => hstep₁ _ fun acts => by rw [doInvoke_state]; exact hsteps.trans h⟩
  · exact Or.inr ⟨q, vm₁, B, X₁.warmed, X', hpost, hstep₁ _ fun acts => by rw [doInvoke_state]; exact hsteps⟩
theorem vx_callSX (X : Stand p l e R s m args below meth c T locs cells slots) (hexec : p.tables.exec = Jvm.exec) {own : String} {index : Nat} {y : MethodName} {bytes : ByteArray} {maxL : Nat} {ret : Option FieldType} {hh : List (Nat × Nat × Nat × Nat)}
    (hown : s.vm.findClass own = some m.cls) (hlink : (Cond.methodLink own index y).before args s = true) (hstat : (Cond.static y).before args s = true) (hinit : (Cond.initialized y.cls).before args s = true)
    (hcode : (Cond.codeWith y bytes maxL ret hh).before args s = true) (hy : y.cls ≠ "java/lang/invoke/MethodHandle" ∧ y.cls ≠ "java/lang/invoke/VarHandle")
    {W9 : Nat} {Pre : Pt → Array Value → Prop} {Post : Pt → Array Value → Option Value → Pt → Prop} {PostX : Pt → Array Value → Addr → Pt → Prop} (hK : vx_Back l R p e below s args y 3 W9 Pre Post PostX)
    {g : JFrame} (hg : g.method = m) (hsize : g.locals.size = c.maxLocals) {argsL rest : List Value} (hlen : ∀ sig, parseMethodDescriptor y.desc = some sig → argsL.length = sig.parameters.length)
    (hstack : g.stack = argsL.reverse ++ rest) (hW : 2 * g.monitorRoom + (rest.map fun v => v.category).sum ≤ W9) (hdg : decode c.code g.pc = .ok (.invokestatic index, 3))
    (hpre : ∀ vm₁, s.WarmedH vm₁ → Pre ⟨T.setVm vm₁, locs, cells, slots⟩ argsL.toArray) :
    (∃ (v : Option Value) (vm₁ : Vm) (B : Pt), s.WarmedH vm₁ ∧ Stand p l e R s m args below meth c B.U B.locs B.cells B.slots ∧ Post ⟨T.setVm vm₁, locs, cells, slots⟩ argsL.toArray v B ∧
      ∀ target, Steps p.tables e below (B.U.setTop { g with pc := g.pc + 3, stack := v.toList ++ rest }) target → Steps p.tables e below (T.setTop g) target) ∨
    (∃ (q : Addr) (vm₁ : Vm) (B : Pt), s.WarmedH vm₁ ∧ Stand p l e R s m args below meth c B.U B.locs B.cells B.slots ∧ PostX ⟨T.setVm vm₁, locs, cells, slots⟩ argsL.toArray q B ∧
      Steps p.tables e below (T.setTop g) ((B.U.setTop { g with stack := rest }).pushFrame (.throwing q))) := by
  obtain ⟨mk, methM, cM, hnamed, hmethM, -, -, -, -, -, -, hsigM⟩ := Cond.codeWith_spec hcode
  have hstatic : methM.isStatic = true := Cond.static_spec hnamed hmethM hstat
  obtain ⟨kP, hkP, -⟩ := className_of_methodNamed hnamed
  have hinitP : kP.init = .initialized := Cond.initialized_spec (findClass_of_methodNamed hnamed) hkP hinit
  obtain ⟨vm₁, X₁, hstep₁⟩ := X.invokestatic hexec hown hlink hnamed hmethM hstatic hkP hinitP hy (g := g) hg (argsL := argsL) (rest := rest) (hlen _ hsigM) hstack hdg
  rcases hK m meth c ⟨T.setVm vm₁, locs, cells, slots⟩ { g with stack := rest } (.invokestatic index) mk argsL.toArray X₁ hg hsize hdg hW (X₁.named hnamed) (hpre vm₁ X₁.warmed) with ⟨v, B, X', hpost, hsteps⟩ | ⟨q, B, X', hpost, hsteps⟩
  · exact Or.inl ⟨v, vm₁, B, X₁.warmed, X', hpost, fun target h => hstep₁ _ fun acts => by rw [doInvoke_state]; exact hsteps.trans h⟩
  · exact Or.inr ⟨q, vm₁, B, X₁.warmed, X', hpost, hstep₁ _ fun acts => by rw [doInvoke_state]; exact hsteps⟩
theorem vx_callVW (X : Stand p l e R s m args below meth c T locs cells slots) (hexec : p.tables.exec = Jvm.exec) {own C : String} {index : Nat} {y : MethodName} {bytes : ByteArray} {maxL : Nat} {ret : Option FieldType} {hh : List (Nat × Nat × Nat × Nat)}
    (hown : s.vm.findClass own = some m.cls) (hlink : (Cond.methodLink own index y).before args s = true) (hinst : (Cond.instanceMethod y).before args s = true) (hsel : (Cond.selects C y y).before args s = true)
    (hcode : (Cond.codeWith y bytes maxL ret hh).before args s = true) (hy : y.cls ≠ "java/lang/invoke/MethodHandle" ∧ y.cls ≠ "java/lang/invoke/VarHandle")
    {W9 : Nat} {Pre : Pt → Array Value → Prop} {Post : Pt → Array Value → Option Value → Pt → Prop} (hK : Back l R p e below s args y 3 W9 Pre Post)
    {b : Addr} {cellB : Cell} (hcell : T.heap[b]? = some cellB) (hobj : cellB.vm.isStatics = false) (hcls : s.vm.findClass C = some cellB.cls)
    {g : JFrame} (hg : g.method = m) (hsize : g.locals.size = c.maxLocals) {argsL rest : List Value} (hlen : ∀ sig, parseMethodDescriptor y.desc = some sig → argsL.length = sig.parameters.length)
    (hstack : g.stack = argsL.reverse ++ .ref b :: rest) (hW : 2 * g.monitorRoom + (rest.map fun v => v.category).sum ≤ W9) (hdg : decode c.code g.pc = .ok (.invokevirtual index, 3))
    (hpre : ∀ vm₁, s.WarmedH vm₁ → Pre ⟨T.setVm vm₁, locs, cells, slots⟩ (Value.ref b :: argsL).toArray) :
    ∃ (v : Option Value) (vm₁ : Vm) (B : Pt), s.WarmedH vm₁ ∧ Stand p l e R s m args below meth c B.U B.locs B.cells B.slots ∧ Post ⟨T.setVm vm₁, locs, cells, slots⟩ (Value.ref b :: argsL).toArray v B ∧
      ∀ target, Steps p.tables e below (B.U.setTop { g with pc := g.pc + 3, stack := v.toList ++ rest }) target → Steps p.tables e below (T.setTop g) target := by
  obtain ⟨mk, methM, hnamed, hmethM, hstM, habM⟩ := Cond.instanceMethod_spec hinst
  obtain ⟨m8, methM', cM, hn8, hmethM', -, -, -, -, -, -, hsigM⟩ := Cond.codeWith_spec hcode
  cases Option.some.inj (hn8.symm.trans hnamed)
  cases hmethM.symm.trans hmethM'
  obtain ⟨c2, r2, m2, q1, q2, q3, q4, kP, hkP, hkPi⟩ := Cond.selects_spec hsel
  cases hcls.symm.trans q1
  cases (State.methodFound?_of_named hnamed hy).symm.trans q2
  cases hnamed.symm.trans q3
  have hselP : selectMethod e.platform s.vm cellB.cls mk = .method mk := by rw [Launch.admits_selectMethod X.admits]; exact q4
  obtain ⟨vm₁, X₁, hstep₁⟩ := X.invokevirtual hexec hown hlink hnamed hmethM hstM hkP hkPi hy (a := b) (cell := cellB) hcell
    (fun z h => by rw [h] at hobj; cases hobj) hselP hmethM habM hkP hkPi (g := g) hg (argsL := argsL) (rest := rest) (hlen _ hsigM) hstack hdg
  obtain ⟨v, B, X', hpost, hsteps⟩ := hK m meth c ⟨T.setVm vm₁, locs, cells, slots⟩ { g with stack := rest } (.invokevirtual index) mk (Value.ref b :: argsL).toArray X₁ hg hsize hdg hW (X₁.named hnamed) (hpre vm₁ X₁.warmed)
  exact ⟨v, vm₁, B, X₁.warmed, X', hpost, fun target h => hstep₁ _ fun acts => by rw [doInvoke_state]; exact hsteps.trans h⟩
abbrev vx_CVW (R : Room) (s : State) (args : Array Value) (own C : String) (index : Nat) (y : MethodName) (bytes : ByteArray) (maxL : Nat) (ret : Option FieldType) (hh : List (Nat × Nat × Nat × Nat)) (ws : List Cond) (rm : Room) (mc ms n : Nat) : Prop :=
  (rm.cells = mc ∧ rm.slots = ms ∧ rm.frames + 1 ≤ R.frames ∧ 8 + (maxL + 11) + rm.locals ≤ R.locals ∧ (∀ w ∈ ws, ∀ (a' : Array Value) (U : State), s.WarmedH U.vm → w.before a' U = true) ∧ Cond.codeWith y bytes maxL ret hh ∈ ws) ∧
  (Cond.codeWith y bytes maxL ret hh).before args s = true ∧ (Cond.initialized y.cls).before args s = true ∧ (y.cls ≠ "java/lang/invoke/MethodHandle" ∧ y.cls ≠ "java/lang/invoke/VarHandle") ∧
  (∀ sig, parseMethodDescriptor y.desc = some sig → n = sig.parameters.length) ∧ (Cond.methodLink own index y).before args s = true ∧ (Cond.instanceMethod y).before args s = true ∧ (Cond.selects C y y).before args s = true
theorem vx_cwVW {own C : String} {index maxL mc ms : Nat} {y : MethodName} {bytes : ByteArray} {ret : Option FieldType} {hh : List (Nat × Nat × Nat × Nat)} {Ts ws ws' : List Cond} {rm : Room} (n : Nat) (ht : ∀ w ∈ Ts, w.before args s = true) (hT : GoodIn Ts (wsV own index C y ws)) (hw : ws = Cond.codeWith y bytes maxL ret hh :: ws') (hrc : rm.cells = mc) (hrs : rm.slots = ms)
    (hd : y.cls = C ∧ y.cls ≠ "java/lang/invoke/MethodHandle" ∧ y.cls ≠ "java/lang/invoke/VarHandle" ∧ (parseMethodDescriptor y.desc).map (fun d => d.parameters.length) = some n) (hR : rm.frames + 1 ≤ R.frames ∧ 8 + (maxL + 11) + rm.locals ≤ R.locals) :
    vx_CVW R s args own C index y bytes maxL ret hh ws rm mc ms n := by
  obtain ⟨hC, hd⟩ := hd
  subst hC
  have ok : ∀ w ∈ wsV own index y.cls y ws, w.before args s = true := fun w h => ht w (hT w h).1
  have hG : GoodIn Ts ws := fun w h => hT w (by unfold wsV; exact List.mem_append_right _ h)
  have hc : Cond.codeWith y bytes maxL ret hh ∈ ws := by rw [hw]; exact List.mem_cons_self
  refine ⟨⟨hrc, hrs, hR.1, hR.2, pay_in ht hG, hc⟩, ht _ (hG _ hc).1, ok _ (by simp [wsV]), ⟨hd.1, hd.2.1⟩, fun sig h => ?_, ok _ (by simp [wsV]), ok _ (by simp [wsV]), ok _ (by simp [wsV])⟩
  have h2 := hd.2.2
  rw [h] at h2
  exact (Option.some.inj h2).symm
theorem vx_runVW {y : MethodName} {bytes cc : ByteArray} {maxL nL mc ms n index : Nat} {ret : Option FieldType} {hh : List (Nat × Nat × Nat × Nat)} {ws : List Cond} {rm : Room} {Pc : Array Value → State → Prop} {Qc : Array Value → State → Outcome → State → Prop} {free : Addr → Prop} {Ts : List Cond} {own C : String} {b : Addr} {As rest : List Value} {g : JFrame}
    (S : CallFix p m c cc nL s args Ts own) (hM : Met l y ws rm Pc Qc mc ms free) (cw : vx_CVW R s args own C index y bytes maxL ret hh ws rm mc ms n) (hp : PreV s H C b Pc As)
    (hg : g.method = m) (hn : As.length = n) (hsize : g.locals.size = nL) (hstack : g.stack = As.reverse ++ .ref b :: rest) (hW : 2 * g.monitorRoom + (rest.map fun v => v.category).sum ≤ 8) (hdg : decode cc g.pc = .ok (.invokevirtual index, 3)) (hf : cells + mc ≤ R.cells ∧ slots + ms ≤ R.slots) :
    va_Run p l e R s m args below meth c H locs cells slots mc ms g rest (Qc (Value.ref b :: As).toArray) free := by
  obtain ⟨⟨hrc, hrs, hfr, hlo, hws, hcw⟩, hcode, hini, hy, hlen, hl, hin, hse⟩ := cw
  have hK : Back l R p e below s args y 3 8 (PreOf R mc ms Pc) (PostOf Qc mc ms free) := va_backW (hh := hh) (bytes := bytes) (maxL := maxL) (ret := ret) hM hp.1 hrc hrs hfr hlo hws hcw (fun a' U hW => word_at hW (Or.inl (by first | rfl | simp [Cond.onTables, Cond.keeps, Cond.steady])) hini)
  obtain ⟨hx, hb, hml, ho, -⟩ := S
  obtain ⟨-, ⟨cellB, hcB, hoB, hclB⟩, hPc⟩ := hp
  intro T hT X
  obtain ⟨v, vm₁, ⟨U', l2, c2, s2⟩, hW₁, X', ⟨g', mk, t, L, e1, e2, hq, h1, hL, h2, h3⟩, st⟩ := vx_callVW X hx (C := C) (hh := hh) (bytes := bytes) (maxL := maxL) (ret := ret) ho hl hin hse hcode hy hK (by rw [hT]; exact hcB) hoB hclB hg (hsize.trans hml.symm) (argsL := As) (rest := rest) (fun sig h => hn.trans (hlen sig h)) hstack hW (by rw [hb]; exact hdg)
    (fun vm₁ hW₁ => ⟨hf.1, hf.2, hPc (T.setVm vm₁) hT hW₁⟩)
  dsimp only [Pt.U, Pt.locs, Pt.cells, Pt.slots] at X' e1 e2 h1 h2 h3 st
  subst h1; subst h2; subst h3
  exact ⟨v, (T.setVm vm₁).calling g' mk (Value.ref b :: As).toArray, t, U', L, hT, X', hL, e1, e2, hq, st⟩
section
variable {y : MethodName} {bytes cc : ByteArray} {maxL nL mc ms n index : Nat} {ret : Option FieldType} {ws : List Cond} {rm : Room} {Pc : Array Value → State → Prop} {Qc : Array Value → State → Outcome → State → Prop} {XC : String → State → State → Prop} {free : Addr → Prop} {Ts : List Cond} {own C : String} {b : Addr} {As rest : List Value} {g : JFrame}
theorem vx_runVX {hh : List (Nat × Nat × Nat × Nat)} (S : CallFix p m c cc nL s args Ts own) (hM : vx_Met l y ws rm Pc Qc XC mc ms free) (cw : vx_CVW R s args own C index y bytes maxL ret hh ws rm mc ms n) (hp : PreV s H C b Pc As)
    (hg : g.method = m) (hn : As.length = n) (hsize : g.locals.size = nL) (hstack : g.stack = As.reverse ++ .ref b :: rest) (hW : 2 * g.monitorRoom + (rest.map fun v => v.category).sum ≤ 8) (hdg : decode cc g.pc = .ok (.invokevirtual index, 3)) (hf : cells + mc ≤ R.cells ∧ slots + ms ≤ R.slots) :
    vx_Run p l e R s m args below meth c H locs cells slots mc ms g rest (Qc (Value.ref b :: As).toArray) XC free := by
  obtain ⟨⟨hrc, hrs, hfr, hlo, hws, hcw⟩, hcode, hini, hy, hlen, hl, hin, hse⟩ := cw
  have hK : vx_Back l R p e below s args y 3 8 (PreOf R mc ms Pc) (PostOf Qc mc ms free) (vx_Post XC mc ms free) := vx_backW (hh := hh) (bytes := bytes) (maxL := maxL) (ret := ret) hM hp.1 hrc hrs hfr hlo hws hcw (fun a' U hW => word_at hW (Or.inl (by first | rfl | simp [Cond.onTables, Cond.keeps, Cond.steady])) hini)
  obtain ⟨hx, hb, hml, ho, -⟩ := S
  obtain ⟨-, ⟨cellB, hcB, hoB, hclB⟩, hPc⟩ := hp
  intro T hT X
  rcases vx_callVX X hx (C := C) (hh := hh) (bytes := bytes) (maxL := maxL) (ret := ret) ho hl hin hse hcode hy hK (by rw [hT]; exact hcB) hoB hclB hg (hsize.trans hml.symm) (argsL := As) (rest := rest) (fun sig h => hn.trans (hlen sig h)) hstack hW (by rw [hb]; exact hdg)
    (fun vm₁ hW₁ => ⟨hf.1, hf.2, hPc (T.setVm vm₁) hT hW₁⟩) with ⟨v, vm₁, ⟨U', l2, c2, s2⟩, hW₁, X', ⟨g', mk, t, L, e1, e2, hq, h1, hL, h2, h3⟩, st⟩ | ⟨q, vm₁, ⟨U', l2, c2, s2⟩, hW₁, X', ⟨g', mk, t, L, E, ce, e1, e2, hq, hce, hcv, hcl, h1, hL, h2, h3⟩, st⟩
  · dsimp only [Pt.U, Pt.locs, Pt.cells, Pt.slots] at X' e1 e2 h1 h2 h3 st
    subst h1; subst h2; subst h3
    exact Or.inl ⟨v, (T.setVm vm₁).calling g' mk (Value.ref b :: As).toArray, t, U', L, hT, X', hL, e1, e2, hq, st⟩
  · dsimp only [Pt.U, Pt.locs, Pt.cells, Pt.slots] at X' e1 e2 h1 h2 h3 st hcl
    subst h1; subst h2; subst h3
    exact Or.inr ⟨q, (T.setVm vm₁).calling g' mk (Value.ref b :: As).toArray, t, U', L, E, ce, hT, X', hL, e1, e2, hq, hce, hcv, vx_cls hW₁ hcl, st⟩
theorem vx_runSX {hh : List (Nat × Nat × Nat × Nat)} (S : CallFix p m c cc nL s args Ts own) (hM : vx_Met l y ws rm Pc Qc XC mc ms free) (cw : vx_CSW R s args own index y bytes maxL ret hh ws rm mc ms n) (hp : PreS s H Pc As)
    (hg : g.method = m) (hn : As.length = n) (hsize : g.locals.size = nL) (hstack : g.stack = As.reverse ++ rest) (hW : 2 * g.monitorRoom + (rest.map fun v => v.category).sum ≤ 8) (hdg : decode cc g.pc = .ok (.invokestatic index, 3)) (hf : cells + mc ≤ R.cells ∧ slots + ms ≤ R.slots) :
    vx_Run p l e R s m args below meth c H locs cells slots mc ms g rest (Qc As.toArray) XC free := by
  obtain ⟨⟨hrc, hrs, hfr, hlo, hws, hcw⟩, hcode, hini, hy, hlen, hl, hstt⟩ := cw
  have hK : vx_Back l R p e below s args y 3 8 (PreOf R mc ms Pc) (PostOf Qc mc ms free) (vx_Post XC mc ms free) := vx_backW (hh := hh) (bytes := bytes) (maxL := maxL) (ret := ret) hM hp.1 hrc hrs hfr hlo hws hcw (fun a' U hW => word_at hW (Or.inl (by first | rfl | simp [Cond.onTables, Cond.keeps, Cond.steady])) hini)
  obtain ⟨hx, hb, hml, ho, -⟩ := S
  intro T hT X
  rcases vx_callSX X hx (hh := hh) (bytes := bytes) (maxL := maxL) (ret := ret) ho hl hstt hini hcode hy hK hg (hsize.trans hml.symm) (argsL := As) (rest := rest) (fun sig h => hn.trans (hlen sig h)) hstack hW (by rw [hb]; exact hdg)
    (fun vm₁ hW₁ => ⟨hf.1, hf.2, hp.2 (T.setVm vm₁) hT hW₁⟩) with ⟨v, vm₁, ⟨U', l2, c2, s2⟩, hW₁, X', ⟨g', mk, t, L, e1, e2, hq, h1, hL, h2, h3⟩, st⟩ | ⟨q, vm₁, ⟨U', l2, c2, s2⟩, hW₁, X', ⟨g', mk, t, L, E, ce, e1, e2, hq, hce, hcv, hcl, h1, hL, h2, h3⟩, st⟩
  · dsimp only [Pt.U, Pt.locs, Pt.cells, Pt.slots] at X' e1 e2 h1 h2 h3 st
    subst h1; subst h2; subst h3
    exact Or.inl ⟨v, (T.setVm vm₁).calling g' mk As.toArray, t, U', L, hT, X', hL, e1, e2, hq, st⟩
  · dsimp only [Pt.U, Pt.locs, Pt.cells, Pt.slots] at X' e1 e2 h1 h2 h3 st hcl
    subst h1; subst h2; subst h3
    exact Or.inr ⟨q, (T.setVm vm₁).calling g' mk As.toArray, t, U', L, E, ce, hT, X', hL, e1, e2, hq, hce, hcv, vx_cls hW₁ hcl, st⟩
end
end VXH
theorem vx_ofWH {l : Launch} {y : MethodName} {ws ws' : List Cond} {rm : Room} {Pc : Array Value → State → Prop} {Qc : Array Value → State → Outcome → State → Prop} {XC : String → State → State → Prop} {mc ms : Nat} {free : Addr → Prop} {cc : ByteArray} {maxL : Nat} {ret : Option FieldType} {hh : List (Nat × Nat × Nat × Nat)}
    (hy : plainName y.cls = true) (hw : ws = Cond.codeWith y cc maxL ret hh :: ws')
    (body : ∀ p e s m args below meth c s₁, BodyLoose p l y (headSpec ws rm) cc maxL ret e s m args below meth c s₁ → c.maxLocals = maxL → Pc args s →
      W p l e (headSpec ws rm).room s m args below meth c s.heap [] 0 0 (vx_MQ below Qc XC args s mc ms free) (entryFrame m args maxL)) : vx_Met l y ws rm Pc Qc XC mc ms free := by
  refine MetFree.of_bodyS (code := cc) (maxLocals := maxL) (ret := ret) hy ?_ ?_
  · intro args s m h hn
    obtain ⟨m9, meth, c, hn9, h1, h2, h3, h4, -, h5, h6, -⟩ := Cond.codeWith_spec (atoms_spec (ws := ws) h _ (by rw [hw]; exact List.mem_cons_self))
    cases hn.symm.trans hn9
    exact ⟨meth, c, h1, h2, h3, h4, h5, h6⟩
  · intro p e s m args below meth c s₁ B hml hP _
    have hh0 : s₁.heap = s.heap := by rw [B.state]; rfl
    obtain ⟨t, a1, o, b1, b2, b3⟩ := body p e s m args below meth c s₁ B hml hP s₁ hh0 (Stand.of_body B)
    exact ⟨t, o, a1, b1, b2, b3⟩
/-! ===== END ===== -/

/-! ===== BEGIN printed: names, fields, word lists, decode rows ===== -/
end
section
def RX0 : String := "RecyclingLine$Bale"
def TX0 : u_T := fun k => match k with
  | 0 => ("RecyclingLine$Bale", "serial", "I", false)
  | 1 => ("RecyclingLine$Bale", "material", "I", false)
  | 2 => ("RecyclingLine$Bale", "purity", "I", false)
  | 3 => ("RecyclingLine$Bale", "grade", "I", false)
  | _ => ("RecyclingLine$Bale", "heap", "LRecyclingLine$Heap;", true)
def tyX0 : Nat → FieldType := fun k => match k with
  | 0 => .int
  | 1 => .int
  | 2 => .int
  | 3 => .int
  | _ => .object "RecyclingLine$Heap"
theorem nmX0 : ∀ a, a < 5 → ∀ b, b < 5 → a ≠ b → (TX0 a).2.1 ≠ (TX0 b).2.1 := by decide +kernel
theorem tyX0_ok : ∀ k, k < 5 → parseFieldDescriptor (TX0 k).2.2.1 = some (tyX0 k) := by decide +kernel
abbrev cX0_init : ByteArray := prog_2_method_1_code
def yX0_init : MethodName := ⟨RX0, "<init>", "()V"⟩
abbrev cX0_judge : ByteArray := prog_2_method_2_code
def yX0_judge : MethodName := ⟨RX0, "judge", "(II)V"⟩
abbrev cX0_copyFrom : ByteArray := prog_2_method_3_code
def yX0_copyFrom : MethodName := ⟨RX0, "copyFrom", "(LRecyclingLine$Bale;)V"⟩
def RX1 : String := "RecyclingLine$Buyer"
def TX1 : u_T := fun k => match k with
  | 0 => ("RecyclingLine$Buyer", "name", "I", false)
  | 1 => ("RecyclingLine$Buyer", "material", "I", false)
  | 2 => ("RecyclingLine$Buyer", "worstGrade", "I", false)
  | 3 => ("RecyclingLine$Buyer", "price", "I", false)
  | 4 => ("RecyclingLine$Buyer", "tolerance", "I", false)
  | 5 => ("RecyclingLine$Buyer", "limit", "I", false)
  | _ => ("RecyclingLine$Buyer", "paid", "I", false)
def tyX1 : Nat → FieldType := fun k => match k with
  | 0 => .int
  | 1 => .int
  | 2 => .int
  | 3 => .int
  | 4 => .int
  | 5 => .int
  | _ => .int
theorem nmX1 : ∀ a, a < 7 → ∀ b, b < 7 → a ≠ b → (TX1 a).2.1 ≠ (TX1 b).2.1 := by decide +kernel
theorem tyX1_ok : ∀ k, k < 7 → parseFieldDescriptor (TX1 k).2.2.1 = some (tyX1 k) := by decide +kernel
abbrev cX1_init : ByteArray := prog_3_method_1_code
def yX1_init : MethodName := ⟨RX1, "<init>", "()V"⟩
abbrev cX1_takes : ByteArray := prog_3_method_2_code
def yX1_takes : MethodName := ⟨RX1, "takes", "(LRecyclingLine$Bale;)Z"⟩
abbrev cX1_sendsBack : ByteArray := prog_3_method_3_code
def yX1_sendsBack : MethodName := ⟨RX1, "sendsBack", "(LRecyclingLine$Bale;)Z"⟩
abbrev cX1_claimsFor : ByteArray := prog_3_method_4_code
def yX1_claimsFor : MethodName := ⟨RX1, "claimsFor", "(LRecyclingLine$Bale;)Z"⟩
abbrev cX1_payFor : ByteArray := prog_3_method_5_code
def yX1_payFor : MethodName := ⟨RX1, "payFor", "(LRecyclingLine$Bale;I)I"⟩
abbrev cX1_worthOf : ByteArray := prog_3_method_6_code
def yX1_worthOf : MethodName := ⟨RX1, "worthOf", "(I)I"⟩
abbrev cX1_copyFrom : ByteArray := prog_3_method_7_code
def yX1_copyFrom : MethodName := ⟨RX1, "copyFrom", "(LRecyclingLine$Buyer;)V"⟩
def RX2 : String := "RecyclingLine$Heap"
def TX2 : u_T := fun k => match k with
  | 0 => ("RecyclingLine$Heap", "masses", "[I", true)
  | _ => ("RecyclingLine$Heap", "total", "I", false)
def tyX2 : Nat → FieldType := fun k => match k with
  | 0 => .array .int
  | _ => .int
theorem nmX2 : ∀ a, a < 2 → ∀ b, b < 2 → a ≠ b → (TX2 a).2.1 ≠ (TX2 b).2.1 := by decide +kernel
theorem tyX2_ok : ∀ k, k < 2 → parseFieldDescriptor (TX2 k).2.2.1 = some (tyX2 k) := by decide +kernel
abbrev cX2_init : ByteArray := prog_4_method_1_code
def yX2_init : MethodName := ⟨RX2, "<init>", "()V"⟩
abbrev cX2_of : ByteArray := prog_4_method_2_code
def yX2_of : MethodName := ⟨RX2, "of", "(I)I"⟩
abbrev cX2_put : ByteArray := prog_4_method_3_code
def yX2_put : MethodName := ⟨RX2, "put", "(II)V"⟩
abbrev cX2_clear : ByteArray := prog_4_method_4_code
def yX2_clear : MethodName := ⟨RX2, "clear", "()V"⟩
abbrev cX2_copyFrom : ByteArray := prog_4_method_5_code
def yX2_copyFrom : MethodName := ⟨RX2, "copyFrom", "(LRecyclingLine$Heap;)V"⟩
abbrev cX2_putAll : ByteArray := prog_4_method_6_code
def yX2_putAll : MethodName := ⟨RX2, "putAll", "(LRecyclingLine$Heap;)V"⟩
abbrev cX2_move : ByteArray := prog_4_method_7_code
def yX2_move : MethodName := ⟨RX2, "move", "(IILRecyclingLine$Heap;)V"⟩
abbrev cX2_movePortion : ByteArray := prog_4_method_8_code
def yX2_movePortion : MethodName := ⟨RX2, "movePortion", "(ILRecyclingLine$Heap;)V"⟩
abbrev cX2_mostBut : ByteArray := prog_4_method_9_code
def yX2_mostBut : MethodName := ⟨RX2, "mostBut", "(I)I"⟩
def RX3 : String := "RecyclingLine$Hopper"
def TX3 : u_T := fun k => match k with
  | 0 => ("RecyclingLine$Hopper", "ring", "[LRecyclingLine$Parcel;", true)
  | 1 => ("RecyclingLine$Hopper", "first", "I", false)
  | _ => ("RecyclingLine$Hopper", "size", "I", false)
def tyX3 : Nat → FieldType := fun k => match k with
  | 0 => .array (.object "RecyclingLine$Parcel")
  | 1 => .int
  | _ => .int
theorem nmX3 : ∀ a, a < 3 → ∀ b, b < 3 → a ≠ b → (TX3 a).2.1 ≠ (TX3 b).2.1 := by decide +kernel
theorem tyX3_ok : ∀ k, k < 3 → parseFieldDescriptor (TX3 k).2.2.1 = some (tyX3 k) := by decide +kernel
abbrev cX3_init : ByteArray := prog_5_method_1_code
def yX3_init : MethodName := ⟨RX3, "<init>", "()V"⟩
abbrev cX3_isFull : ByteArray := prog_5_method_2_code
def yX3_isFull : MethodName := ⟨RX3, "isFull", "()Z"⟩
abbrev cX3_parcelAt : ByteArray := prog_5_method_3_code
def yX3_parcelAt : MethodName := ⟨RX3, "parcelAt", "(I)LRecyclingLine$Parcel;"⟩
abbrev cX3_addLast : ByteArray := prog_5_method_4_code
def yX3_addLast : MethodName := ⟨RX3, "addLast", "(I)LRecyclingLine$Parcel;"⟩
abbrev cX3_dropFirst : ByteArray := prog_5_method_5_code
def yX3_dropFirst : MethodName := ⟨RX3, "dropFirst", "()V"⟩
abbrev cX3_dropLast : ByteArray := prog_5_method_6_code
def yX3_dropLast : MethodName := ⟨RX3, "dropLast", "()V"⟩
abbrev cX3_totalMass : ByteArray := prog_5_method_7_code
def yX3_totalMass : MethodName := ⟨RX3, "totalMass", "()I"⟩
abbrev cX3_copyFrom : ByteArray := prog_5_method_8_code
def yX3_copyFrom : MethodName := ⟨RX3, "copyFrom", "(LRecyclingLine$Hopper;)V"⟩
def RX4 : String := "RecyclingLine$Line"
def TX4 : u_T := fun k => match k with
  | 0 => ("RecyclingLine$Line", "materials", "I", false)
  | 1 => ("RecyclingLine$Line", "settings", "[I", true)
  | 2 => ("RecyclingLine$Line", "stations", "[LRecyclingLine$Station;", true)
  | 3 => ("RecyclingLine$Line", "stationCount", "I", false)
  | 4 => ("RecyclingLine$Line", "buyers", "[LRecyclingLine$Buyer;", true)
  | 5 => ("RecyclingLine$Line", "buyerCount", "I", false)
  | 6 => ("RecyclingLine$Line", "hopper", "LRecyclingLine$Hopper;", true)
  | 7 => ("RecyclingLine$Line", "stock", "LRecyclingLine$Stock;", true)
  | 8 => ("RecyclingLine$Line", "residue", "LRecyclingLine$Heap;", true)
  | 9 => ("RecyclingLine$Line", "tally", "LRecyclingLine$Tally;", true)
  | 10 => ("RecyclingLine$Line", "balesOf", "LRecyclingLine$Heap;", true)
  | _ => ("RecyclingLine$Line", "ownInBales", "LRecyclingLine$Heap;", true)
def tyX4 : Nat → FieldType := fun k => match k with
  | 0 => .int
  | 1 => .array .int
  | 2 => .array (.object "RecyclingLine$Station")
  | 3 => .int
  | 4 => .array (.object "RecyclingLine$Buyer")
  | 5 => .int
  | 6 => .object "RecyclingLine$Hopper"
  | 7 => .object "RecyclingLine$Stock"
  | 8 => .object "RecyclingLine$Heap"
  | 9 => .object "RecyclingLine$Tally"
  | 10 => .object "RecyclingLine$Heap"
  | _ => .object "RecyclingLine$Heap"
theorem nmX4 : ∀ a, a < 12 → ∀ b, b < 12 → a ≠ b → (TX4 a).2.1 ≠ (TX4 b).2.1 := by decide +kernel
theorem tyX4_ok : ∀ k, k < 12 → parseFieldDescriptor (TX4 k).2.2.1 = some (tyX4 k) := by decide +kernel
abbrev cX4_init : ByteArray := prog_6_method_1_code
def yX4_init : MethodName := ⟨RX4, "<init>", "()V"⟩
abbrev cX4_hasMaterial : ByteArray := prog_6_method_2_code
def yX4_hasMaterial : MethodName := ⟨RX4, "hasMaterial", "(I)Z"⟩
abbrev cX4_stationAt : ByteArray := prog_6_method_3_code
def yX4_stationAt : MethodName := ⟨RX4, "stationAt", "(I)LRecyclingLine$Station;"⟩
abbrev cX4_buyerAt : ByteArray := prog_6_method_4_code
def yX4_buyerAt : MethodName := ⟨RX4, "buyerAt", "(I)LRecyclingLine$Buyer;"⟩
abbrev cX4_buyerNamed : ByteArray := prog_6_method_5_code
def yX4_buyerNamed : MethodName := ⟨RX4, "buyerNamed", "(I)I"⟩
abbrev cX4_heapAt : ByteArray := prog_6_method_6_code
def yX4_heapAt : MethodName := ⟨RX4, "heapAt", "(I)LRecyclingLine$Heap;"⟩
abbrev cX4_parcelsOnBelt : ByteArray := prog_6_method_7_code
def yX4_parcelsOnBelt : MethodName := ⟨RX4, "parcelsOnBelt", "()I"⟩
abbrev cX4_massOnBelt : ByteArray := prog_6_method_8_code
def yX4_massOnBelt : MethodName := ⟨RX4, "massOnBelt", "()I"⟩
abbrev cX4_massInBunkers : ByteArray := prog_6_method_9_code
def yX4_massInBunkers : MethodName := ⟨RX4, "massInBunkers", "()I"⟩
abbrev cX4_greatestTiredness : ByteArray := prog_6_method_10_code
def yX4_greatestTiredness : MethodName := ⟨RX4, "greatestTiredness", "()I"⟩
abbrev cX4_isEmptied : ByteArray := prog_6_method_11_code
def yX4_isEmptied : MethodName := ⟨RX4, "isEmptied", "()Z"⟩
abbrev cX4_addStation : ByteArray := prog_6_method_12_code
def yX4_addStation : MethodName := ⟨RX4, "addStation", "(IIII)V"⟩
abbrev cX4_makeTicks : ByteArray := prog_6_method_13_code
def yX4_makeTicks : MethodName := ⟨RX4, "makeTicks", "(I)V"⟩
abbrev cX4_leaveBelt : ByteArray := prog_6_method_14_code
def yX4_leaveBelt : MethodName := ⟨RX4, "leaveBelt", "()V"⟩
abbrev cX4_goesRound : ByteArray := prog_6_method_15_code
def yX4_goesRound : MethodName := ⟨RX4, "goesRound", "(LRecyclingLine$Parcel;)Z"⟩
abbrev cX4_isTarget : ByteArray := prog_6_method_16_code
def yX4_isTarget : MethodName := ⟨RX4, "isTarget", "(I)Z"⟩
abbrev cX4_moveBelt : ByteArray := prog_6_method_17_code
def yX4_moveBelt : MethodName := ⟨RX4, "moveBelt", "()V"⟩
abbrev cX4_feedBelt : ByteArray := prog_6_method_18_code
def yX4_feedBelt : MethodName := ⟨RX4, "feedBelt", "()V"⟩
abbrev cX4_pressBales : ByteArray := prog_6_method_19_code
def yX4_pressBales : MethodName := ⟨RX4, "pressBales", "(LRecyclingLine$Station;)V"⟩
abbrev cX4_pressBale : ByteArray := prog_6_method_20_code
def yX4_pressBale : MethodName := ⟨RX4, "pressBale", "(LRecyclingLine$Station;)V"⟩
abbrev cX4_takeBack : ByteArray := prog_6_method_21_code
def yX4_takeBack : MethodName := ⟨RX4, "takeBack", "(LRecyclingLine$Bale;)V"⟩
abbrev cX4_handOver : ByteArray := prog_6_method_22_code
def yX4_handOver : MethodName := ⟨RX4, "handOver", "(LRecyclingLine$Bale;LRecyclingLine$Buyer;)I"⟩
abbrev cX4_reset : ByteArray := prog_6_method_23_code
def yX4_reset : MethodName := ⟨RX4, "reset", "()V"⟩
abbrev cX4_copyFrom : ByteArray := prog_6_method_24_code
def yX4_copyFrom : MethodName := ⟨RX4, "copyFrom", "(LRecyclingLine$Line;)V"⟩
def RX5 : String := "RecyclingLine$Parcel"
def TX5 : u_T := fun k => match k with
  | 0 => ("RecyclingLine$Parcel", "heap", "LRecyclingLine$Heap;", true)
  | _ => ("RecyclingLine$Parcel", "rounds", "I", false)
def tyX5 : Nat → FieldType := fun k => match k with
  | 0 => .object "RecyclingLine$Heap"
  | _ => .int
theorem nmX5 : ∀ a, a < 2 → ∀ b, b < 2 → a ≠ b → (TX5 a).2.1 ≠ (TX5 b).2.1 := by decide +kernel
theorem tyX5_ok : ∀ k, k < 2 → parseFieldDescriptor (TX5 k).2.2.1 = some (tyX5 k) := by decide +kernel
abbrev cX5_init : ByteArray := prog_7_method_1_code
def yX5_init : MethodName := ⟨RX5, "<init>", "()V"⟩
abbrev cX5_copyFrom : ByteArray := prog_7_method_2_code
def yX5_copyFrom : MethodName := ⟨RX5, "copyFrom", "(LRecyclingLine$Parcel;)V"⟩
def RX6 : String := "RecyclingLine$Station"
def TX6 : u_T := fun k => match k with
  | 0 => ("RecyclingLine$Station", "target", "I", false)
  | 1 => ("RecyclingLine$Station", "pickers", "I", false)
  | 2 => ("RecyclingLine$Station", "rate", "I", false)
  | 3 => ("RecyclingLine$Station", "error", "I", false)
  | 4 => ("RecyclingLine$Station", "tiredness", "I", false)
  | 5 => ("RecyclingLine$Station", "pressed", "I", false)
  | 6 => ("RecyclingLine$Station", "picked", "I", false)
  | 7 => ("RecyclingLine$Station", "slot", "LRecyclingLine$Parcel;", false)
  | _ => ("RecyclingLine$Station", "bunker", "LRecyclingLine$Heap;", true)
def tyX6 : Nat → FieldType := fun k => match k with
  | 0 => .int
  | 1 => .int
  | 2 => .int
  | 3 => .int
  | 4 => .int
  | 5 => .int
  | 6 => .int
  | 7 => .object "RecyclingLine$Parcel"
  | _ => .object "RecyclingLine$Heap"
theorem nmX6 : ∀ a, a < 9 → ∀ b, b < 9 → a ≠ b → (TX6 a).2.1 ≠ (TX6 b).2.1 := by decide +kernel
theorem tyX6_ok : ∀ k, k < 9 → parseFieldDescriptor (TX6 k).2.2.1 = some (tyX6 k) := by decide +kernel
abbrev cX6_init : ByteArray := prog_8_method_1_code
def yX6_init : MethodName := ⟨RX6, "<init>", "()V"⟩
abbrev cX6_capacity : ByteArray := prog_8_method_2_code
def yX6_capacity : MethodName := ⟨RX6, "capacity", "()I"⟩
abbrev cX6_isSlotEmpty : ByteArray := prog_8_method_3_code
def yX6_isSlotEmpty : MethodName := ⟨RX6, "isSlotEmpty", "()Z"⟩
abbrev cX6_relieve : ByteArray := prog_8_method_4_code
def yX6_relieve : MethodName := ⟨RX6, "relieve", "(I)V"⟩
abbrev cX6_pick : ByteArray := prog_8_method_5_code
def yX6_pick : MethodName := ⟨RX6, "pick", "(I)V"⟩
abbrev cX6_copyFrom : ByteArray := prog_8_method_6_code
def yX6_copyFrom : MethodName := ⟨RX6, "copyFrom", "(LRecyclingLine$Station;)V"⟩
def RX7 : String := "RecyclingLine$Stock"
def TX7 : u_T := fun k => match k with
  | 0 => ("RecyclingLine$Stock", "bales", "[LRecyclingLine$Bale;", true)
  | _ => ("RecyclingLine$Stock", "size", "I", false)
def tyX7 : Nat → FieldType := fun k => match k with
  | 0 => .array (.object "RecyclingLine$Bale")
  | _ => .int
theorem nmX7 : ∀ a, a < 2 → ∀ b, b < 2 → a ≠ b → (TX7 a).2.1 ≠ (TX7 b).2.1 := by decide +kernel
theorem tyX7_ok : ∀ k, k < 2 → parseFieldDescriptor (TX7 k).2.2.1 = some (tyX7 k) := by decide +kernel
abbrev cX7_init : ByteArray := prog_9_method_1_code
def yX7_init : MethodName := ⟨RX7, "<init>", "()V"⟩
abbrev cX7_baleAt : ByteArray := prog_9_method_2_code
def yX7_baleAt : MethodName := ⟨RX7, "baleAt", "(I)LRecyclingLine$Bale;"⟩
abbrev cX7_addLast : ByteArray := prog_9_method_3_code
def yX7_addLast : MethodName := ⟨RX7, "addLast", "()LRecyclingLine$Bale;"⟩
abbrev cX7_dropBale : ByteArray := prog_9_method_4_code
def yX7_dropBale : MethodName := ⟨RX7, "dropBale", "(I)V"⟩
abbrev cX7_totalMass : ByteArray := prog_9_method_5_code
def yX7_totalMass : MethodName := ⟨RX7, "totalMass", "()I"⟩
abbrev cX7_copyFrom : ByteArray := prog_9_method_6_code
def yX7_copyFrom : MethodName := ⟨RX7, "copyFrom", "(LRecyclingLine$Stock;)V"⟩
def RX8 : String := "RecyclingLine$Tally"
def TX8 : u_T := fun k => match k with
  | 0 => ("RecyclingLine$Tally", "ticks", "I", false)
  | 1 => ("RecyclingLine$Tally", "pressed", "I", false)
  | 2 => ("RecyclingLine$Tally", "pressedA", "I", false)
  | 3 => ("RecyclingLine$Tally", "wentRound", "I", false)
  | 4 => ("RecyclingLine$Tally", "sold", "I", false)
  | 5 => ("RecyclingLine$Tally", "sentBack", "I", false)
  | 6 => ("RecyclingLine$Tally", "claims", "I", false)
  | 7 => ("RecyclingLine$Tally", "massLoaded", "I", false)
  | 8 => ("RecyclingLine$Tally", "massSold", "I", false)
  | _ => ("RecyclingLine$Tally", "massCleaned", "I", false)
def tyX8 : Nat → FieldType := fun k => match k with
  | 0 => .int
  | 1 => .int
  | 2 => .int
  | 3 => .int
  | 4 => .int
  | 5 => .int
  | 6 => .int
  | 7 => .int
  | 8 => .int
  | _ => .int
theorem nmX8 : ∀ a, a < 10 → ∀ b, b < 10 → a ≠ b → (TX8 a).2.1 ≠ (TX8 b).2.1 := by decide +kernel
theorem tyX8_ok : ∀ k, k < 10 → parseFieldDescriptor (TX8 k).2.2.1 = some (tyX8 k) := by decide +kernel
abbrev cX8_init : ByteArray := prog_10_method_1_code
def yX8_init : MethodName := ⟨RX8, "<init>", "()V"⟩
abbrev cX8_copyFrom : ByteArray := prog_10_method_2_code
def yX8_copyFrom : MethodName := ⟨RX8, "copyFrom", "(LRecyclingLine$Tally;)V"⟩
def RX9 : String := "RecyclingLine$TextReader"
def TX9 : u_T := fun k => match k with
  | 0 => ("RecyclingLine$TextReader", "text", "[B", true)
  | 1 => ("RecyclingLine$TextReader", "length", "I", true)
  | 2 => ("RecyclingLine$TextReader", "line", "LRecyclingLine$Line;", true)
  | 3 => ("RecyclingLine$TextReader", "token", "I", false)
  | 4 => ("RecyclingLine$TextReader", "start", "I", false)
  | 5 => ("RecyclingLine$TextReader", "end", "I", false)
  | 6 => ("RecyclingLine$TextReader", "value", "I", false)
  | _ => ("RecyclingLine$TextReader", "failure", "I", false)
def tyX9 : Nat → FieldType := fun k => match k with
  | 0 => .array .byte
  | 1 => .int
  | 2 => .object "RecyclingLine$Line"
  | 3 => .int
  | 4 => .int
  | 5 => .int
  | 6 => .int
  | _ => .int
theorem nmX9 : ∀ a, a < 8 → ∀ b, b < 8 → a ≠ b → (TX9 a).2.1 ≠ (TX9 b).2.1 := by decide +kernel
theorem tyX9_ok : ∀ k, k < 8 → parseFieldDescriptor (TX9 k).2.2.1 = some (tyX9 k) := by decide +kernel
abbrev cX9_init : ByteArray := prog_11_method_1_code
def yX9_init : MethodName := ⟨RX9, "<init>", "([BILRecyclingLine$Line;)V"⟩
abbrev cX9_nameCode : ByteArray := prog_11_method_2_code
def yX9_nameCode : MethodName := ⟨RX9, "nameCode", "([BII)I"⟩
abbrev cX9_readText : ByteArray := prog_11_method_3_code
def yX9_readText : MethodName := ⟨RX9, "readText", "()I"⟩
abbrev cX9_readStatement : ByteArray := prog_11_method_4_code
def yX9_readStatement : MethodName := ⟨RX9, "readStatement", "()V"⟩
abbrev cX9_readStation : ByteArray := prog_11_method_5_code
def yX9_readStation : MethodName := ⟨RX9, "readStation", "()V"⟩
abbrev cX9_readSetting : ByteArray := prog_11_method_6_code
def yX9_readSetting : MethodName := ⟨RX9, "readSetting", "()V"⟩
abbrev cX9_readLoad : ByteArray := prog_11_method_7_code
def yX9_readLoad : MethodName := ⟨RX9, "readLoad", "()V"⟩
abbrev cX9_readBuyer : ByteArray := prog_11_method_8_code
def yX9_readBuyer : MethodName := ⟨RX9, "readBuyer", "()V"⟩
abbrev cX9_readName : ByteArray := prog_11_method_9_code
def yX9_readName : MethodName := ⟨RX9, "readName", "()I"⟩
abbrev cX9_readNumber : ByteArray := prog_11_method_10_code
def yX9_readNumber : MethodName := ⟨RX9, "readNumber", "(II)I"⟩
abbrev cX9_readSemicolon : ByteArray := prog_11_method_11_code
def yX9_readSemicolon : MethodName := ⟨RX9, "readSemicolon", "()V"⟩
abbrev cX9_fail : ByteArray := prog_11_method_12_code
def yX9_fail : MethodName := ⟨RX9, "fail", "(I)V"⟩
abbrev cX9_isKeyword : ByteArray := prog_11_method_13_code
def yX9_isKeyword : MethodName := ⟨RX9, "isKeyword", "()Z"⟩
abbrev cX9_isWord : ByteArray := prog_11_method_14_code
def yX9_isWord : MethodName := ⟨RX9, "isWord", "(Ljava/lang/String;)Z"⟩
abbrev cX9_nextToken : ByteArray := prog_11_method_15_code
def yX9_nextToken : MethodName := ⟨RX9, "nextToken", "()V"⟩
abbrev cX9_isBlank : ByteArray := prog_11_method_16_code
def yX9_isBlank : MethodName := ⟨RX9, "isBlank", "(B)Z"⟩
abbrev cX9_isLetter : ByteArray := prog_11_method_17_code
def yX9_isLetter : MethodName := ⟨RX9, "isLetter", "(B)Z"⟩
abbrev cX9_isDigit : ByteArray := prog_11_method_18_code
def yX9_isDigit : MethodName := ⟨RX9, "isDigit", "(B)Z"⟩
def RX10 : String := "RecyclingLine"
def TX10 : u_T := fun k => match k with
  | 0 => ("RecyclingLine", "input", "[B", true)
  | 1 => ("RecyclingLine", "inputLength", "I", false)
  | 2 => ("RecyclingLine", "line", "LRecyclingLine$Line;", false)
  | 3 => ("RecyclingLine", "spare", "LRecyclingLine$Line;", false)
  | 4 => ("RecyclingLine", "past", "[LRecyclingLine$Line;", true)
  | 5 => ("RecyclingLine", "pastSize", "I", false)
  | _ => ("RecyclingLine", "pastNext", "I", false)
def tyX10 : Nat → FieldType := fun k => match k with
  | 0 => .array .byte
  | 1 => .int
  | 2 => .object "RecyclingLine$Line"
  | 3 => .object "RecyclingLine$Line"
  | 4 => .array (.object "RecyclingLine$Line")
  | 5 => .int
  | _ => .int
theorem nmX10 : ∀ a, a < 7 → ∀ b, b < 7 → a ≠ b → (TX10 a).2.1 ≠ (TX10 b).2.1 := by decide +kernel
theorem tyX10_ok : ∀ k, k < 7 → parseFieldDescriptor (TX10 k).2.2.1 = some (tyX10 k) := by decide +kernel
abbrev cX10_init : ByteArray := prog_1_method_1_code
def yX10_init : MethodName := ⟨RX10, "<init>", "()V"⟩
abbrev cX10_append : ByteArray := prog_1_method_2_code
def yX10_append : MethodName := ⟨RX10, "append", "(IIIII)I"⟩
abbrev cX10_appendBytes : ByteArray := prog_1_method_3_code
def yX10_appendBytes : MethodName := ⟨RX10, "appendBytes", "(I)V"⟩
abbrev cX10_truncate : ByteArray := prog_1_method_4_code
def yX10_truncate : MethodName := ⟨RX10, "truncate", "(I)Z"⟩
abbrev cX10_bufferLength : ByteArray := prog_1_method_5_code
def yX10_bufferLength : MethodName := ⟨RX10, "bufferLength", "()I"⟩
abbrev cX10_read : ByteArray := prog_1_method_6_code
def yX10_read : MethodName := ⟨RX10, "read", "()I"⟩
abbrev cX10_find : ByteArray := prog_1_method_7_code
def yX10_find : MethodName := ⟨RX10, "find", "()I"⟩
abbrev cX10_line : ByteArray := prog_1_method_8_code
def yX10_line : MethodName := ⟨RX10, "line", "(I)I"⟩
abbrev cX10_setting : ByteArray := prog_1_method_9_code
def yX10_setting : MethodName := ⟨RX10, "setting", "(I)I"⟩
abbrev cX10_station : ByteArray := prog_1_method_10_code
def yX10_station : MethodName := ⟨RX10, "station", "(II)I"⟩
abbrev cX10_mass : ByteArray := prog_1_method_11_code
def yX10_mass : MethodName := ⟨RX10, "mass", "(II)I"⟩
abbrev cX10_bale : ByteArray := prog_1_method_12_code
def yX10_bale : MethodName := ⟨RX10, "bale", "(II)I"⟩
abbrev cX10_buyer : ByteArray := prog_1_method_13_code
def yX10_buyer : MethodName := ⟨RX10, "buyer", "(II)I"⟩
abbrev cX10_balance : ByteArray := prog_1_method_14_code
def yX10_balance : MethodName := ⟨RX10, "balance", "(I)J"⟩
abbrev cX10_purity : ByteArray := prog_1_method_15_code
def yX10_purity : MethodName := ⟨RX10, "purity", "(I)D"⟩
abbrev cX10_loss : ByteArray := prog_1_method_16_code
def yX10_loss : MethodName := ⟨RX10, "loss", "()F"⟩
abbrev cX10_load : ByteArray := prog_1_method_17_code
def yX10_load : MethodName := ⟨RX10, "load", "(II)I"⟩
abbrev cX10_set : ByteArray := prog_1_method_18_code
def yX10_set : MethodName := ⟨RX10, "set", "(II)I"⟩
abbrev cX10_staff : ByteArray := prog_1_method_19_code
def yX10_staff : MethodName := ⟨RX10, "staff", "(II)I"⟩
abbrev cX10_run : ByteArray := prog_1_method_20_code
def yX10_run : MethodName := ⟨RX10, "run", "(I)I"⟩
abbrev cX10_sell : ByteArray := prog_1_method_21_code
def yX10_sell : MethodName := ⟨RX10, "sell", "(II)I"⟩
abbrev cX10_clean : ByteArray := prog_1_method_22_code
def yX10_clean : MethodName := ⟨RX10, "clean", "(I)I"⟩
abbrev cX10_undo : ByteArray := prog_1_method_23_code
def yX10_undo : MethodName := ⟨RX10, "undo", "()I"⟩
abbrev cX10_bestBuyer : ByteArray := prog_1_method_24_code
def yX10_bestBuyer : MethodName := ⟨RX10, "bestBuyer", "(I)I"⟩
abbrev cX10_outlook : ByteArray := prog_1_method_25_code
def yX10_outlook : MethodName := ⟨RX10, "outlook", "(II)I"⟩
abbrev cX10_bestStaff : ByteArray := prog_1_method_26_code
def yX10_bestStaff : MethodName := ⟨RX10, "bestStaff", "(II)I"⟩
abbrev cX10_pickedWith : ByteArray := prog_1_method_27_code
def yX10_pickedWith : MethodName := ⟨RX10, "pickedWith", "(III)I"⟩
abbrev cX10_emptied : ByteArray := prog_1_method_28_code
def yX10_emptied : MethodName := ⟨RX10, "emptied", "()I"⟩
abbrev cX10_spareLine : ByteArray := prog_1_method_29_code
def yX10_spareLine : MethodName := ⟨RX10, "spareLine", "()LRecyclingLine$Line;"⟩
abbrev cX10_copyOfLine : ByteArray := prog_1_method_30_code
def yX10_copyOfLine : MethodName := ⟨RX10, "copyOfLine", "()LRecyclingLine$Line;"⟩
abbrev cX10_remember : ByteArray := prog_1_method_31_code
def yX10_remember : MethodName := ⟨RX10, "remember", "()V"⟩
def RX11 : String := "RecyclingLineModel"
def TX11 : u_T := fun k => match k with
  | 0 => ("RecyclingLineModel", "thrown", "I", false)
  | 1 => ("RecyclingLineModel", "ranges", "[I", true)
  | 2 => ("RecyclingLineModel", "told", "[I", true)
  | 3 => ("RecyclingLineModel", "draft", "[I", true)
  | 4 => ("RecyclingLineModel", "names", "[J", true)
  | 5 => ("RecyclingLineModel", "draftNames", "[J", true)
  | 6 => ("RecyclingLineModel", "row", "[I", true)
  | 7 => ("RecyclingLineModel", "draftRow", "[I", true)
  | 8 => ("RecyclingLineModel", "aside", "[I", true)
  | 9 => ("RecyclingLineModel", "kept", "[I", true)
  | 10 => ("RecyclingLineModel", "changes", "I", false)
  | 11 => ("RecyclingLineModel", "buffer", "[I", true)
  | 12 => ("RecyclingLineModel", "filled", "I", false)
  | 13 => ("RecyclingLineModel", "size", "I", false)
  | 14 => ("RecyclingLineModel", "to", "I", false)
  | 15 => ("RecyclingLineModel", "from", "I", false)
  | 16 => ("RecyclingLineModel", "sort", "I", false)
  | 17 => ("RecyclingLineModel", "number", "I", false)
  | 18 => ("RecyclingLineModel", "errorKind", "I", false)
  | 19 => ("RecyclingLineModel", "errorAt", "I", false)
  | 20 => ("RecyclingLineModel", "one", "[I", true)
  | 21 => ("RecyclingLineModel", "taken", "[I", true)
  | _ => ("RecyclingLineModel", "best", "I", false)
def tyX11 : Nat → FieldType := fun k => match k with
  | 0 => .int
  | 1 => .array .int
  | 2 => .array .int
  | 3 => .array .int
  | 4 => .array .long
  | 5 => .array .long
  | 6 => .array .int
  | 7 => .array .int
  | 8 => .array .int
  | 9 => .array .int
  | 10 => .int
  | 11 => .array .int
  | 12 => .int
  | 13 => .int
  | 14 => .int
  | 15 => .int
  | 16 => .int
  | 17 => .int
  | 18 => .int
  | 19 => .int
  | 20 => .array .int
  | 21 => .array .int
  | _ => .int
theorem nmX11 : ∀ a, a < 23 → ∀ b, b < 23 → a ≠ b → (TX11 a).2.1 ≠ (TX11 b).2.1 := by decide +kernel
theorem tyX11_ok : ∀ k, k < 23 → parseFieldDescriptor (TX11 k).2.2.1 = some (tyX11 k) := by decide +kernel
abbrev cX11_thrown : ByteArray := prog_13_method_1_code
def yX11_thrown : MethodName := ⟨RX11, "thrown", "()I"⟩
abbrev cX11_isIn : ByteArray := prog_13_method_2_code
def yX11_isIn : MethodName := ⟨RX11, "isIn", "(JJJ)Z"⟩
abbrev cX11_fails : ByteArray := prog_13_method_3_code
def yX11_fails : MethodName := ⟨RX11, "fails", "(ZZZ)Z"⟩
abbrev cX11_init : ByteArray := prog_13_method_4_code
def yX11_init : MethodName := ⟨RX11, "<init>", "()V"⟩
abbrev cX11_lays : ByteArray := prog_13_method_5_code
def yX11_lays : MethodName := ⟨RX11, "lays", "()V"⟩
abbrev cX11_becomes : ByteArray := prog_13_method_6_code
def yX11_becomes : MethodName := ⟨RX11, "becomes", "()V"⟩
abbrev cX11_remembers : ByteArray := prog_13_method_7_code
def yX11_remembers : MethodName := ⟨RX11, "remembers", "()V"⟩
abbrev cX11_undo : ByteArray := prog_13_method_8_code
def yX11_undo : MethodName := ⟨RX11, "undo", "()I"⟩
abbrev cX11_materials : ByteArray := prog_13_method_9_code
def yX11_materials : MethodName := ⟨RX11, "materials", "()I"⟩
abbrev cX11_stations : ByteArray := prog_13_method_10_code
def yX11_stations : MethodName := ⟨RX11, "stations", "()I"⟩
abbrev cX11_parcelAt : ByteArray := prog_13_method_11_code
def yX11_parcelAt : MethodName := ⟨RX11, "parcelAt", "(I)I"⟩
abbrev cX11_slotAt : ByteArray := prog_13_method_12_code
def yX11_slotAt : MethodName := ⟨RX11, "slotAt", "(I)I"⟩
abbrev cX11_placeAt : ByteArray := prog_13_method_13_code
def yX11_placeAt : MethodName := ⟨RX11, "placeAt", "(II)I"⟩
abbrev cX11_storedAt : ByteArray := prog_13_method_14_code
def yX11_storedAt : MethodName := ⟨RX11, "storedAt", "(II)I"⟩
abbrev cX11_targetOf : ByteArray := prog_13_method_15_code
def yX11_targetOf : MethodName := ⟨RX11, "targetOf", "(I)I"⟩
abbrev cX11_totalOf : ByteArray := prog_13_method_16_code
def yX11_totalOf : MethodName := ⟨RX11, "totalOf", "([II)I"⟩
abbrev cX11_total : ByteArray := prog_13_method_17_code
def yX11_total : MethodName := ⟨RX11, "total", "(I)I"⟩
abbrev cX11_adds : ByteArray := prog_13_method_18_code
def yX11_adds : MethodName := ⟨RX11, "adds", "(I)V"⟩
abbrev cX11_append : ByteArray := prog_13_method_19_code
def yX11_append : MethodName := ⟨RX11, "append", "(IIIII)I"⟩
abbrev cX11_truncate : ByteArray := prog_13_method_20_code
def yX11_truncate : MethodName := ⟨RX11, "truncate", "(I)Z"⟩
abbrev cX11_bufferLength : ByteArray := prog_13_method_21_code
def yX11_bufferLength : MethodName := ⟨RX11, "bufferLength", "()I"⟩
abbrev cX11_byteAt : ByteArray := prog_13_method_22_code
def yX11_byteAt : MethodName := ⟨RX11, "byteAt", "(I)I"⟩
abbrev cX11_isSmall : ByteArray := prog_13_method_23_code
def yX11_isSmall : MethodName := ⟨RX11, "isSmall", "(I)Z"⟩
abbrev cX11_isDigit : ByteArray := prog_13_method_24_code
def yX11_isDigit : MethodName := ⟨RX11, "isDigit", "(I)Z"⟩
abbrev cX11_go : ByteArray := prog_13_method_25_code
def yX11_go : MethodName := ⟨RX11, "go", "()V"⟩
abbrev cX11_isWord : ByteArray := prog_13_method_26_code
def yX11_isWord : MethodName := ⟨RX11, "isWord", "(Ljava/lang/String;)Z"⟩
abbrev cX11_isName : ByteArray := prog_13_method_27_code
def yX11_isName : MethodName := ⟨RX11, "isName", "()Z"⟩
abbrev cX11_bad : ByteArray := prog_13_method_28_code
def yX11_bad : MethodName := ⟨RX11, "bad", "(I)Z"⟩
abbrev cX11_letters : ByteArray := prog_13_method_29_code
def yX11_letters : MethodName := ⟨RX11, "letters", "(II)J"⟩
abbrev cX11_buyerWith : ByteArray := prog_13_method_30_code
def yX11_buyerWith : MethodName := ⟨RX11, "buyerWith", "(J[JI)I"⟩
abbrev cX11_reads : ByteArray := prog_13_method_31_code
def yX11_reads : MethodName := ⟨RX11, "reads", "([IIII)Z"⟩
abbrev cX11_readsStation : ByteArray := prog_13_method_32_code
def yX11_readsStation : MethodName := ⟨RX11, "readsStation", "()Z"⟩
abbrev cX11_readsSetting : ByteArray := prog_13_method_33_code
def yX11_readsSetting : MethodName := ⟨RX11, "readsSetting", "()Z"⟩
abbrev cX11_readsLoad : ByteArray := prog_13_method_34_code
def yX11_readsLoad : MethodName := ⟨RX11, "readsLoad", "()Z"⟩
abbrev cX11_readsBuyer : ByteArray := prog_13_method_35_code
def yX11_readsBuyer : MethodName := ⟨RX11, "readsBuyer", "()Z"⟩
abbrev cX11_ends : ByteArray := prog_13_method_36_code
def yX11_ends : MethodName := ⟨RX11, "ends", "()Z"⟩
abbrev cX11_readsAll : ByteArray := prog_13_method_37_code
def yX11_readsAll : MethodName := ⟨RX11, "readsAll", "()Z"⟩
abbrev cX11_read : ByteArray := prog_13_method_38_code
def yX11_read : MethodName := ⟨RX11, "read", "()I"⟩
abbrev cX11_find : ByteArray := prog_13_method_39_code
def yX11_find : MethodName := ⟨RX11, "find", "()I"⟩
abbrev cX11_mostOf : ByteArray := prog_13_method_40_code
def yX11_mostOf : MethodName := ⟨RX11, "mostOf", "(II)I"⟩
abbrev cX11_takes : ByteArray := prog_13_method_41_code
def yX11_takes : MethodName := ⟨RX11, "takes", "(II)V"⟩
abbrev cX11_lays_ : ByteArray := prog_13_method_42_code
def yX11_lays_ : MethodName := ⟨RX11, "lays", "(I)V"⟩
abbrev cX11_joins : ByteArray := prog_13_method_43_code
def yX11_joins : MethodName := ⟨RX11, "joins", "(II)V"⟩
abbrev cX11_waits : ByteArray := prog_13_method_44_code
def yX11_waits : MethodName := ⟨RX11, "waits", "(II)V"⟩
abbrev cX11_isTarget : ByteArray := prog_13_method_45_code
def yX11_isTarget : MethodName := ⟨RX11, "isTarget", "(I)Z"⟩
abbrev cX11_leaves : ByteArray := prog_13_method_46_code
def yX11_leaves : MethodName := ⟨RX11, "leaves", "()V"⟩
abbrev cX11_moves : ByteArray := prog_13_method_47_code
def yX11_moves : MethodName := ⟨RX11, "moves", "()V"⟩
abbrev cX11_capacity : ByteArray := prog_13_method_48_code
def yX11_capacity : MethodName := ⟨RX11, "capacity", "(I)I"⟩
abbrev cX11_goes : ByteArray := prog_13_method_49_code
def yX11_goes : MethodName := ⟨RX11, "goes", "(III)V"⟩
abbrev cX11_picks : ByteArray := prog_13_method_50_code
def yX11_picks : MethodName := ⟨RX11, "picks", "(I)V"⟩
abbrev cX11_gradeOf : ByteArray := prog_13_method_51_code
def yX11_gradeOf : MethodName := ⟨RX11, "gradeOf", "(I)I"⟩
abbrev cX11_presses : ByteArray := prog_13_method_52_code
def yX11_presses : MethodName := ⟨RX11, "presses", "(I)V"⟩
abbrev cX11_ticks : ByteArray := prog_13_method_53_code
def yX11_ticks : MethodName := ⟨RX11, "ticks", "(I)V"⟩
abbrev cX11_isStation : ByteArray := prog_13_method_54_code
def yX11_isStation : MethodName := ⟨RX11, "isStation", "(I)Z"⟩
abbrev cX11_isMaterial : ByteArray := prog_13_method_55_code
def yX11_isMaterial : MethodName := ⟨RX11, "isMaterial", "(I)Z"⟩
abbrev cX11_isBale : ByteArray := prog_13_method_56_code
def yX11_isBale : MethodName := ⟨RX11, "isBale", "(I)Z"⟩
abbrev cX11_isBuyer : ByteArray := prog_13_method_57_code
def yX11_isBuyer : MethodName := ⟨RX11, "isBuyer", "(I)Z"⟩
abbrev cX11_onBelt : ByteArray := prog_13_method_58_code
def yX11_onBelt : MethodName := ⟨RX11, "onBelt", "()I"⟩
abbrev cX11_line : ByteArray := prog_13_method_59_code
def yX11_line : MethodName := ⟨RX11, "line", "(I)I"⟩
abbrev cX11_setting : ByteArray := prog_13_method_60_code
def yX11_setting : MethodName := ⟨RX11, "setting", "(I)I"⟩
abbrev cX11_hasParcel : ByteArray := prog_13_method_61_code
def yX11_hasParcel : MethodName := ⟨RX11, "hasParcel", "(I)Z"⟩
abbrev cX11_station : ByteArray := prog_13_method_62_code
def yX11_station : MethodName := ⟨RX11, "station", "(II)I"⟩
abbrev cX11_mass : ByteArray := prog_13_method_63_code
def yX11_mass : MethodName := ⟨RX11, "mass", "(II)I"⟩
abbrev cX11_bale : ByteArray := prog_13_method_64_code
def yX11_bale : MethodName := ⟨RX11, "bale", "(II)I"⟩
abbrev cX11_buyer : ByteArray := prog_13_method_65_code
def yX11_buyer : MethodName := ⟨RX11, "buyer", "(II)I"⟩
abbrev cX11_balance : ByteArray := prog_13_method_66_code
def yX11_balance : MethodName := ⟨RX11, "balance", "(I)J"⟩
abbrev cX11_purity : ByteArray := prog_13_method_67_code
def yX11_purity : MethodName := ⟨RX11, "purity", "(I)D"⟩
abbrev cX11_loss : ByteArray := prog_13_method_68_code
def yX11_loss : MethodName := ⟨RX11, "loss", "()F"⟩
abbrev cX11_load : ByteArray := prog_13_method_69_code
def yX11_load : MethodName := ⟨RX11, "load", "(II)I"⟩
abbrev cX11_set : ByteArray := prog_13_method_70_code
def yX11_set : MethodName := ⟨RX11, "set", "(II)I"⟩
abbrev cX11_staffs : ByteArray := prog_13_method_71_code
def yX11_staffs : MethodName := ⟨RX11, "staffs", "(II)I"⟩
abbrev cX11_staff : ByteArray := prog_13_method_72_code
def yX11_staff : MethodName := ⟨RX11, "staff", "(II)I"⟩
abbrev cX11_run : ByteArray := prog_13_method_73_code
def yX11_run : MethodName := ⟨RX11, "run", "(I)I"⟩
abbrev cX11_ofBuyer : ByteArray := prog_13_method_74_code
def yX11_ofBuyer : MethodName := ⟨RX11, "ofBuyer", "(II)I"⟩
abbrev cX11_takesBale : ByteArray := prog_13_method_75_code
def yX11_takesBale : MethodName := ⟨RX11, "takesBale", "(II)Z"⟩
abbrev cX11_impurity : ByteArray := prog_13_method_76_code
def yX11_impurity : MethodName := ⟨RX11, "impurity", "(I)I"⟩
abbrev cX11_sendsBack : ByteArray := prog_13_method_77_code
def yX11_sendsBack : MethodName := ⟨RX11, "sendsBack", "(II)Z"⟩
abbrev cX11_pays : ByteArray := prog_13_method_78_code
def yX11_pays : MethodName := ⟨RX11, "pays", "(II)I"⟩
abbrev cX11_sell : ByteArray := prog_13_method_79_code
def yX11_sell : MethodName := ⟨RX11, "sell", "(II)I"⟩
abbrev cX11_clean : ByteArray := prog_13_method_80_code
def yX11_clean : MethodName := ⟨RX11, "clean", "(I)I"⟩
abbrev cX11_goesAside : ByteArray := prog_13_method_81_code
def yX11_goesAside : MethodName := ⟨RX11, "goesAside", "()V"⟩
abbrev cX11_comesBack : ByteArray := prog_13_method_82_code
def yX11_comesBack : MethodName := ⟨RX11, "comesBack", "()V"⟩
abbrev cX11_bestBuyer : ByteArray := prog_13_method_83_code
def yX11_bestBuyer : MethodName := ⟨RX11, "bestBuyer", "(I)I"⟩
abbrev cX11_outlook : ByteArray := prog_13_method_84_code
def yX11_outlook : MethodName := ⟨RX11, "outlook", "(II)I"⟩
abbrev cX11_bestStaff : ByteArray := prog_13_method_85_code
def yX11_bestStaff : MethodName := ⟨RX11, "bestStaff", "(II)I"⟩
abbrev cX11_isEmpty : ByteArray := prog_13_method_86_code
def yX11_isEmpty : MethodName := ⟨RX11, "isEmpty", "()Z"⟩
abbrev cX11_emptied : ByteArray := prog_13_method_87_code
def yX11_emptied : MethodName := ⟨RX11, "emptied", "()I"⟩
def RJx145de : String := "java/io/Serializable"
def TJx145de : u_T := fun k => match k with
  | _ => ("", "", "", false)
def tyJx145de : Nat → FieldType := fun k => match k with
  | _ => .int
def RJx9f9b0 : String := "java/lang/CharSequence"
def TJx9f9b0 : u_T := fun k => match k with
  | _ => ("", "", "", false)
def tyJx9f9b0 : Nat → FieldType := fun k => match k with
  | _ => .int
def RJx8e188 : String := "java/lang/Cloneable"
def TJx8e188 : u_T := fun k => match k with
  | _ => ("", "", "", false)
def tyJx8e188 : Nat → FieldType := fun k => match k with
  | _ => .int
def RJxb160c : String := "java/lang/Comparable"
def TJxb160c : u_T := fun k => match k with
  | _ => ("", "", "", false)
def tyJxb160c : Nat → FieldType := fun k => match k with
  | _ => .int
def RJ9 : String := "java/lang/Math"
def TJ9 : u_T := fun k => match k with
  | _ => ("", "", "", false)
def tyJ9 : Nat → FieldType := fun k => match k with
  | _ => .int
abbrev cJ9_max_7cf53 : ByteArray := prog_19_method_65_code
def yJ9_max_7cf53 : MethodName := ⟨RJ9, "max", "(II)I"⟩
abbrev cJ9_min_7cf53 : ByteArray := prog_19_method_69_code
def yJ9_min_7cf53 : MethodName := ⟨RJ9, "min", "(II)I"⟩
abbrev cJ9_min_f86c9 : ByteArray := prog_19_method_70_code
def yJ9_min_f86c9 : MethodName := ⟨RJ9, "min", "(JJ)J"⟩
def RJ0 : String := "java/lang/String"
def TJ0 : u_T := fun k => match k with
  | _ => ("", "", "", false)
def tyJ0 : Nat → FieldType := fun k => match k with
  | _ => .int
abbrev cJ0_length_8abf5 : ByteArray := prog_21_method_54_code
def yJ0_length_8abf5 : MethodName := ⟨RJ0, "length", "()I"⟩
abbrev cJ0_charAt_5068e : ByteArray := prog_21_method_56_code
def yJ0_charAt_5068e : MethodName := ⟨RJ0, "charAt", "(I)C"⟩
abbrev cJ0_coder_7d493 : ByteArray := prog_21_method_152_code
def yJ0_coder_7d493 : MethodName := ⟨RJ0, "coder", "()B"⟩
abbrev cJ0_isLatin1_aae02 : ByteArray := prog_21_method_154_code
def yJ0_isLatin1_aae02 : MethodName := ⟨RJ0, "isLatin1", "()Z"⟩
abbrev cJ0_checkIndex_df160 : ByteArray := prog_21_method_155_code
def yJ0_checkIndex_df160 : MethodName := ⟨RJ0, "checkIndex", "(II)V"⟩
def RJ1 : String := "java/lang/StringLatin1"
def TJ1 : u_T := fun k => match k with
  | _ => ("", "", "", false)
def tyJ1 : Nat → FieldType := fun k => match k with
  | _ => .int
abbrev cJ1_charAt_3b067 : ByteArray := prog_22_method_2_code
def yJ1_charAt_3b067 : MethodName := ⟨RJ1, "charAt", "([BI)C"⟩
def RJ2 : String := "java/lang/StringUTF16"
def TJ2 : u_T := fun k => match k with
  | _ => ("", "", "", false)
def tyJ2 : Nat → FieldType := fun k => match k with
  | _ => .int
abbrev cJ2_getChar_3b067 : ByteArray := prog_23_method_5_code
def yJ2_getChar_3b067 : MethodName := ⟨RJ2, "getChar", "([BI)C"⟩
abbrev cJ2_length_9d52b : ByteArray := prog_23_method_6_code
def yJ2_length_9d52b : MethodName := ⟨RJ2, "length", "([B)I"⟩
abbrev cJ2_charAt_3b067 : ByteArray := prog_23_method_83_code
def yJ2_charAt_3b067 : MethodName := ⟨RJ2, "charAt", "([BI)C"⟩
abbrev cJ2_checkIndex_2214a : ByteArray := prog_23_method_91_code
def yJ2_checkIndex_2214a : MethodName := ⟨RJ2, "checkIndex", "(I[B)V"⟩
def RJ10 : String := "java/lang/System"
def TJ10 : u_T := fun k => match k with
  | _ => ("", "", "", false)
def tyJ10 : Nat → FieldType := fun k => match k with
  | _ => .int
def RJxfd54e : String := "java/lang/constant/Constable"
def TJxfd54e : u_T := fun k => match k with
  | _ => ("", "", "", false)
def tyJxfd54e : Nat → FieldType := fun k => match k with
  | _ => .int
def RJx3cf43 : String := "java/lang/constant/ConstantDesc"
def TJx3cf43 : u_T := fun k => match k with
  | _ => ("", "", "", false)
def tyJx3cf43 : Nat → FieldType := fun k => match k with
  | _ => .int
def RJ7 : String := "java/util/Arrays"
def TJ7 : u_T := fun k => match k with
  | _ => ("", "", "", false)
def tyJ7 : Nat → FieldType := fun k => match k with
  | _ => .int
abbrev cJ7_fill_53178 : ByteArray := prog_26_method_103_code
def yJ7_fill_53178 : MethodName := ⟨RJ7, "fill", "([II)V"⟩
def RJ3 : String := "jdk/internal/util/Preconditions"
def TJ3 : u_T := fun k => match k with
  | _ => ("", "", "", false)
def tyJ3 : Nat → FieldType := fun k => match k with
  | _ => .int
abbrev cJ3_checkIndex_8e157 : ByteArray := prog_27_method_11_code
def yJ3_checkIndex_8e157 : MethodName := ⟨RJ3, "checkIndex", "(IILjava/util/function/BiFunction;)I"⟩
def RL : String := "RecyclingLineLaw"
abbrev cL_setting : ByteArray := method_3_code
def yL_setting : MethodName := ⟨RL, "setting", "(LRecyclingLine;I[J)I"⟩
abbrev cL_station : ByteArray := method_4_code
def yL_station : MethodName := ⟨RL, "station", "(LRecyclingLine;II[J)I"⟩
abbrev cL_mass : ByteArray := method_5_code
def yL_mass : MethodName := ⟨RL, "mass", "(LRecyclingLine;II[J)I"⟩
abbrev cL_bale : ByteArray := method_6_code
def yL_bale : MethodName := ⟨RL, "bale", "(LRecyclingLine;II[J)I"⟩
abbrev cL_buyer : ByteArray := method_7_code
def yL_buyer : MethodName := ⟨RL, "buyer", "(LRecyclingLine;II[J)I"⟩
abbrev cL_purity : ByteArray := method_8_code
def yL_purity : MethodName := ⟨RL, "purity", "(LRecyclingLine;I[D)I"⟩
abbrev cL_load : ByteArray := method_9_code
def yL_load : MethodName := ⟨RL, "load", "(LRecyclingLine;II[J)I"⟩
abbrev cL_set : ByteArray := method_10_code
def yL_set : MethodName := ⟨RL, "set", "(LRecyclingLine;II[J)I"⟩
abbrev cL_staff : ByteArray := method_11_code
def yL_staff : MethodName := ⟨RL, "staff", "(LRecyclingLine;II[J)I"⟩
abbrev cL_run : ByteArray := method_12_code
def yL_run : MethodName := ⟨RL, "run", "(LRecyclingLine;I[J)I"⟩
abbrev cL_sell : ByteArray := method_13_code
def yL_sell : MethodName := ⟨RL, "sell", "(LRecyclingLine;II[J)I"⟩
abbrev cL_clean : ByteArray := method_14_code
def yL_clean : MethodName := ⟨RL, "clean", "(LRecyclingLine;I[J)I"⟩
abbrev cL_bestBuyer : ByteArray := method_15_code
def yL_bestBuyer : MethodName := ⟨RL, "bestBuyer", "(LRecyclingLine;I[J)I"⟩
abbrev cL_outlook : ByteArray := method_16_code
def yL_outlook : MethodName := ⟨RL, "outlook", "(LRecyclingLine;II[J)I"⟩
abbrev cL_bestStaff : ByteArray := method_17_code
def yL_bestStaff : MethodName := ⟨RL, "bestStaff", "(LRecyclingLine;II[J)I"⟩
abbrev cL_law : ByteArray := code
def yL_law : MethodName := ⟨RL, "law", "([I)Z"⟩
abbrev vwCl : List vw_C := [(RX0, TX0, 5), (RX1, TX1, 7), (RX2, TX2, 2), (RX3, TX3, 3), (RX4, TX4, 12), (RX5, TX5, 2), (RX6, TX6, 9), (RX7, TX7, 2), (RX8, TX8, 10), (RX9, TX9, 8), (RX10, TX10, 7), (RX11, TX11, 23)]
end
section
/-! THE ABSTRACT HEAP: size; shapes (0: unknown; c + 1: an object of kind c of vwCl; 50 int row, 51 byte row, 52 long row, 53 double row, 60 + c: a row of references to kind c; with the length); ints, references, longs, doubles by address and place -/
abbrev q_H : Type := Nat × (Nat → Nat × Nat) × (Nat → Nat → Int32) × (Nat → Nat → Option Nat) × (Nat → Nat → Int64) × (Nat → Nat → UInt64)
def q_sz (A : q_H) : Nat := A.1
def q_sh (A : q_H) : Nat → Nat × Nat := A.2.1
def q_I (A : q_H) : Nat → Nat → Int32 := A.2.2.1
def q_R (A : q_H) : Nat → Nat → Option Nat := A.2.2.2.1
def q_L (A : q_H) : Nat → Nat → Int64 := A.2.2.2.2.1
def q_D (A : q_H) : Nat → Nat → UInt64 := A.2.2.2.2.2
def q_u2 {α : Type} (f : Nat → Nat → α) (a k : Nat) (v : α) : Nat → Nat → α := fun b j => if b = a ∧ j = k then v else f b j
def q_rw {α : Type} (f : Nat → Nat → α) (a : Nat) (g : Nat → α) : Nat → Nat → α := fun b j => if b = a then g j else f b j
def q_setI (A : q_H) (a k : Nat) (v : Int32) : q_H := (A.1, A.2.1, q_u2 A.2.2.1 a k v, A.2.2.2.1, A.2.2.2.2.1, A.2.2.2.2.2)
def q_setR (A : q_H) (a k : Nat) (v : Option Nat) : q_H := (A.1, A.2.1, A.2.2.1, q_u2 A.2.2.2.1 a k v, A.2.2.2.2.1, A.2.2.2.2.2)
def q_setL (A : q_H) (a k : Nat) (v : Int64) : q_H := (A.1, A.2.1, A.2.2.1, A.2.2.2.1, q_u2 A.2.2.2.2.1 a k v, A.2.2.2.2.2)
def q_setD (A : q_H) (a k : Nat) (v : UInt64) : q_H := (A.1, A.2.1, A.2.2.1, A.2.2.2.1, A.2.2.2.2.1, q_u2 A.2.2.2.2.2 a k v)
def q_rowI (A : q_H) (a : Nat) (g : Nat → Int32) : q_H := (A.1, A.2.1, q_rw A.2.2.1 a g, A.2.2.2.1, A.2.2.2.2.1, A.2.2.2.2.2)
def q_new (A : q_H) (c n : Nat) : q_H := (A.1 + 1, fun b => if b = A.1 then (c, n) else A.2.1 b, q_rw A.2.2.1 A.1 (fun _ => 0), q_rw A.2.2.2.1 A.1 (fun _ => none), q_rw A.2.2.2.2.1 A.1 (fun _ => 0), q_rw A.2.2.2.2.2 A.1 (fun _ => 0))
def q_grow (A : q_H) (z : Nat) : q_H := (z, A.2)
theorem q_sz_setI (A a k v) : q_sz (q_setI A a k v) = q_sz A := rfl
theorem q_sz_setR (A a k v) : q_sz (q_setR A a k v) = q_sz A := rfl
theorem q_sz_setL (A a k v) : q_sz (q_setL A a k v) = q_sz A := rfl
theorem q_sz_setD (A a k v) : q_sz (q_setD A a k v) = q_sz A := rfl
theorem q_sz_rowI (A a g) : q_sz (q_rowI A a g) = q_sz A := rfl
theorem q_sz_new (A c n) : q_sz (q_new A c n) = q_sz A + 1 := rfl
theorem q_sz_grow (A z) : q_sz (q_grow A z) = z := rfl
theorem q_sh_setI (A a k v) : q_sh (q_setI A a k v) = q_sh A := rfl
theorem q_sh_setR (A a k v) : q_sh (q_setR A a k v) = q_sh A := rfl
theorem q_sh_setL (A a k v) : q_sh (q_setL A a k v) = q_sh A := rfl
theorem q_sh_setD (A a k v) : q_sh (q_setD A a k v) = q_sh A := rfl
theorem q_sh_rowI (A a g) : q_sh (q_rowI A a g) = q_sh A := rfl
theorem q_sh_grow (A z) : q_sh (q_grow A z) = q_sh A := rfl
theorem q_sh_new (A c n) (b : Nat) : q_sh (q_new A c n) b = if b = q_sz A then (c, n) else q_sh A b := rfl
theorem q_I_setI (A a k v) : q_I (q_setI A a k v) = q_u2 (q_I A) a k v := rfl
theorem q_I_setR (A a k v) : q_I (q_setR A a k v) = q_I A := rfl
theorem q_I_setL (A a k v) : q_I (q_setL A a k v) = q_I A := rfl
theorem q_I_setD (A a k v) : q_I (q_setD A a k v) = q_I A := rfl
theorem q_I_rowI (A a g) : q_I (q_rowI A a g) = q_rw (q_I A) a g := rfl
theorem q_I_grow (A z) : q_I (q_grow A z) = q_I A := rfl
theorem q_I_new (A c n) : q_I (q_new A c n) = q_rw (q_I A) (q_sz A) (fun _ => 0) := rfl
theorem q_R_setI (A a k v) : q_R (q_setI A a k v) = q_R A := rfl
theorem q_R_setR (A a k v) : q_R (q_setR A a k v) = q_u2 (q_R A) a k v := rfl
theorem q_R_setL (A a k v) : q_R (q_setL A a k v) = q_R A := rfl
theorem q_R_setD (A a k v) : q_R (q_setD A a k v) = q_R A := rfl
theorem q_R_rowI (A a g) : q_R (q_rowI A a g) = q_R A := rfl
theorem q_R_grow (A z) : q_R (q_grow A z) = q_R A := rfl
theorem q_R_new (A c n) : q_R (q_new A c n) = q_rw (q_R A) (q_sz A) (fun _ => none) := rfl
theorem q_L_setI (A a k v) : q_L (q_setI A a k v) = q_L A := rfl
theorem q_L_setR (A a k v) : q_L (q_setR A a k v) = q_L A := rfl
theorem q_L_setL (A a k v) : q_L (q_setL A a k v) = q_u2 (q_L A) a k v := rfl
theorem q_L_setD (A a k v) : q_L (q_setD A a k v) = q_L A := rfl
theorem q_L_rowI (A a g) : q_L (q_rowI A a g) = q_L A := rfl
theorem q_L_grow (A z) : q_L (q_grow A z) = q_L A := rfl
theorem q_L_new (A c n) : q_L (q_new A c n) = q_rw (q_L A) (q_sz A) (fun _ => 0) := rfl
theorem q_D_setI (A a k v) : q_D (q_setI A a k v) = q_D A := rfl
theorem q_D_setR (A a k v) : q_D (q_setR A a k v) = q_D A := rfl
theorem q_D_setL (A a k v) : q_D (q_setL A a k v) = q_D A := rfl
theorem q_D_setD (A a k v) : q_D (q_setD A a k v) = q_u2 (q_D A) a k v := rfl
theorem q_D_rowI (A a g) : q_D (q_rowI A a g) = q_D A := rfl
theorem q_D_grow (A z) : q_D (q_grow A z) = q_D A := rfl
theorem q_D_new (A c n) : q_D (q_new A c n) = q_rw (q_D A) (q_sz A) (fun _ => 0) := rfl
theorem q_u2_s {α : Type} (f : Nat → Nat → α) (a k : Nat) (v : α) : q_u2 f a k v a k = v := by simp [q_u2]
theorem q_u2_a {α : Type} (f : Nat → Nat → α) (a k : Nat) (v : α) {b : Nat} (h : b ≠ a) (j : Nat) : q_u2 f a k v b j = f b j := by simp [q_u2, h]
theorem q_u2_k {α : Type} (f : Nat → Nat → α) (a k : Nat) (v : α) (b : Nat) {j : Nat} (h : j ≠ k) : q_u2 f a k v b j = f b j := by simp [q_u2, h]
theorem q_u2_i {α : Type} (f : Nat → Nat → α) (a k : Nat) (v : α) (j : Nat) : q_u2 f a k v a j = if j = k then v else f a j := by simp [q_u2]
theorem q_rw_s {α : Type} (f : Nat → Nat → α) (a : Nat) (g : Nat → α) : q_rw f a g a = g := by funext j; simp [q_rw]
theorem q_rw_a {α : Type} (f : Nat → Nat → α) (a : Nat) (g : Nat → α) {b : Nat} (h : b ≠ a) : q_rw f a g b = f b := by funext j; simp [q_rw, h]
/-- which fields are references, by the kinds of vwCl -/
def q_kd : Nat → List Bool
  | 0 => [false, false, false, false, true]
  | 1 => [false, false, false, false, false, false, false]
  | 2 => [true, false]
  | 3 => [true, false, false]
  | 4 => [false, true, true, false, true, false, true, true, true, true, true, true]
  | 5 => [true, false]
  | 6 => [false, false, false, false, false, false, false, true, true]
  | 7 => [true, false]
  | 8 => [false, false, false, false, false, false, false, false, false, false]
  | 9 => [true, false, true, false, false, false, false, false]
  | 10 => [true, false, true, true, true, false, false]
  | 11 => [false, true, true, true, true, true, true, true, true, true, false, true, false, false, false, false, false, false, false, false, true, true, false]
  | _ => []
def q_fs (c : Nat) (f : Nat → Int32) (g : Nat → Option Nat) : List Value := (q_kd c).mapIdx fun k b => if b = true then va_rf (g k) else .int (f k)
theorem q_fs_len (c : Nat) (f : Nat → Int32) (g : Nat → Option Nat) : (q_fs c f g).length = (q_kd c).length := by simp [q_fs]
theorem q_fs_at {c k : Nat} {b : Bool} (h : (q_kd c)[k]? = some b) (f : Nat → Int32) (g : Nat → Option Nat) : (q_fs c f g)[k]? = some (if b = true then va_rf (g k) else .int (f k)) := by
  simp [q_fs, List.getElem?_mapIdx, h]
theorem q_fs_lt {c k : Nat} {b : Bool} (h : (q_kd c)[k]? = some b) (f : Nat → Int32) (g : Nat → Option Nat) : k < (q_fs c f g).length := by
  rw [q_fs_len]; exact (List.getElem?_eq_some_iff.mp h).1
theorem q_fs_setI {c k : Nat} (h : (q_kd c)[k]? = some false) (f : Nat → Int32) (g : Nat → Option Nat) (v : Int32) : q_fs c (fun j => if j = k then v else f j) g = (q_fs c f g).set k (.int v) := by
  have hl := q_fs_lt h f g
  apply List.ext_getElem?
  intro i
  by_cases hi : i = k
  · subst hi
    rw [List.getElem?_set_self hl, q_fs_at h]
    simp
  · rw [List.getElem?_set_ne (Ne.symm hi)]
    simp [q_fs, List.getElem?_mapIdx, hi]
theorem q_fs_setR {c k : Nat} (h : (q_kd c)[k]? = some true) (f : Nat → Int32) (g : Nat → Option Nat) (v : Option Nat) : q_fs c f (fun j => if j = k then v else g j) = (q_fs c f g).set k (va_rf v) := by
  have hl := q_fs_lt h f g
  apply List.ext_getElem?
  intro i
  by_cases hi : i = k
  · subst hi
    rw [List.getElem?_set_self hl, q_fs_at h]
    simp
  · rw [List.getElem?_set_ne (Ne.symm hi)]
    simp [q_fs, List.getElem?_mapIdx, hi]
/-! what is fixed in one run: the launch, the tables' numbers, the array kinds' numbers, the first new address, the static rows' addresses, the texts', the script -/
abbrev q_G : Type := Launch × va_G × (Nat → ClassId) × Nat × (Nat → Nat) × (Nat → Nat) × (Nat → Nat) × Nat × Nat × (Nat → Int32)
def q_l (G : q_G) : Launch := G.1
def q_Dg (G : q_G) : va_G := G.2.1
def q_tA (G : q_G) : Nat → ClassId := G.2.2.1
def q_bs (G : q_G) : Nat := G.2.2.2.1
def q_st (G : q_G) : Nat → Nat := G.2.2.2.2.1
def q_aK (G : q_G) : Nat → Nat := G.2.2.2.2.2.1
def q_aV (G : q_G) : Nat → Nat := G.2.2.2.2.2.2.1
def q_sb (G : q_G) : Nat := G.2.2.2.2.2.2.2.1
def q_sL (G : q_G) : Nat := G.2.2.2.2.2.2.2.2.1
def q_xs (G : q_G) : Nat → Int32 := G.2.2.2.2.2.2.2.2.2
def q_tys (G : q_G) : List (ClassId × FieldType) := [(q_tA G 50, .int), (q_tA G 51, .byte), (q_tA G 52, .long), (q_tA G 53, .double), (q_tA G 60, .object RX0), (q_tA G 61, .object RX1), (q_tA G 64, .object RX4), (q_tA G 65, .object RX5), (q_tA G 66, .object RX6)]
def q_F (G : q_G) : Nat → Prop := fun q => q_bs G ≤ q
def q_ent (G : q_G) (A : q_H) (a : Nat) : Option va_E :=
  if (q_sh A a).1 = 0 then none
  else if (q_sh A a).1 < 50 then some (.inr ((q_sh A a).1 - 1, q_fs ((q_sh A a).1 - 1) (q_I A a) (q_R A a)))
  else if (q_sh A a).1 < 52 then some (.inl (q_tA G (q_sh A a).1, (q_sh A a).2, .inl (q_I A a)))
  else if (q_sh A a).1 = 52 then some (.inl (q_tA G 52, (q_sh A a).2, .inr (.inl (q_L A a))))
  else if (q_sh A a).1 = 53 then some (.inl (q_tA G 53, (q_sh A a).2, .inr (.inr (.inr (.inl (q_D A a))))))
  else some (.inl (q_tA G (q_sh A a).1, (q_sh A a).2, .inr (.inr (.inr (.inr (q_R A a))))))
theorem q_ent_o {G : q_G} {A : q_H} {a c n : Nat} (h : q_sh A a = (c + 1, n)) (hc : c < 49) : q_ent G A a = some (.inr (c, q_fs c (q_I A a) (q_R A a))) := by
  have h2 : c + 1 < 50 := by omega
  simp [q_ent, h, h2]
theorem q_ent_i {G : q_G} {A : q_H} {a n : Nat} (h : q_sh A a = (50, n)) : q_ent G A a = some (.inl (q_tA G 50, n, .inl (q_I A a))) := by simp [q_ent, h]
theorem q_ent_b {G : q_G} {A : q_H} {a n : Nat} (h : q_sh A a = (51, n)) : q_ent G A a = some (.inl (q_tA G 51, n, .inl (q_I A a))) := by simp [q_ent, h]
theorem q_ent_l {G : q_G} {A : q_H} {a n : Nat} (h : q_sh A a = (52, n)) : q_ent G A a = some (.inl (q_tA G 52, n, .inr (.inl (q_L A a)))) := by simp [q_ent, h]
theorem q_ent_d {G : q_G} {A : q_H} {a n : Nat} (h : q_sh A a = (53, n)) : q_ent G A a = some (.inl (q_tA G 53, n, .inr (.inr (.inr (.inl (q_D A a)))))) := by simp [q_ent, h]
theorem q_ent_r {G : q_G} {A : q_H} {a c n : Nat} (h : q_sh A a = (60 + c, n)) : q_ent G A a = some (.inl (q_tA G (60 + c), n, .inr (.inr (.inr (.inr (q_R A a)))))) := by
  have h1 : ¬ 60 + c < 50 := by omega
  have h2 : ¬ 60 + c < 52 := by omega
  have h3 : ¬ 60 + c = 52 := by omega
  have h4 : ¬ 60 + c = 53 := by omega
  simp [q_ent, h, h1, h2, h3, h4]
theorem q_ent_cg {G : q_G} {A A' : q_H} {a : Nat} (h : q_sh A' a = q_sh A a) (hI : q_I A' a = q_I A a) (hR : q_R A' a = q_R A a) (hL : q_L A' a = q_L A a) (hD : q_D A' a = q_D A a) : q_ent G A' a = q_ent G A a := by
  simp only [q_ent, h, hI, hR, hL, hD]
/-- the concrete heap H (in the state U) is as A says -/
def q_Rep (G : q_G) (A : q_H) (U : State) (H : Heap) : Prop := H.size = q_sz A ∧ va_K (q_Dg G) vwCl (q_tys G) U ∧ (∀ (a : Nat) (e : va_E), q_ent G A a = some e → q_bs G ≤ a ∧ va_at (q_Dg G) vwCl (a, e) H) ∧ q_bs G ≤ H.size
theorem q_Rep.moved {G : q_G} {A : q_H} {u U : State} {H : Heap} (hvm : u.vm.Alike U.vm) (h : q_Rep G A u H) : q_Rep G A U H := ⟨h.1, va_K.moved hvm h.2.1, h.2.2⟩
theorem q_Rep.lt {G : q_G} {A : q_H} {U : State} {H : Heap} (h : q_Rep G A U H) {a : Nat} {e : va_E} (he : q_ent G A a = some e) : a < H.size := (h.2.2.1 a e he).2.lt
theorem q_Rep.P {G : q_G} {A : q_H} {U : State} {H : Heap} (h : q_Rep G A U H) {a : Nat} {e : va_E} (he : q_ent G A a = some e) : va_P (q_Dg G) vwCl [(a, e)] H := by
  intro k q hk
  have hz : k < 1 := (List.getElem?_eq_some_iff.mp hk).1
  rw [show k = 0 by omega] at hk
  cases hk
  exact (h.2.2.1 a e he).2
theorem q_Rep.up {G : q_G} {A A' : q_H} {U : State} {H H' : Heap} {a : Nat} {e0 e' : va_E} (h : q_Rep G A U H) (h0 : q_ent G A a = some e0) (h1 : q_ent G A' a = some e') (hz : q_sz A' = q_sz A) (hA : ∀ b, b ≠ a → q_ent G A' b = q_ent G A b)
    (hH : H'.size = H.size) (he : va_at (q_Dg G) vwCl (a, e') H') (ho : ∀ q : Nat, q ≠ a → H'[q]? = H[q]?) : q_Rep G A' U H' := by
  refine ⟨by rw [hH, hz]; exact h.1, h.2.1, fun b e hb => ?_, by rw [hH]; exact h.2.2.2⟩
  by_cases hba : b = a
  · subst hba
    cases h1.symm.trans hb
    exact ⟨(h.2.2.1 b _ h0).1, he⟩
  · rw [hA b hba] at hb
    exact ⟨(h.2.2.1 b e hb).1, ((h.2.2.1 b e hb).2).kept (ho b hba)⟩
theorem q_Rep.nu {G : q_G} {A : q_H} {U : State} {H H' : Heap} {c n : Nat} {e' : va_E} (h : q_Rep G A U H) (h1 : q_ent G (q_new A c n) (q_sz A) = some e')
    (hH : H'.size = H.size + 1) (he : va_at (q_Dg G) vwCl (q_sz A, e') H') (ho : ∀ q : Nat, q < H.size → H'[q]? = H[q]?) : q_Rep G (q_new A c n) U H' := by
  have hb : q_bs G ≤ H.size := h.2.2.2
  refine ⟨by rw [hH, h.1, q_sz_new], h.2.1, fun b e hb2 => ?_, by rw [hH]; exact Nat.le_succ_of_le hb⟩
  by_cases hba : b = q_sz A
  · subst hba
    cases h1.symm.trans hb2
    exact ⟨by rw [← h.1]; exact hb, he⟩
  · have hx : q_ent G (q_new A c n) b = q_ent G A b := q_ent_cg (by rw [q_sh_new, if_neg hba]) (by rw [q_I_new, q_rw_a _ _ _ hba]) (by rw [q_R_new, q_rw_a _ _ _ hba]) (by rw [q_L_new, q_rw_a _ _ _ hba]) (by rw [q_D_new, q_rw_a _ _ _ hba])
    rw [hx] at hb2
    have hl := h.lt hb2
    exact ⟨(h.2.2.1 b e hb2).1, ((h.2.2.1 b e hb2).2).kept (ho b hl)⟩
theorem q_Rep.gr {G : q_G} {A : q_H} {U : State} {H H' : Heap} (h : q_Rep G A U H) (hs : H.size ≤ H'.size) (ho : ∀ q : Nat, q < H.size → H'[q]? = H[q]?) : q_Rep G (q_grow A H'.size) U H' :=
  ⟨rfl, h.2.1, fun b e hb => ⟨(h.2.2.1 b e hb).1, ((h.2.2.1 b e hb).2).kept (ho b (h.lt hb))⟩, Nat.le_trans h.2.2.2 hs⟩
end
section
/-! THE WORDS: the good ones of the tables, and those that hold of the tables alone -/
def q_UW : List Cond := lw_tbl.filter goodWord
def q_nw : Cond → Bool
  | .fieldLinkNest .. => true
  | .methodLinkNest .. => true
  | .castable .. => true
  | .declares .. => true
  | _ => false
def q_NW : List Cond := lw_tbl.filter q_nw
theorem q_uw {w : Cond} (i : Nat) (h : lw_tbl[i]? = some w) (g : goodWord w = true) : w ∈ q_UW := List.mem_filter.mpr ⟨List.mem_of_getElem? h, g⟩
theorem q_nwi {w : Cond} (i : Nat) (h : lw_tbl[i]? = some w) (g : q_nw w = true) : w ∈ q_NW := List.mem_filter.mpr ⟨List.mem_of_getElem? h, g⟩
theorem q_UW_good {w : Cond} (h : w ∈ q_UW) : (w.onTables && w.keeps) = true ∨ ∃ ty, w = .arrayClass ty := good_of_word (List.mem_filter.mp h).2
theorem q_nw_warm {w : Cond} (g : q_nw w = true) {s U : State} (hW : s.WarmedH U.vm) (h : va_Nw w s) : va_Nw w U := by
  cases w with
  | fieldLinkNest => exact va_Nw.warmF hW h
  | methodLinkNest => exact va_Nw.warmM hW h
  | castable => exact va_Nw.warmC hW h
  | declares => exact va_Nw.warmD hW h
  | _ => simp [q_nw] at g
theorem q_nw_same {w : Cond} (g : q_nw w = true) {u U : State} (hv : u.vm = U.vm) (h : va_Nw w u) : va_Nw w U := by
  refine va_Nw.same ?_ hv h
  cases w <;> first | rfl | (simp [q_nw] at g)
/-! WHAT STANDS BESIDE THE HEAP: static rows (by number: 0 least, 1 greatest, 2 first values), the texts (by number), the script, the throwables' statics -/
def q_sname : Nat → String
  | 0 => "LEAST_VALUES"
  | 1 => "GREATEST_VALUES"
  | _ => "FIRST_VALUES"
def q_sval : Nat → List Int32
  | 0 => [1, 20, 0, 0, 0, 0, 0, 0]
  | 1 => [200, 500, 100, 100, 100, 5, 5, 20]
  | _ => [50, 100, 95, 85, 20, 2, 1, 2]
def q_ao : List String := [RX0, RX1, RX4, RX5, RX6]
def q_ncs : List (String × String) := [("java/lang/IllegalArgumentException", "java/lang/IndexOutOfBoundsException"), ("java/lang/IndexOutOfBoundsException", "java/lang/IllegalArgumentException"), ("java/lang/IllegalStateException", "java/lang/IndexOutOfBoundsException"), ("java/lang/IllegalStateException", "java/lang/IllegalArgumentException")]
/-- a static row: where its static field holds it, and what it holds -/
def q_Sta (G : q_G) (i : Nat) (U : State) (H : Heap) : Prop := va_Z RX10 (q_sname i) "[I" (.ref (q_st G i)) (q_F G) U H ∧ H[q_st G i]? = some (vp_cell (q_tA G 50) (8, .inl (fun j => (q_sval i).getD j 0))) ∧ ¬ q_F G (q_st G i)
/-- a text: its constant's reference, its object, its bytes -/
def q_Str (G : q_G) (i : Nat) (q : String × Nat × String × List Int32) (U : State) (H : Heap) : Prop :=
  vk_R q.1 q.2.1 q.2.2.1 (q_aK G i) U ∧ va_O "java/lang/String" (q_aK G i) (q_F G) U H ∧ va_OF "java/lang/String" "coder" "B" (.int 0) (q_aK G i) (q_F G) U H ∧ va_OF "java/lang/String" "value" "[B" (.ref (q_aV G i)) (q_aK G i) (q_F G) U H ∧ va_T .byte (q_aV G i) q.2.2.2.length (fun j => .int (q.2.2.2.getD j 0)) (q_F G) U H
def q_txt : List (String × Nat × String × List Int32) := [
  ("RecyclingLine$TextReader", 35, "materials", [109, 97, 116, 101, 114, 105, 97, 108, 115]),
  ("RecyclingLine$TextReader", 66, "station", [115, 116, 97, 116, 105, 111, 110]),
  ("RecyclingLine$TextReader", 71, "set", [115, 101, 116]),
  ("RecyclingLine$TextReader", 76, "load", [108, 111, 97, 100]),
  ("RecyclingLine$TextReader", 81, "buyer", [98, 117, 121, 101, 114]),
  ("RecyclingLine", 114, "no such setting", [110, 111, 32, 115, 117, 99, 104, 32, 115, 101, 116, 116, 105, 110, 103]),
  ("RecyclingLine", 127, "no such station", [110, 111, 32, 115, 117, 99, 104, 32, 115, 116, 97, 116, 105, 111, 110]),
  ("RecyclingLine", 180, "no such property of a station", [110, 111, 32, 115, 117, 99, 104, 32, 112, 114, 111, 112, 101, 114, 116, 121, 32, 111, 102, 32, 97, 32, 115, 116, 97, 116, 105, 111, 110]),
  ("RecyclingLine", 183, "no such place", [110, 111, 32, 115, 117, 99, 104, 32, 112, 108, 97, 99, 101]),
  ("RecyclingLine", 189, "no such material", [110, 111, 32, 115, 117, 99, 104, 32, 109, 97, 116, 101, 114, 105, 97, 108]),
  ("RecyclingLine", 202, "no such bale", [110, 111, 32, 115, 117, 99, 104, 32, 98, 97, 108, 101]),
  ("RecyclingLine", 219, "no such property of a bale", [110, 111, 32, 115, 117, 99, 104, 32, 112, 114, 111, 112, 101, 114, 116, 121, 32, 111, 102, 32, 97, 32, 98, 97, 108, 101]),
  ("RecyclingLine", 225, "no such buyer", [110, 111, 32, 115, 117, 99, 104, 32, 98, 117, 121, 101, 114]),
  ("RecyclingLine", 245, "no such property of a buyer", [110, 111, 32, 115, 117, 99, 104, 32, 112, 114, 111, 112, 101, 114, 116, 121, 32, 111, 102, 32, 97, 32, 98, 117, 121, 101, 114]),
  ("RecyclingLine", 277, "mass out of range", [109, 97, 115, 115, 32, 111, 117, 116, 32, 111, 102, 32, 114, 97, 110, 103, 101]),
  ("RecyclingLine", 284, "the hopper is full", [116, 104, 101, 32, 104, 111, 112, 112, 101, 114, 32, 105, 115, 32, 102, 117, 108, 108]),
  ("RecyclingLine", 304, "value out of range", [118, 97, 108, 117, 101, 32, 111, 117, 116, 32, 111, 102, 32, 114, 97, 110, 103, 101]),
  ("RecyclingLine", 306, "pickers out of range", [112, 105, 99, 107, 101, 114, 115, 32, 111, 117, 116, 32, 111, 102, 32, 114, 97, 110, 103, 101]),
  ("RecyclingLine", 311, "ticks out of range", [116, 105, 99, 107, 115, 32, 111, 117, 116, 32, 111, 102, 32, 114, 97, 110, 103, 101]),
  ("RecyclingLine", 313, "too many ticks in all", [116, 111, 111, 32, 109, 97, 110, 121, 32, 116, 105, 99, 107, 115, 32, 105, 110, 32, 97, 108, 108]),
  ("RecyclingLine", 318, "no such bale or buyer", [110, 111, 32, 115, 117, 99, 104, 32, 98, 97, 108, 101, 32, 111, 114, 32, 98, 117, 121, 101, 114]),
  ("RecyclingLine", 324, "the buyer does not take this bale", [116, 104, 101, 32, 98, 117, 121, 101, 114, 32, 100, 111, 101, 115, 32, 110, 111, 116, 32, 116, 97, 107, 101, 32, 116, 104, 105, 115, 32, 98, 97, 108, 101]),
  ("RecyclingLine", 354, "ticks or what out of range", [116, 105, 99, 107, 115, 32, 111, 114, 32, 119, 104, 97, 116, 32, 111, 117, 116, 32, 111, 102, 32, 114, 97, 110, 103, 101]),
  ("RecyclingLineModel", 160, "materials", [109, 97, 116, 101, 114, 105, 97, 108, 115]),
  ("RecyclingLineModel", 165, "station", [115, 116, 97, 116, 105, 111, 110]),
  ("RecyclingLineModel", 111, "set", [115, 101, 116]),
  ("RecyclingLineModel", 117, "load", [108, 111, 97, 100]),
  ("RecyclingLineModel", 119, "buyer", [98, 117, 121, 101, 114])]
/-- all that stands beside the heap -/
def q_Amb (G : q_G) (U : State) (H : Heap) : Prop :=
  (q_l G).stackTraces = false ∧ (∀ w ∈ q_NW, va_Nw w U) ∧ (∀ C ∈ q_ao, va_AO C U) ∧ (∀ q ∈ q_ncs, va_Nc q.1 q.2 U) ∧ (∀ i, i < 3 → q_Sta G i U H) ∧ (∀ (i : Nat) (q : String × Nat × String × List Int32), q_txt[i]? = some q → q_Str G i q U H) ∧
  vx_Zq Bundle.tN "UNASSIGNED_STACK" Bundle.steD (q_F G) U H ∧ vx_Zq Bundle.tN "SUPPRESSED_SENTINEL" Bundle.listD (q_F G) U H ∧ va_X (q_sb G) (q_sL G) (q_xs G) U H ∧ ¬ q_F G (q_sb G) ∧ va_Z RJ0 "COMPACT_STRINGS" "Z" (.int 1) (q_F G) U H ∧ ∃ t : Nat, va_Z RJ3 "SIOOBE_FORMATTER" "Ljava/util/function/BiFunction;" (.ref t) (q_F G) U H
theorem q_Sta.warm {G : q_G} {i : Nat} {u U : State} {H : Heap} (hv : u.vm.Alike U.vm) (h : q_Sta G i u H) : q_Sta G i U H := ⟨va_Z.moved hv h.1, h.2⟩
theorem q_Sta.kept {G : q_G} {i : Nat} {U : State} {H H1 : Heap} (hq : ∀ a : Nat, a < H.size → ¬ q_F G a → H1[a]? = H[a]?) (h : q_Sta G i U H) : q_Sta G i U H1 :=
  ⟨h.1.kept hq, (hq _ (Array.getElem?_eq_some_iff.mp h.2.1).1 h.2.2).trans h.2.1, h.2.2⟩
theorem q_Str.warm {G : q_G} {i : Nat} {q : String × Nat × String × List Int32} {u U : State} {H : Heap} (hW : u.WarmedH U.vm) (h : q_Str G i q u H) : q_Str G i q U H :=
  ⟨vk_R.warm hW h.1, va_O.moved hW.alike h.2.1, va_OF.moved hW.alike h.2.2.1, va_OF.moved hW.alike h.2.2.2.1, va_T.moved hW.alike h.2.2.2.2⟩
theorem q_Str.same {G : q_G} {i : Nat} {q : String × Nat × String × List Int32} {u U : State} {H : Heap} (hv : U.vm = u.vm) (h : q_Str G i q u H) : q_Str G i q U H := by
  have ha : u.vm.Alike U.vm := by rw [hv]; exact Vm.Alike.refl u.vm
  exact ⟨vk_R.same hv h.1, va_O.moved ha h.2.1, va_OF.moved ha h.2.2.1, va_OF.moved ha h.2.2.2.1, va_T.moved ha h.2.2.2.2⟩
theorem q_Str.kept {G : q_G} {i : Nat} {q : String × Nat × String × List Int32} {U : State} {H H1 : Heap} (hq : ∀ a : Nat, a < H.size → ¬ q_F G a → H1[a]? = H[a]?) (h : q_Str G i q U H) : q_Str G i q U H1 :=
  ⟨h.1, h.2.1.kept hq, h.2.2.1.kept hq, h.2.2.2.1.kept hq, h.2.2.2.2.kept hq⟩
theorem q_NW_nw {w : Cond} (h : w ∈ q_NW) : q_nw w = true := (List.mem_filter.mp h).2
theorem q_X.kept {G : q_G} {U : State} {H H1 : Heap} (hq : ∀ a : Nat, a < H.size → ¬ q_F G a → H1[a]? = H[a]?) (hf : ¬ q_F G (q_sb G)) (h : va_X (q_sb G) (q_sL G) (q_xs G) U H) : va_X (q_sb G) (q_sL G) (q_xs G) U H1 :=
  h.kept (hq _ (by obtain ⟨scr, h1, -⟩ := h; exact (Array.getElem?_eq_some_iff.mp h1).1) hf)
theorem q_Amb.warm {G : q_G} {u U : State} {H : Heap} (hW : u.WarmedH U.vm) (h : q_Amb G u H) : q_Amb G U H := by
  obtain ⟨h0, h1, h2, h3, h4, h5, h6, h7, h8, h9, h10, t11, h11⟩ := h
  exact ⟨h0, fun w hw => q_nw_warm (q_NW_nw hw) hW (h1 w hw), fun C hC => va_AO.moved hW.alike (h2 C hC), fun q hq => va_Nc.moved hW.alike (h3 q hq), fun i hi => (h4 i hi).warm hW.alike, fun i q hq => (h5 i q hq).warm hW, vx_Zq.moved hW.alike h6, vx_Zq.moved hW.alike h7, h8.moved hW.alike, h9, va_Z.moved hW.alike h10, t11, va_Z.moved hW.alike h11⟩
theorem q_Amb.same {G : q_G} {u U : State} {H : Heap} (hv : U.vm = u.vm) (h : q_Amb G u H) : q_Amb G U H := by
  have ha : u.vm.Alike U.vm := by rw [hv]; exact Vm.Alike.refl u.vm
  obtain ⟨h0, h1, h2, h3, h4, h5, h6, h7, h8, h9, h10, t11, h11⟩ := h
  exact ⟨h0, fun w hw => q_nw_same (q_NW_nw hw) hv.symm (h1 w hw), fun C hC => va_AO.moved ha (h2 C hC), fun q hq => va_Nc.moved ha (h3 q hq), fun i hi => (h4 i hi).warm ha, fun i q hq => (h5 i q hq).same hv, vx_Zq.moved ha h6, vx_Zq.moved ha h7, h8.moved ha, h9, va_Z.moved ha h10, t11, va_Z.moved ha h11⟩
theorem q_Amb.kept {G : q_G} {U : State} {H H1 : Heap} (hq : ∀ a : Nat, a < H.size → ¬ q_F G a → H1[a]? = H[a]?) (h : q_Amb G U H) : q_Amb G U H1 := by
  obtain ⟨h0, h1, h2, h3, h4, h5, h6, h7, h8, h9, h10, t11, h11⟩ := h
  exact ⟨h0, h1, h2, h3, fun i hi => (h4 i hi).kept hq, fun i q hq2 => (h5 i q hq2).kept hq, h6.kept hq, h7.kept hq, q_X.kept hq h9 h8, h9, h10.kept hq, t11, h11.kept hq⟩
/-! A METHOD: name, code, locals, return type, handlers, room -/
abbrev q_M : Type := MethodName × ByteArray × Nat × Option FieldType × List (Nat × Nat × Nat × Nat) × Room
def q_hd (M : q_M) : Cond := match M.2.2.2.2.1 with
  | [] => Cond.code M.1 M.2.1 M.2.2.1 M.2.2.2.1
  | h :: t => Cond.codeWith M.1 M.2.1 M.2.2.1 M.2.2.2.1 (h :: t)
abbrev q_cc (M : q_M) : ByteArray := M.2.1
abbrev q_ml (M : q_M) : Nat := M.2.2.1
abbrev q_rt (M : q_M) : Option FieldType := M.2.2.2.1
abbrev q_hh (M : q_M) : List (Nat × Nat × Nat × Nat) := M.2.2.2.2.1
abbrev q_rm (M : q_M) : Room := M.2.2.2.2.2
def q_ws (M : q_M) : List Cond := q_hd M :: q_UW
/-- facts of a method that calls want -/
def q_MO (M : q_M) (n : Nat) : Prop := q_hd M ∈ q_UW ∧ Cond.initialized M.1.cls ∈ q_UW ∧ M.1.cls ≠ "java/lang/invoke/MethodHandle" ∧ M.1.cls ≠ "java/lang/invoke/VarHandle" ∧ (parseMethodDescriptor M.1.desc).map (fun d => d.parameters.length) = some n ∧ plainName M.1.cls = true
def q_MI (M : q_M) : Prop := Cond.instanceMethod M.1 ∈ q_UW ∧ Cond.selects M.1.cls M.1 M.1 ∈ q_UW
/-! LOCALS by their places -/
def q_arg : List Value → List (Option Value)
  | [] => []
  | v :: t => if v.category = 2 then some v :: none :: q_arg t else some v :: q_arg t
def q_has (ls : Array Slot) (lo : List (Option Value)) (n : Nat) : Prop := ls.size = n ∧ lo.length = n ∧ lv_wf ls ∧ ∀ (i : Nat) (v : Value), lo[i]? = some (some v) → ls[i]? = some (.val v)
theorem q_arg_len (vs : List Value) : (q_arg vs).length = (lg_sl vs).length := by
  induction vs with
  | nil => rfl
  | cons v t ih =>
    by_cases h : v.category = 2
    · simp [q_arg, lg_sl, h]; simpa [lg_sl] using ih
    · simp [q_arg, lg_sl, h]; simpa [lg_sl] using ih
theorem q_arg_mem (vs : List Value) : ∀ (k i : Nat) (v : Value), (q_arg vs)[i]? = some (some v) → (k + i, v) ∈ lv_args k vs := by
  induction vs with
  | nil => intro k i v h; simp [q_arg] at h
  | cons w t ih =>
    intro k i v h
    by_cases hw : w.category = 2
    · rw [q_arg, if_pos hw] at h
      rw [lv_args, if_pos hw]
      match i, h with
      | 0, h => simp at h; subst h; exact List.mem_cons_self
      | 1, h => simp at h
      | i + 2, h =>
        have h2 := ih (k + 2) i v (by simpa using h)
        rw [show k + (i + 2) = k + 2 + i by omega]
        exact List.mem_cons_of_mem _ h2
    · rw [q_arg, if_neg hw] at h
      rw [lv_args, if_neg hw]
      match i, h with
      | 0, h => simp at h; subst h; exact List.mem_cons_self
      | i + 1, h =>
        have h2 := ih (k + 1) i v (by simpa using h)
        rw [show k + (i + 1) = k + 1 + i by omega]
        exact List.mem_cons_of_mem _ h2
theorem q_has.entry (vs : List Value) {n : Nat} (h : (q_arg vs).length ≤ n) : q_has ((lg_sl vs ++ List.replicate (n - (lg_sl vs).length) Slot.unset).toArray) (q_arg vs ++ List.replicate (n - (q_arg vs).length) none) n := by
  obtain ⟨h1, h2, h3⟩ := lv_entry vs (n := n) (by rw [← q_arg_len]; exact h)
  refine ⟨h1, by simp; omega, h2, fun i v hv => ?_⟩
  by_cases hi : i < (q_arg vs).length
  · rw [List.getElem?_append_left hi] at hv
    have := h3 _ (q_arg_mem vs 0 i v hv)
    simpa using this
  · rw [List.getElem?_append_right (by omega)] at hv
    have := List.mem_of_getElem? hv
    simp at this
/-! THE CONTRACTS -/
def q_Pre (G : q_G) (as : List Value) (A : q_H) : Array Value → State → Prop := fun v U => v = as.toArray ∧ q_Rep G A U U.heap ∧ q_Amb G U U.heap
def q_Q (G : q_G) (K : Option Value → q_H → Prop) : Array Value → State → Outcome → State → Prop := fun _ st o t => ∃ (v : Option Value) (A' : q_H), o = .returned v ∧ q_Rep G A' t t.heap ∧ va_F (q_F G) st t ∧ K v A'
def q_XC (G : q_G) (X : String → q_H → Prop) : String → State → State → Prop := fun E st t => ∃ A' : q_H, q_Rep G A' t t.heap ∧ va_F (q_F G) st t ∧ X E A'
/-- the method M, called with as where the heap is as A says, returns with K or throws with X -/
def q_Wc (G : q_G) (M : q_M) (as : List Value) (A : q_H) (K : Option Value → q_H → Prop) (X : String → q_H → Prop) : Prop := vx_Met (q_l G) M.1 (q_ws M) (q_rm M) (q_Pre G as A) (q_Q G K) (q_XC G X) (q_rm M).cells (q_rm M).slots (q_F G)
def q_Cx (G : q_G) (M : q_M) (p : Program) (s : State) (m : MethodId) (args : Array Value) (meth : Method) (c : Code) : Prop :=
  p.tables.exec = Jvm.exec ∧ c.code = q_cc M ∧ meth.sig.returnType = q_rt M ∧ c.maxLocals = q_ml M ∧ s.vm.findClass M.1.cls = some m.cls ∧ (∀ w ∈ q_UW, w.before args s = true) ∧ meth.locks = false ∧ meth.name = M.1.name ∧ c.exceptionTable.toList = tableOf (q_hh M) ∧ q_Amb G s s.heap ∧ q_bs G ≤ s.heap.size
/-- inside M: at pc with the locals lo and the stack st over a heap as A says, k cells of n slots made so far, it comes to its end with K or throws with X -/
def q_Wp (G : q_G) (M : q_M) (K : Option Value → q_H → Prop) (X : String → q_H → Prop) (k n pc : Nat) (lo : List (Option Value)) (st : List Value) (A : q_H) : Prop :=
  ∀ (p : Program) (e : Env) (s : State) (m : MethodId) (args : Array Value) (below : List Frame) (meth : Method) (c : Code), q_Cx G M p s m args meth c → ∀ (H : Heap) (locs : List Loc) (ls : Array Slot), q_Rep G A s H → va_S (q_F G) s.heap H locs → q_has ls lo (q_ml M) →
    W p (q_l G) e (q_rm M) s m args below meth c H locs k n (vx_MQ below (q_Q G K) (q_XC G X) args s (q_rm M).cells (q_rm M).slots (q_F G)) (F0 m pc ls st)
theorem q_Wc.of {G : q_G} {M : q_M} {as : List Value} {A : q_H} {K : Option Value → q_H → Prop} {X : String → q_H → Prop} (lo : List (Option Value)) (hp : plainName M.1.cls = true) (hh : q_hh M = []) (hle : (q_arg as).length ≤ q_ml M) (hlo : q_arg as ++ List.replicate (q_ml M - (q_arg as).length) none = lo)
    (h : q_Wp G M K X 0 0 0 lo [] A) : q_Wc G M as A K X := by
  subst hlo
  refine vx_ofW (cc := q_cc M) (maxL := q_ml M) (ret := q_rt M) (ws' := q_UW) hp ?_ ?_
  · show q_hd M :: q_UW = _
    have e : q_hd M = Cond.code M.1 (q_cc M) (q_ml M) (q_rt M) := by
      unfold q_hd
      split
      · rfl
      · rename_i h9; rw [show M.2.2.2.2.1 = [] from hh] at h9; cases h9
    rw [e]
  · intro p e s m args below meth c s₁ B hml ht hv
    obtain ⟨rfl, hR, hA⟩ := hv
    rw [lg_entry_eq]
    refine h p e s m as.toArray below meth c ⟨B.exec, B.bytes, B.returns, hml, findClass_of_methodNamed B.named, fun w hw => atoms_spec (ws := q_ws M) B.pre w (List.mem_cons_of_mem _ hw), B.notSynchronized, (name_of_methodNamed B.named B.method).1, ?_, hA, hR.2.2.2⟩ s.heap [] _ hR va_S.rf (q_has.entry as hle)
    rw [show q_hh M = [] from hh]
    cases hx : c.exceptionTable.toList with
    | nil => rfl
    | cons x t => exact absurd (by rw [hx]; exact List.mem_cons_self) (ht x)
end
section
/-! ROWS OVER q_Wp -/
/-- pairs of place and value -/
def q_pr (lo : List (Option Value)) : List (Nat × Value) := lo.zipIdx.filterMap fun q => q.1.map fun v => (q.2, v)
theorem q_pr_mem {lo : List (Option Value)} {j : Nat} {w : Value} : (j, w) ∈ q_pr lo ↔ lo[j]? = some (some w) := by
  unfold q_pr
  rw [List.mem_filterMap]
  constructor
  · rintro ⟨⟨o, i⟩, h1, h2⟩
    have h3 := List.mem_zipIdx_iff_getElem?.mp h1
    cases o with
    | none => simp at h2
    | some v =>
      simp at h2
      obtain ⟨rfl, rfl⟩ := h2
      exact h3
  · intro h
    exact ⟨(some w, j), List.mem_zipIdx_iff_getElem?.mpr h, by simp⟩
theorem q_has.lv {ls : Array Slot} {lo : List (Option Value)} {n : Nat} (h : q_has ls lo n) : lv_has ls n (q_pr lo) := ⟨h.1, h.2.2.1, fun q hq => h.2.2.2 q.1 q.2 (q_pr_mem.mp hq)⟩
def q_clr (lo : List (Option Value)) (i : Nat) : List (Option Value) := match i with
  | 0 => lo
  | j + 1 => match lo[j]? with
    | some (some w) => if w.category = 2 then lo.set j none else lo
    | _ => lo
def q_sto (lo : List (Option Value)) (i : Nat) (v : Value) : List (Option Value) := if v.category = 2 then ((q_clr lo i).set i (some v)).set (i + 1) none else (q_clr lo i).set i (some v)
theorem q_clr_len (lo : List (Option Value)) (i : Nat) : (q_clr lo i).length = lo.length := by
  unfold q_clr
  split
  · rfl
  · split
    · split <;> simp
    · rfl
theorem q_sto_len (lo : List (Option Value)) (i : Nat) (v : Value) : (q_sto lo i v).length = lo.length := by
  unfold q_sto
  split <;> simp [q_clr_len]
theorem q_clr_get {lo : List (Option Value)} {i j : Nat} {w : Value} (h : (q_clr lo i)[j]? = some (some w)) : lo[j]? = some (some w) ∧ ¬ (j + 1 = i ∧ w.category = 2) := by
  unfold q_clr at h
  split at h
  · exact ⟨h, by omega⟩
  · rename_i j0
    split at h
    · rename_i w0 hw0
      split at h
      · rename_i hc
        by_cases hj : j = j0
        · subst hj
          have hl := (List.getElem?_eq_some_iff.mp hw0).1
          rw [List.getElem?_set_self hl] at h
          cases h
        · rw [List.getElem?_set_ne (Ne.symm hj)] at h
          exact ⟨h, by omega⟩
      · rename_i hc
        refine ⟨h, fun q => ?_⟩
        have : j = j0 := by omega
        subst this
        rw [hw0] at h
        cases h
        exact hc q.2
    · rename_i hn
      refine ⟨h, fun q => ?_⟩
      have : j = j0 := by omega
      subst this
      exact hn w h
theorem q_sto1 {lo : List (Option Value)} {i : Nat} {v : Value} (hc : v.category = 1) {j : Nat} {w : Value} (h : (q_sto lo i v)[j]? = some (some w)) : (j, w) ∈ (i, v) :: (q_pr lo).filter (fun q => !(q.1 == i) && !(q.1 + 1 == i && q.2.category == 2)) := by
  have hc2 : ¬ v.category = 2 := by omega
  unfold q_sto at h
  rw [if_neg hc2] at h
  by_cases hj : j = i
  · subst hj
    by_cases hl : j < (q_clr lo j).length
    · rw [List.getElem?_set_self hl] at h
      cases h
      exact List.mem_cons_self
    · rw [List.getElem?_eq_none (by simp; omega)] at h
      cases h
  · rw [List.getElem?_set_ne (Ne.symm hj)] at h
    obtain ⟨h1, h2⟩ := q_clr_get h
    refine List.mem_cons_of_mem _ (List.mem_filter.mpr ⟨q_pr_mem.mpr h1, ?_⟩)
    simp only [Bool.and_eq_true, Bool.not_eq_true', beq_eq_false_iff_ne, Bool.and_eq_false_iff, ne_eq]
    refine ⟨hj, ?_⟩
    by_cases q : j + 1 = i
    · exact Or.inr (fun z => h2 ⟨q, z⟩)
    · exact Or.inl q
theorem q_sto2 {lo : List (Option Value)} {i : Nat} {v : Value} (hc : v.category = 2) {j : Nat} {w : Value} (h : (q_sto lo i v)[j]? = some (some w)) : (j, w) ∈ (i, v) :: (q_pr lo).filter (fun q => !(q.1 == i) && (!(q.1 == i + 1) && !(q.1 + 1 == i && q.2.category == 2))) := by
  unfold q_sto at h
  rw [if_pos hc] at h
  by_cases hj1 : j = i + 1
  · subst hj1
    by_cases hl : i + 1 < ((q_clr lo i).set i (some v)).length
    · rw [List.getElem?_set_self hl] at h
      cases h
    · rw [List.getElem?_eq_none (by simp at hl ⊢; omega)] at h
      cases h
  · rw [List.getElem?_set_ne (Ne.symm hj1)] at h
    by_cases hj : j = i
    · subst hj
      by_cases hl : j < (q_clr lo j).length
      · rw [List.getElem?_set_self hl] at h
        cases h
        exact List.mem_cons_self
      · rw [List.getElem?_eq_none (by simp; omega)] at h
        cases h
    · rw [List.getElem?_set_ne (Ne.symm hj)] at h
      obtain ⟨h1, h2⟩ := q_clr_get h
      refine List.mem_cons_of_mem _ (List.mem_filter.mpr ⟨q_pr_mem.mpr h1, ?_⟩)
      simp only [Bool.and_eq_true, Bool.not_eq_true', beq_eq_false_iff_ne, Bool.and_eq_false_iff, ne_eq]
      refine ⟨hj, hj1, ?_⟩
      by_cases q : j + 1 = i
      · exact Or.inr (fun z => h2 ⟨q, z⟩)
      · exact Or.inl q
theorem q_has.st1 {ls' : Array Slot} {lo : List (Option Value)} {n i : Nat} {v : Value} (hc : v.category = 1) (hl : lo.length = n) (h : lv_has ls' n ((i, v) :: (q_pr lo).filter (fun q => !(q.1 == i) && !(q.1 + 1 == i && q.2.category == 2)))) : q_has ls' (q_sto lo i v) n :=
  ⟨h.1, by rw [q_sto_len]; exact hl, h.2.1, fun j w hj => h.2.2 (j, w) (q_sto1 hc hj)⟩
theorem q_has.st2 {ls' : Array Slot} {lo : List (Option Value)} {n i : Nat} {v : Value} (hc : v.category = 2) (hl : lo.length = n) (h : lv_has ls' n ((i, v) :: (q_pr lo).filter (fun q => !(q.1 == i) && (!(q.1 == i + 1) && !(q.1 + 1 == i && q.2.category == 2))))) : q_has ls' (q_sto lo i v) n :=
  ⟨h.1, by rw [q_sto_len]; exact hl, h.2.1, fun j w hj => h.2.2 (j, w) (q_sto2 hc hj)⟩
/-- one instruction that moves the locals and the stack alone -/
def q_ldI (lo : List (Option Value)) (st : List Value) (i : Nat) : Option (List (Option Value) × List Value) := match lo[i]? with
  | some (some (.int x)) => some (lo, .int x :: st)
  | _ => none
def q_ldL (lo : List (Option Value)) (st : List Value) (i : Nat) : Option (List (Option Value) × List Value) := match lo[i]? with
  | some (some (.long x)) => some (lo, .long x :: st)
  | _ => none
def q_ldD (lo : List (Option Value)) (st : List Value) (i : Nat) : Option (List (Option Value) × List Value) := match lo[i]? with
  | some (some (.double x)) => some (lo, .double x :: st)
  | _ => none
def q_ldA (lo : List (Option Value)) (st : List Value) (i : Nat) : Option (List (Option Value) × List Value) := match lo[i]? with
  | some (some (.ref x)) => some (lo, .ref x :: st)
  | some (some .null) => some (lo, .null :: st)
  | _ => none
def q_stI (lo : List (Option Value)) (st : List Value) (i : Nat) : Option (List (Option Value) × List Value) := match st with
  | .int x :: r => if i < lo.length then some (q_sto lo i (.int x), r) else none
  | _ => none
def q_stA (lo : List (Option Value)) (st : List Value) (i : Nat) : Option (List (Option Value) × List Value) := match st with
  | .ref x :: r => if i < lo.length then some (q_sto lo i (.ref x), r) else none
  | .null :: r => if i < lo.length then some (q_sto lo i .null, r) else none
  | _ => none
def q_stL (lo : List (Option Value)) (st : List Value) (i : Nat) : Option (List (Option Value) × List Value) := match st with
  | .long x :: r => if i + 1 < lo.length then some (q_sto lo i (.long x), r) else none
  | _ => none
def q_stD (lo : List (Option Value)) (st : List Value) (i : Nat) : Option (List (Option Value) × List Value) := match st with
  | .double x :: r => if i + 1 < lo.length then some (q_sto lo i (.double x), r) else none
  | _ => none
def q_b2 (lo : List (Option Value)) (st : List Value) (f : Int32 → Int32 → Value) : Option (List (Option Value) × List Value) := match st with
  | .int y :: .int x :: r => some (lo, f x y :: r)
  | _ => none
def q_l2 (lo : List (Option Value)) (st : List Value) (f : Int64 → Int64 → Value) : Option (List (Option Value) × List Value) := match st with
  | .long y :: .long x :: r => some (lo, f x y :: r)
  | _ => none
def q_d2 (lo : List (Option Value)) (st : List Value) (f : UInt64 → UInt64 → Value) : Option (List (Option Value) × List Value) := match st with
  | .double y :: .double x :: r => some (lo, f x y :: r)
  | _ => none
def q_u1 (lo : List (Option Value)) (st : List Value) (f : Int32 → Value) : Option (List (Option Value) × List Value) := match st with
  | .int x :: r => some (lo, f x :: r)
  | _ => none
def q_ul (lo : List (Option Value)) (st : List Value) (f : Int64 → Value) : Option (List (Option Value) × List Value) := match st with
  | .long x :: r => some (lo, f x :: r)
  | _ => none
def q_dup (lo : List (Option Value)) (st : List Value) : Option (List (Option Value) × List Value) := match st with
  | v :: r => if v.category = 1 then some (lo, v :: v :: r) else none
  | _ => none
def q_pop (lo : List (Option Value)) (st : List Value) : Option (List (Option Value) × List Value) := match st with
  | v :: r => if v.category = 1 then some (lo, r) else none
  | _ => none
def q_dup2 (lo : List (Option Value)) (st : List Value) : Option (List (Option Value) × List Value) := match st with
  | v :: w :: r => if v.category = 1 then (if w.category = 1 then some (lo, v :: w :: v :: w :: r) else none) else none
  | _ => none
def q_inc (lo : List (Option Value)) (st : List Value) (i : Nat) (n : Int) : Option (List (Option Value) × List Value) := match lo[i]? with
  | some (some (.int x)) => some (q_sto lo i (.int (x + Int32.ofInt n)), st)
  | _ => none
def q_sx (i : Instr) (lo : List (Option Value)) (st : List Value) : Option (List (Option Value) × List Value) := match i with
  | .iconst n => some (lo, .int (Int32.ofInt n) :: st)
  | .bipush n => some (lo, .int ((Int8.ofInt n).toInt32) :: st)
  | .sipush n => some (lo, .int ((Int16.ofInt n).toInt32) :: st)
  | .lconst n => some (lo, .long (Int64.ofNat (n : Nat)) :: st)
  | .aconst_null => some (lo, .null :: st)
  | .iload_n k => q_ldI lo st k
  | .iload k => q_ldI lo st k
  | .lload_n k => q_ldL lo st k
  | .lload k => q_ldL lo st k
  | .dload_n k => q_ldD lo st k
  | .dload k => q_ldD lo st k
  | .aload_n k => q_ldA lo st k
  | .aload k => q_ldA lo st k
  | .istore_n k => q_stI lo st k
  | .istore k => q_stI lo st k
  | .lstore_n k => q_stL lo st k
  | .lstore k => q_stL lo st k
  | .dstore_n k => q_stD lo st k
  | .dstore k => q_stD lo st k
  | .astore_n k => q_stA lo st k
  | .astore k => q_stA lo st k
  | .iinc k n => q_inc lo st k n
  | .iadd => q_b2 lo st fun x y => .int (x + y)
  | .isub => q_b2 lo st fun x y => .int (x - y)
  | .imul => q_b2 lo st fun x y => .int (x * y)
  | .iand => q_b2 lo st fun x y => .int (x &&& y)
  | .ishr => q_b2 lo st fun x y => .int (x >>> (y &&& 31))
  | .iushr => q_b2 lo st fun x y => .int ((x.toUInt32 >>> (y.toUInt32 &&& Int32.toUInt32 31)).toInt32)
  | .ineg => q_u1 lo st fun x => .int (-x)
  | .i2l => q_u1 lo st fun x => .long x.toInt64
  | .i2b => q_u1 lo st fun x => .int x.toInt8.toInt32
  | .i2d => q_u1 lo st fun x => .double (FP.i2d x)
  | .i2f => q_u1 lo st fun x => .float (FP.i2f x)
  | .l2i => q_ul lo st fun x => .int x.toInt32
  | .ladd => q_l2 lo st fun x y => .long (x + y)
  | .lsub => q_l2 lo st fun x y => .long (x - y)
  | .lmul => q_l2 lo st fun x y => .long (x * y)
  | .lcmp => q_l2 lo st fun x y => .int (lg_cmp x y)
  | .dcmp op => q_d2 lo st fun x y => .int (Op.cmpValue (FP.dcmp x y) op)
  | .dup => q_dup lo st
  | .dup2 => q_dup2 lo st
  | .pop => q_pop lo st
  | _ => none
section QS
variable {G : q_G} {M : q_M} {K : Option Value → q_H → Prop} {X : String → q_H → Prop} {k n pc : Nat} {lo lo' : List (Option Value)} {st st' : List Value} {A : q_H}
theorem q_wI {i : Nat} (h : q_ldI lo st i = some (lo', st')) : ∃ x, lo[i]? = some (some (.int x)) ∧ lo' = lo ∧ st' = .int x :: st := by
  unfold q_ldI at h
  split at h
  · rename_i x hx; cases h; exact ⟨x, hx, rfl, rfl⟩
  · cases h
theorem q_wL {i : Nat} (h : q_ldL lo st i = some (lo', st')) : ∃ x, lo[i]? = some (some (.long x)) ∧ lo' = lo ∧ st' = .long x :: st := by
  unfold q_ldL at h
  split at h
  · rename_i x hx; cases h; exact ⟨x, hx, rfl, rfl⟩
  · cases h
theorem q_wD {i : Nat} (h : q_ldD lo st i = some (lo', st')) : ∃ x, lo[i]? = some (some (.double x)) ∧ lo' = lo ∧ st' = .double x :: st := by
  unfold q_ldD at h
  split at h
  · rename_i x hx; cases h; exact ⟨x, hx, rfl, rfl⟩
  · cases h
theorem q_wA {i : Nat} (h : q_ldA lo st i = some (lo', st')) : (∃ x, lo[i]? = some (some (.ref x)) ∧ lo' = lo ∧ st' = .ref x :: st) ∨ (lo[i]? = some (some .null) ∧ lo' = lo ∧ st' = .null :: st) := by
  unfold q_ldA at h
  split at h
  · rename_i x hx; cases h; exact Or.inl ⟨x, hx, rfl, rfl⟩
  · rename_i hx; cases h; exact Or.inr ⟨hx, rfl, rfl⟩
  · cases h
theorem q_wsI {i : Nat} (h : q_stI lo st i = some (lo', st')) : ∃ x, st = .int x :: st' ∧ i < lo.length ∧ lo' = q_sto lo i (.int x) := by
  unfold q_stI at h
  split at h
  · split at h
    · rename_i hl; cases h; exact ⟨_, rfl, hl, rfl⟩
    · cases h
  · cases h
theorem q_wsL {i : Nat} (h : q_stL lo st i = some (lo', st')) : ∃ x, st = .long x :: st' ∧ i + 1 < lo.length ∧ lo' = q_sto lo i (.long x) := by
  unfold q_stL at h
  split at h
  · split at h
    · rename_i hl; cases h; exact ⟨_, rfl, hl, rfl⟩
    · cases h
  · cases h
theorem q_wsD {i : Nat} (h : q_stD lo st i = some (lo', st')) : ∃ x, st = .double x :: st' ∧ i + 1 < lo.length ∧ lo' = q_sto lo i (.double x) := by
  unfold q_stD at h
  split at h
  · split at h
    · rename_i hl; cases h; exact ⟨_, rfl, hl, rfl⟩
    · cases h
  · cases h
theorem q_wsA {i : Nat} (h : q_stA lo st i = some (lo', st')) : (∃ x, st = .ref x :: st' ∧ i < lo.length ∧ lo' = q_sto lo i (.ref x)) ∨ (st = .null :: st' ∧ i < lo.length ∧ lo' = q_sto lo i .null) := by
  unfold q_stA at h
  split at h
  · split at h
    · rename_i hl; cases h; exact Or.inl ⟨_, rfl, hl, rfl⟩
    · cases h
  · split at h
    · rename_i hl; cases h; exact Or.inr ⟨rfl, hl, rfl⟩
    · cases h
  · cases h
theorem q_wb2 {f : Int32 → Int32 → Value} (h : q_b2 lo st f = some (lo', st')) : ∃ x y r, st = .int y :: .int x :: r ∧ lo' = lo ∧ st' = f x y :: r := by
  unfold q_b2 at h
  split at h
  · cases h; exact ⟨_, _, _, rfl, rfl, rfl⟩
  · cases h
theorem q_wl2 {f : Int64 → Int64 → Value} (h : q_l2 lo st f = some (lo', st')) : ∃ x y r, st = .long y :: .long x :: r ∧ lo' = lo ∧ st' = f x y :: r := by
  unfold q_l2 at h
  split at h
  · cases h; exact ⟨_, _, _, rfl, rfl, rfl⟩
  · cases h
theorem q_wd2 {f : UInt64 → UInt64 → Value} (h : q_d2 lo st f = some (lo', st')) : ∃ x y r, st = .double y :: .double x :: r ∧ lo' = lo ∧ st' = f x y :: r := by
  unfold q_d2 at h
  split at h
  · cases h; exact ⟨_, _, _, rfl, rfl, rfl⟩
  · cases h
theorem q_wu1 {f : Int32 → Value} (h : q_u1 lo st f = some (lo', st')) : ∃ x r, st = .int x :: r ∧ lo' = lo ∧ st' = f x :: r := by
  unfold q_u1 at h
  split at h
  · cases h; exact ⟨_, _, rfl, rfl, rfl⟩
  · cases h
theorem q_wul {f : Int64 → Value} (h : q_ul lo st f = some (lo', st')) : ∃ x r, st = .long x :: r ∧ lo' = lo ∧ st' = f x :: r := by
  unfold q_ul at h
  split at h
  · cases h; exact ⟨_, _, rfl, rfl, rfl⟩
  · cases h
theorem q_wdup (h : q_dup lo st = some (lo', st')) : ∃ v r, st = v :: r ∧ v.category = 1 ∧ lo' = lo ∧ st' = v :: v :: r := by
  unfold q_dup at h
  split at h
  · split at h
    · rename_i hc; cases h; exact ⟨_, _, rfl, hc, rfl, rfl⟩
    · cases h
  · cases h
theorem q_wpop (h : q_pop lo st = some (lo', st')) : ∃ v r, st = v :: r ∧ v.category = 1 ∧ lo' = lo ∧ st' = r := by
  unfold q_pop at h
  split at h
  · split at h
    · rename_i hc; cases h; exact ⟨_, _, rfl, hc, rfl, rfl⟩
    · cases h
  · cases h
theorem q_wdup2 (h : q_dup2 lo st = some (lo', st')) : ∃ v w r, st = v :: w :: r ∧ v.category = 1 ∧ w.category = 1 ∧ lo' = lo ∧ st' = v :: w :: v :: w :: r := by
  unfold q_dup2 at h
  split at h
  · split at h
    · split at h
      · rename_i hc hw; cases h; exact ⟨_, _, _, rfl, hc, hw, rfl, rfl⟩
      · cases h
    · cases h
  · cases h
theorem q_winc {i : Nat} {z : Int} (h : q_inc lo st i z = some (lo', st')) : ∃ x, lo[i]? = some (some (.int x)) ∧ lo' = q_sto lo i (.int (x + Int32.ofInt z)) ∧ st' = st := by
  unfold q_inc at h
  split at h
  · rename_i x hx; cases h; exact ⟨_, hx, rfl, rfl⟩
  · cases h
/-- the lengths of those instructions -/
def q_il (i : Instr) : Nat := match i with
  | .bipush _ => 2
  | .sipush _ => 3
  | .iload _ => 2
  | .lload _ => 2
  | .dload _ => 2
  | .aload _ => 2
  | .istore _ => 2
  | .lstore _ => 2
  | .dstore _ => 2
  | .astore _ => 2
  | .iinc _ _ => 3
  | _ => 1
set_option maxHeartbeats 4000000 in
theorem q_one {i : Instr} (hd : decode (q_cc M) pc = .ok (i, q_il i)) (h : q_sx i lo st = some (lo', st')) (kk : q_Wp G M K X k n (pc + q_il i) lo' st' A) : q_Wp G M K X k n pc lo st A := by
  intro p e s m args below meth c C H locs ls hR hS hl
  have k2 := kk p e s m args below meth c C H locs
  obtain ⟨hx, hb, -⟩ := C
  have hlen := hl.2.1
  cases i with
  | iconst z =>
    cases h
    exact lv_iconst hx hb hd rfl (k2 ls hR hS hl)
  | bipush z =>
    cases h
    exact lv_bipush hx hb hd rfl (k2 ls hR hS hl)
  | sipush z =>
    cases h
    exact lv_sipush hx hb hd rfl (k2 ls hR hS hl)
  | lconst z =>
    cases h
    exact lv_lconst hx hb hd rfl (k2 ls hR hS hl)
  | aconst_null =>
    cases h
    exact lv_null hx hb hd (k2 ls hR hS hl)
  | iload_n z =>
    obtain ⟨x, hv, rfl, rfl⟩ := q_wI h
    exact lv_iload_n hx hb hd rfl (hl.2.2.2 _ _ hv) (k2 ls hR hS hl)
  | iload z =>
    obtain ⟨x, hv, rfl, rfl⟩ := q_wI h
    exact lv_iload hx hb hd (hl.2.2.2 _ _ hv) (k2 ls hR hS hl)
  | lload_n z =>
    obtain ⟨x, hv, rfl, rfl⟩ := q_wL h
    exact lv_lload_n hx hb hd rfl (hl.2.2.2 _ _ hv) (k2 ls hR hS hl)
  | lload z =>
    obtain ⟨x, hv, rfl, rfl⟩ := q_wL h
    exact lv_lload hx hb hd (hl.2.2.2 _ _ hv) (k2 ls hR hS hl)
  | dload_n z =>
    obtain ⟨x, hv, rfl, rfl⟩ := q_wD h
    exact lv_dload_n hx hb hd rfl (hl.2.2.2 _ _ hv) (k2 ls hR hS hl)
  | dload z =>
    obtain ⟨x, hv, rfl, rfl⟩ := q_wD h
    exact lv_dload hx hb hd (hl.2.2.2 _ _ hv) (k2 ls hR hS hl)
  | aload_n z =>
    rcases q_wA h with ⟨x, hv, rfl, rfl⟩ | ⟨hv, rfl, rfl⟩
    · exact lv_aload_n hx hb hd rfl (hl.2.2.2 _ _ hv) (k2 ls hR hS hl)
    · exact lv_aload_nN hx hb hd rfl (hl.2.2.2 _ _ hv) (k2 ls hR hS hl)
  | aload z =>
    rcases q_wA h with ⟨x, hv, rfl, rfl⟩ | ⟨hv, rfl, rfl⟩
    · exact lv_aload hx hb hd (hl.2.2.2 _ _ hv) (k2 ls hR hS hl)
    · exact lv_aloadN hx hb hd (hl.2.2.2 _ _ hv) (k2 ls hR hS hl)
  | istore_n z =>
    obtain ⟨x, rfl, hi, rfl⟩ := q_wsI h
    exact lv_istore_n hx hb hd rfl hl.lv (by omega) rfl (fun ls2 h2 => k2 ls2 hR hS (q_has.st1 rfl hlen h2))
  | istore z =>
    obtain ⟨x, rfl, hi, rfl⟩ := q_wsI h
    exact lv_istore hx hb hd hl.lv (by omega) rfl (fun ls2 h2 => k2 ls2 hR hS (q_has.st1 rfl hlen h2))
  | lstore_n z =>
    obtain ⟨x, rfl, hi, rfl⟩ := q_wsL h
    exact lv_lstore_n hx hb hd rfl hl.lv (by omega) rfl (fun ls2 h2 => k2 ls2 hR hS (q_has.st2 rfl hlen h2))
  | lstore z =>
    obtain ⟨x, rfl, hi, rfl⟩ := q_wsL h
    exact lv_lstore hx hb hd hl.lv (by omega) rfl (fun ls2 h2 => k2 ls2 hR hS (q_has.st2 rfl hlen h2))
  | dstore_n z =>
    obtain ⟨x, rfl, hi, rfl⟩ := q_wsD h
    exact lv_dstore_n hx hb hd rfl hl.lv (by omega) rfl (fun ls2 h2 => k2 ls2 hR hS (q_has.st2 rfl hlen h2))
  | dstore z =>
    obtain ⟨x, rfl, hi, rfl⟩ := q_wsD h
    exact lv_dstore hx hb hd hl.lv (by omega) rfl (fun ls2 h2 => k2 ls2 hR hS (q_has.st2 rfl hlen h2))
  | astore_n z =>
    rcases q_wsA h with ⟨x, rfl, hi, rfl⟩ | ⟨rfl, hi, rfl⟩
    · exact lv_astore_n hx hb hd rfl hl.lv (by omega) rfl (fun ls2 h2 => k2 ls2 hR hS (q_has.st1 rfl hlen h2))
    · exact lv_astore_nN hx hb hd rfl hl.lv (by omega) rfl (fun ls2 h2 => k2 ls2 hR hS (q_has.st1 rfl hlen h2))
  | astore z =>
    rcases q_wsA h with ⟨x, rfl, hi, rfl⟩ | ⟨rfl, hi, rfl⟩
    · exact lv_astore hx hb hd hl.lv (by omega) rfl (fun ls2 h2 => k2 ls2 hR hS (q_has.st1 rfl hlen h2))
    · exact lv_astoreN hx hb hd hl.lv (by omega) rfl (fun ls2 h2 => k2 ls2 hR hS (q_has.st1 rfl hlen h2))
  | iinc z w =>
    obtain ⟨x, hv, rfl, rfl⟩ := q_winc h
    obtain ⟨k9, hk9⟩ := List.getElem?_of_mem (q_pr_mem.mpr hv)
    have hi : z < lo.length := (List.getElem?_eq_some_iff.mp hv).1
    exact lv_iinc hx hb hd hl.lv hk9 rfl (by omega) rfl (fun ls2 h2 => k2 ls2 hR hS (q_has.st1 rfl hlen h2))
  | iadd =>
    obtain ⟨x, y, r, rfl, rfl, rfl⟩ := q_wb2 h
    exact lv_iadd hx hb hd (k2 ls hR hS hl)
  | isub =>
    obtain ⟨x, y, r, rfl, rfl, rfl⟩ := q_wb2 h
    exact lv_isub hx hb hd (k2 ls hR hS hl)
  | imul =>
    obtain ⟨x, y, r, rfl, rfl, rfl⟩ := q_wb2 h
    exact lv_imul hx hb hd (k2 ls hR hS hl)
  | iand =>
    obtain ⟨x, y, r, rfl, rfl, rfl⟩ := q_wb2 h
    exact lv_iand hx hb hd (k2 ls hR hS hl)
  | ishr =>
    obtain ⟨x, y, r, rfl, rfl, rfl⟩ := q_wb2 h
    exact lv_ishr hx hb hd (k2 ls hR hS hl)
  | iushr =>
    obtain ⟨x, y, r, rfl, rfl, rfl⟩ := q_wb2 h
    exact lv_iushr hx hb hd rfl (k2 ls hR hS hl)
  | ineg =>
    obtain ⟨x, r, rfl, rfl, rfl⟩ := q_wu1 h
    exact lv_ineg hx hb hd (k2 ls hR hS hl)
  | i2l =>
    obtain ⟨x, r, rfl, rfl, rfl⟩ := q_wu1 h
    exact lv_i2l hx hb hd rfl (k2 ls hR hS hl)
  | i2b =>
    obtain ⟨x, r, rfl, rfl, rfl⟩ := q_wu1 h
    exact lv_i2b hx hb hd rfl (k2 ls hR hS hl)
  | i2d =>
    obtain ⟨x, r, rfl, rfl, rfl⟩ := q_wu1 h
    exact lv_i2d hx hb hd (k2 ls hR hS hl)
  | i2f =>
    obtain ⟨x, r, rfl, rfl, rfl⟩ := q_wu1 h
    exact lv_i2f hx hb hd (k2 ls hR hS hl)
  | l2i =>
    obtain ⟨x, r, rfl, rfl, rfl⟩ := q_wul h
    exact lv_l2i hx hb hd rfl (k2 ls hR hS hl)
  | ladd =>
    obtain ⟨x, y, r, rfl, rfl, rfl⟩ := q_wl2 h
    exact lv_ladd hx hb hd (k2 ls hR hS hl)
  | lsub =>
    obtain ⟨x, y, r, rfl, rfl, rfl⟩ := q_wl2 h
    exact lv_lsub hx hb hd (k2 ls hR hS hl)
  | lmul =>
    obtain ⟨x, y, r, rfl, rfl, rfl⟩ := q_wl2 h
    exact lv_lmul hx hb hd (k2 ls hR hS hl)
  | lcmp =>
    obtain ⟨x, y, r, rfl, rfl, rfl⟩ := q_wl2 h
    exact W.lcmp hx hb hd (k2 ls hR hS hl)
  | dcmp op =>
    obtain ⟨x, y, r, rfl, rfl, rfl⟩ := q_wd2 h
    exact lv_dcmp hx hb hd (k2 ls hR hS hl)
  | dup =>
    obtain ⟨v, r, rfl, hc, rfl, rfl⟩ := q_wdup h
    exact lv_dup hx hb hd hc (k2 ls hR hS hl)
  | dup2 =>
    obtain ⟨v, w, r, rfl, hc, hw, rfl, rfl⟩ := q_wdup2 h
    exact lv_dup2_11 hx hb hd hc hw (k2 ls hR hS hl)
  | pop =>
    obtain ⟨v, r, rfl, hc, rfl, rfl⟩ := q_wpop h
    exact lv_pop hx hb hd hc (k2 ls hR hS hl)
  | _ => cases h
/-- a stretch of them -/
def q_sxs : List Instr → Nat → List (Option Value) → List Value → Option (Nat × List (Option Value) × List Value)
  | [], pc, lo, st => some (pc, lo, st)
  | i :: t, pc, lo, st => match q_sx i lo st with
    | some (lo2, st2) => q_sxs t (pc + q_il i) lo2 st2
    | none => none
def q_dec (cc : ByteArray) : List Instr → Nat → Bool
  | [], _ => true
  | i :: t, pc => decide (decode cc pc = .ok (i, q_il i)) && q_dec cc t (pc + q_il i)
theorem q_blk {pc' : Nat} (is : List Instr) (hd : q_dec (q_cc M) is pc = true) (h : q_sxs is pc lo st = some (pc', lo', st')) (kk : q_Wp G M K X k n pc' lo' st' A) : q_Wp G M K X k n pc lo st A := by
  induction is generalizing pc lo st with
  | nil => cases h; exact kk
  | cons i t ih =>
    rw [q_dec, Bool.and_eq_true, decide_eq_true_eq] at hd
    obtain ⟨h1, h2⟩ := hd
    unfold q_sxs at h
    split at h
    · rename_i lo2 st2 h3
      exact q_one h1 h3 (ih h2 h)
    · cases h
theorem q_if_eq {x : Int32} {off : Int} (tgt : Nat) (hd : decode (q_cc M) pc = .ok (.ifCond .eq off, 3)) (ht : (pc : Int) + off = (tgt : Int)) (h1 : x = 0 → q_Wp G M K X k n tgt lo st A) (h2 : ¬ x = 0 → q_Wp G M K X k n (pc + 3) lo st A) : q_Wp G M K X k n pc lo (.int x :: st) A :=
  fun p e s m args below meth c C H locs ls hR hS hl => lv_if_eq C.1 C.2.1 hd ht (fun q => h1 q p e s m args below meth c C H locs ls hR hS hl) (fun q => h2 q p e s m args below meth c C H locs ls hR hS hl)
theorem q_icmp_eq {x y : Int32} {off : Int} (tgt : Nat) (hd : decode (q_cc M) pc = .ok (.if_icmp .eq off, 3)) (ht : (pc : Int) + off = (tgt : Int)) (h1 : x = y → q_Wp G M K X k n tgt lo st A) (h2 : ¬ x = y → q_Wp G M K X k n (pc + 3) lo st A) : q_Wp G M K X k n pc lo (.int y :: .int x :: st) A :=
  fun p e s m args below meth c C H locs ls hR hS hl => lv_icmp_eq C.1 C.2.1 hd ht (fun q => h1 q p e s m args below meth c C H locs ls hR hS hl) (fun q => h2 q p e s m args below meth c C H locs ls hR hS hl)
theorem q_if_ne {x : Int32} {off : Int} (tgt : Nat) (hd : decode (q_cc M) pc = .ok (.ifCond .ne off, 3)) (ht : (pc : Int) + off = (tgt : Int)) (h1 : ¬ x = 0 → q_Wp G M K X k n tgt lo st A) (h2 : x = 0 → q_Wp G M K X k n (pc + 3) lo st A) : q_Wp G M K X k n pc lo (.int x :: st) A :=
  fun p e s m args below meth c C H locs ls hR hS hl => lv_if_ne C.1 C.2.1 hd ht (fun q => h1 q p e s m args below meth c C H locs ls hR hS hl) (fun q => h2 q p e s m args below meth c C H locs ls hR hS hl)
theorem q_icmp_ne {x y : Int32} {off : Int} (tgt : Nat) (hd : decode (q_cc M) pc = .ok (.if_icmp .ne off, 3)) (ht : (pc : Int) + off = (tgt : Int)) (h1 : ¬ x = y → q_Wp G M K X k n tgt lo st A) (h2 : x = y → q_Wp G M K X k n (pc + 3) lo st A) : q_Wp G M K X k n pc lo (.int y :: .int x :: st) A :=
  fun p e s m args below meth c C H locs ls hR hS hl => lv_icmp_ne C.1 C.2.1 hd ht (fun q => h1 q p e s m args below meth c C H locs ls hR hS hl) (fun q => h2 q p e s m args below meth c C H locs ls hR hS hl)
theorem q_if_lt {x : Int32} {off : Int} (tgt : Nat) (hd : decode (q_cc M) pc = .ok (.ifCond .lt off, 3)) (ht : (pc : Int) + off = (tgt : Int)) (h1 : x < 0 → q_Wp G M K X k n tgt lo st A) (h2 : ¬ x < 0 → q_Wp G M K X k n (pc + 3) lo st A) : q_Wp G M K X k n pc lo (.int x :: st) A :=
  fun p e s m args below meth c C H locs ls hR hS hl => lv_if_lt C.1 C.2.1 hd ht (fun q => h1 q p e s m args below meth c C H locs ls hR hS hl) (fun q => h2 q p e s m args below meth c C H locs ls hR hS hl)
theorem q_icmp_lt {x y : Int32} {off : Int} (tgt : Nat) (hd : decode (q_cc M) pc = .ok (.if_icmp .lt off, 3)) (ht : (pc : Int) + off = (tgt : Int)) (h1 : x < y → q_Wp G M K X k n tgt lo st A) (h2 : ¬ x < y → q_Wp G M K X k n (pc + 3) lo st A) : q_Wp G M K X k n pc lo (.int y :: .int x :: st) A :=
  fun p e s m args below meth c C H locs ls hR hS hl => lv_icmp_lt C.1 C.2.1 hd ht (fun q => h1 q p e s m args below meth c C H locs ls hR hS hl) (fun q => h2 q p e s m args below meth c C H locs ls hR hS hl)
theorem q_if_ge {x : Int32} {off : Int} (tgt : Nat) (hd : decode (q_cc M) pc = .ok (.ifCond .ge off, 3)) (ht : (pc : Int) + off = (tgt : Int)) (h1 : 0 ≤ x → q_Wp G M K X k n tgt lo st A) (h2 : ¬ 0 ≤ x → q_Wp G M K X k n (pc + 3) lo st A) : q_Wp G M K X k n pc lo (.int x :: st) A :=
  fun p e s m args below meth c C H locs ls hR hS hl => lv_if_ge C.1 C.2.1 hd ht (fun q => h1 q p e s m args below meth c C H locs ls hR hS hl) (fun q => h2 q p e s m args below meth c C H locs ls hR hS hl)
theorem q_icmp_ge {x y : Int32} {off : Int} (tgt : Nat) (hd : decode (q_cc M) pc = .ok (.if_icmp .ge off, 3)) (ht : (pc : Int) + off = (tgt : Int)) (h1 : y ≤ x → q_Wp G M K X k n tgt lo st A) (h2 : ¬ y ≤ x → q_Wp G M K X k n (pc + 3) lo st A) : q_Wp G M K X k n pc lo (.int y :: .int x :: st) A :=
  fun p e s m args below meth c C H locs ls hR hS hl => lv_icmp_ge C.1 C.2.1 hd ht (fun q => h1 q p e s m args below meth c C H locs ls hR hS hl) (fun q => h2 q p e s m args below meth c C H locs ls hR hS hl)
theorem q_if_gt {x : Int32} {off : Int} (tgt : Nat) (hd : decode (q_cc M) pc = .ok (.ifCond .gt off, 3)) (ht : (pc : Int) + off = (tgt : Int)) (h1 : 0 < x → q_Wp G M K X k n tgt lo st A) (h2 : ¬ 0 < x → q_Wp G M K X k n (pc + 3) lo st A) : q_Wp G M K X k n pc lo (.int x :: st) A :=
  fun p e s m args below meth c C H locs ls hR hS hl => lv_if_gt C.1 C.2.1 hd ht (fun q => h1 q p e s m args below meth c C H locs ls hR hS hl) (fun q => h2 q p e s m args below meth c C H locs ls hR hS hl)
theorem q_icmp_gt {x y : Int32} {off : Int} (tgt : Nat) (hd : decode (q_cc M) pc = .ok (.if_icmp .gt off, 3)) (ht : (pc : Int) + off = (tgt : Int)) (h1 : y < x → q_Wp G M K X k n tgt lo st A) (h2 : ¬ y < x → q_Wp G M K X k n (pc + 3) lo st A) : q_Wp G M K X k n pc lo (.int y :: .int x :: st) A :=
  fun p e s m args below meth c C H locs ls hR hS hl => lv_icmp_gt C.1 C.2.1 hd ht (fun q => h1 q p e s m args below meth c C H locs ls hR hS hl) (fun q => h2 q p e s m args below meth c C H locs ls hR hS hl)
theorem q_if_le {x : Int32} {off : Int} (tgt : Nat) (hd : decode (q_cc M) pc = .ok (.ifCond .le off, 3)) (ht : (pc : Int) + off = (tgt : Int)) (h1 : x ≤ 0 → q_Wp G M K X k n tgt lo st A) (h2 : ¬ x ≤ 0 → q_Wp G M K X k n (pc + 3) lo st A) : q_Wp G M K X k n pc lo (.int x :: st) A :=
  fun p e s m args below meth c C H locs ls hR hS hl => lv_if_le C.1 C.2.1 hd ht (fun q => h1 q p e s m args below meth c C H locs ls hR hS hl) (fun q => h2 q p e s m args below meth c C H locs ls hR hS hl)
theorem q_icmp_le {x y : Int32} {off : Int} (tgt : Nat) (hd : decode (q_cc M) pc = .ok (.if_icmp .le off, 3)) (ht : (pc : Int) + off = (tgt : Int)) (h1 : x ≤ y → q_Wp G M K X k n tgt lo st A) (h2 : ¬ x ≤ y → q_Wp G M K X k n (pc + 3) lo st A) : q_Wp G M K X k n pc lo (.int y :: .int x :: st) A :=
  fun p e s m args below meth c C H locs ls hR hS hl => lv_icmp_le C.1 C.2.1 hd ht (fun q => h1 q p e s m args below meth c C H locs ls hR hS hl) (fun q => h2 q p e s m args below meth c C H locs ls hR hS hl)
theorem q_goto {off : Int} (tgt : Nat) (hd : decode (q_cc M) pc = .ok (.goto off, 3)) (ht : (pc : Int) + off = (tgt : Int)) (h : q_Wp G M K X k n tgt lo st A) : q_Wp G M K X k n pc lo st A :=
  fun p e s m args below meth c C H locs ls hR hS hl => lv_goto C.1 C.2.1 hd ht (h p e s m args below meth c C H locs ls hR hS hl)
theorem q_nul_y {off : Int} (tgt : Nat) (hd : decode (q_cc M) pc = .ok (.ifnull off, 3)) (ht : (pc : Int) + off = (tgt : Int)) (h : q_Wp G M K X k n tgt lo st A) : q_Wp G M K X k n pc lo (.null :: st) A :=
  fun p e s m args below meth c C H locs ls hR hS hl => lv_ifnullN C.1 C.2.1 hd ht (h p e s m args below meth c C H locs ls hR hS hl)
theorem q_nul_n {off : Int} {x : Nat} (hd : decode (q_cc M) pc = .ok (.ifnull off, 3)) (h : q_Wp G M K X k n (pc + 3) lo st A) : q_Wp G M K X k n pc lo (.ref x :: st) A :=
  fun p e s m args below meth c C H locs ls hR hS hl => lv_ifnull C.1 C.2.1 hd (h p e s m args below meth c C H locs ls hR hS hl)
theorem q_nnl_y {off : Int} {x : Nat} (tgt : Nat) (hd : decode (q_cc M) pc = .ok (.ifnonnull off, 3)) (ht : (pc : Int) + off = (tgt : Int)) (h : q_Wp G M K X k n tgt lo st A) : q_Wp G M K X k n pc lo (.ref x :: st) A :=
  fun p e s m args below meth c C H locs ls hR hS hl => lv_ifnonnull C.1 C.2.1 hd ht (h p e s m args below meth c C H locs ls hR hS hl)
theorem q_nnl_n {off : Int} (hd : decode (q_cc M) pc = .ok (.ifnonnull off, 3)) (h : q_Wp G M K X k n (pc + 3) lo st A) : q_Wp G M K X k n pc lo (.null :: st) A :=
  fun p e s m args below meth c C H locs ls hR hS hl => lv_ifnonnullN C.1 C.2.1 hd (h p e s m args below meth c C H locs ls hR hS hl)
theorem q_idiv {x y : Int32} (hd : decode (q_cc M) pc = .ok (.idiv, 1)) (hne : ¬ y = 0) (h : q_Wp G M K X k n (pc + 1) lo (.int (x / y) :: st) A) : q_Wp G M K X k n pc lo (.int y :: .int x :: st) A :=
  fun p e s m args below meth c C H locs ls hR hS hl => lv_idiv C.1 C.2.1 hd hne (h p e s m args below meth c C H locs ls hR hS hl)
theorem q_irem {x y : Int32} (hd : decode (q_cc M) pc = .ok (.irem, 1)) (hne : ¬ y = 0) (h : q_Wp G M K X k n (pc + 1) lo (.int (x - x / y * y) :: st) A) : q_Wp G M K X k n pc lo (.int y :: .int x :: st) A :=
  fun p e s m args below meth c C H locs ls hR hS hl => lv_irem C.1 C.2.1 hd hne (h p e s m args below meth c C H locs ls hR hS hl)
theorem q_ldiv {x y : Int64} (hd : decode (q_cc M) pc = .ok (.ldiv, 1)) (hne : ¬ y = 0) (h : q_Wp G M K X k n (pc + 1) lo (.long (x / y) :: st) A) : q_Wp G M K X k n pc lo (.long y :: .long x :: st) A :=
  fun p e s m args below meth c C H locs ls hR hS hl => lv_ldiv C.1 C.2.1 hd hne (h p e s m args below meth c C H locs ls hR hS hl)
theorem q_ddiv {x y : UInt64} (hd : decode (q_cc M) pc = .ok (.ddiv, 1)) (hne : vf_n64 (FP.ddiv x y)) (h : q_Wp G M K X k n (pc + 1) lo (.double (FP.ddiv x y) :: st) A) : q_Wp G M K X k n pc lo (.double y :: .double x :: st) A :=
  fun p e s m args below meth c C H locs ls hR hS hl => lv_ddiv C.1 C.2.1 hd hne (h p e s m args below meth c C H locs ls hR hS hl)
theorem q_fdiv {x y : UInt32} (hd : decode (q_cc M) pc = .ok (.fdiv, 1)) (hne : vf_n32 (FP.fdiv x y)) (h : q_Wp G M K X k n (pc + 1) lo (.float (FP.fdiv x y) :: st) A) : q_Wp G M K X k n pc lo (.float y :: .float x :: st) A :=
  fun p e s m args below meth c C H locs ls hR hS hl => lv_fdiv C.1 C.2.1 hd hne (h p e s m args below meth c C H locs ls hR hS hl)
theorem q_f2d {x : UInt32} (hd : decode (q_cc M) pc = .ok (.f2d, 1)) (hne : vf_n64 (FP.f2d x)) (h : q_Wp G M K X k n (pc + 1) lo (.double (FP.f2d x) :: st) A) : q_Wp G M K X k n pc lo (.float x :: st) A :=
  fun p e s m args below meth c C H locs ls hR hS hl => lv_f2d C.1 C.2.1 hd hne (h p e s m args below meth c C H locs ls hR hS hl)
theorem q_fconst0 (hd : decode (q_cc M) pc = .ok (.fconst 0, 1)) (h : q_Wp G M K X k n (pc + 1) lo (.float FP.fconst0 :: st) A) : q_Wp G M K X k n pc lo st A :=
  fun p e s m args below meth c C H locs ls hR hS hl => lv_fconst0 C.1 C.2.1 hd (h p e s m args below meth c C H locs ls hR hS hl)
theorem q_dconst0 (hd : decode (q_cc M) pc = .ok (.dconst 0, 1)) (h : q_Wp G M K X k n (pc + 1) lo (.double FP.dconst0 :: st) A) : q_Wp G M K X k n pc lo st A :=
  fun p e s m args below meth c C H locs ls hR hS hl => lv_dconst0 C.1 C.2.1 hd (h p e s m args below meth c C H locs ls hR hS hl)
theorem q_ldc2 {i : Nat} {v : Int64} (hw : Cond.constantLong M.1.cls i v ∈ q_UW) (hd : decode (q_cc M) pc = .ok (.ldc2_w i, 3)) (h : q_Wp G M K X k n (pc + 3) lo (.long v :: st) A) : q_Wp G M K X k n pc lo st A :=
  fun p e s m args below meth c C H locs ls hR hS hl => lv_ldc2 C.1 C.2.1 C.2.2.2.2.1 (C.2.2.2.2.2.1 _ hw) hd (h p e s m args below meth c C H locs ls hR hS hl)
/-- fewer locals known -/
theorem q_weak (lo' : List (Option Value)) (hl2 : lo'.length = lo.length) (hw : ∀ (i : Nat) (v : Value), lo'[i]? = some (some v) → lo[i]? = some (some v)) (h : q_Wp G M K X k n pc lo' st A) : q_Wp G M K X k n pc lo st A :=
  fun p e s m args below meth c C H locs ls hR hS hl => h p e s m args below meth c C H locs ls hR hS ⟨hl.1, hl2.trans hl.2.1, hl.2.2.1, fun i v hv => hl.2.2.2 i v (hw i v hv)⟩
def q_le : List (Option Value) → List (Option Value) → Prop
  | [], [] => True
  | none :: t, _ :: t' => q_le t t'
  | some v :: t, o :: t' => o = some v ∧ q_le t t'
  | _, _ => False
theorem q_le_get : ∀ (a b : List (Option Value)), q_le a b → a.length = b.length ∧ ∀ (i : Nat) (v : Value), a[i]? = some (some v) → b[i]? = some (some v)
  | [], [], _ => ⟨rfl, fun i v h => by simp at h⟩
  | none :: t, o :: t', h => by
    obtain ⟨h1, h2⟩ := q_le_get t t' h
    refine ⟨by simp [h1], fun i v hv => ?_⟩
    match i, hv with
    | 0, hv => simp at hv
    | i + 1, hv => simpa using h2 i v (by simpa using hv)
  | some w :: t, o :: t', h => by
    obtain ⟨h0, h⟩ := h
    obtain ⟨h1, h2⟩ := q_le_get t t' h
    refine ⟨by simp [h1], fun i v hv => ?_⟩
    match i, hv with
    | 0, hv => simp at hv; subst hv; simp [h0]
    | i + 1, hv => simpa using h2 i v (by simpa using hv)
  | [], _ :: _, h => h.elim
  | none :: _, [], h => h.elim
  | some _ :: _, [], h => h.elim
theorem q_wk (lo' : List (Option Value)) (hw : q_le lo' lo) (h : q_Wp G M K X k n pc lo' st A) : q_Wp G M K X k n pc lo st A := q_weak lo' (q_le_get _ _ hw).1 (q_le_get _ _ hw).2 h
theorem q_more (k2 n2 : Nat) (h1 : k ≤ k2) (h2 : n ≤ n2) (h : q_Wp G M K X k2 n2 pc lo st A) : q_Wp G M K X k n pc lo st A :=
  fun p e s m args below meth c C H locs ls hR hS hl => W.widen h1 h2 (h p e s m args below meth c C H locs ls hR hS hl)
/-! ENDS -/
def q_KV (f : q_H → Prop) : Option Value → q_H → Prop := fun v A => v = none ∧ f A
def q_KI (f : Int32 → q_H → Prop) : Option Value → q_H → Prop := fun v A => ∃ r : Int32, v = some (.int r) ∧ f r A
def q_i (b : Bool) : Int32 := if b = true then 1 else 0
def q_KB (f : Bool → q_H → Prop) : Option Value → q_H → Prop := fun v A => ∃ b : Bool, v = some (.int (q_i b)) ∧ f b A
def q_KL (f : Int64 → q_H → Prop) : Option Value → q_H → Prop := fun v A => ∃ r : Int64, v = some (.long r) ∧ f r A
def q_KF (f : UInt32 → q_H → Prop) : Option Value → q_H → Prop := fun v A => ∃ r : UInt32, v = some (.float r) ∧ f r A
def q_KD (f : UInt64 → q_H → Prop) : Option Value → q_H → Prop := fun v A => ∃ r : UInt64, v = some (.double r) ∧ f r A
def q_KR (f : Option Nat → q_H → Prop) : Option Value → q_H → Prop := fun v A => ∃ r : Option Nat, v = some (va_rf r) ∧ f r A
def q_nX : String → q_H → Prop := fun _ _ => False
theorem q_ends {p : Program} {e : Env} {s : State} {m : MethodId} {args : Array Value} {below : List Frame} {meth : Method} {c : Code} {H : Heap} {locs : List Loc} {g : JFrame} (hk : k ≤ (q_rm M).cells) (hn : n ≤ (q_rm M).slots) (h : W p (q_l G) e (q_rm M) s m args below meth c H locs (q_rm M).cells (q_rm M).slots (MQ below (q_Q G K) args s (q_rm M).cells (q_rm M).slots (q_F G)) g) :
    W p (q_l G) e (q_rm M) s m args below meth c H locs k n (vx_MQ below (q_Q G K) (q_XC G X) args s (q_rm M).cells (q_rm M).slots (q_F G)) g := W.widen hk hn (vx_ret h)
theorem q_ret0 (hrt : q_rt M = none) (hk : k ≤ (q_rm M).cells) (hn : n ≤ (q_rm M).slots) (hd : decode (q_cc M) pc = .ok (.return_, 1)) (h : K none A) : q_Wp G M K X k n pc lo [] A := by
  intro p e s m args below meth c C H locs ls hR hS hl
  obtain ⟨hx, hb, hr, -, -, -, hlk, -⟩ := C
  exact q_ends hk hn (W.vret hx hb (hr.trans hrt) (fun t ht hW => ⟨none, A, rfl, by rw [ht]; exact hR.moved hW.alike, hS.F ht, h⟩) hS.2.2 hd hlk)
theorem q_retI {r : Int32} (hrt : q_rt M = some .int) (hk : k ≤ (q_rm M).cells) (hn : n ≤ (q_rm M).slots) (hd : decode (q_cc M) pc = .ok (.ireturn, 1)) (h : K (some (.int r)) A) : q_Wp G M K X k n pc lo [.int r] A := by
  intro p e s m args below meth c C H locs ls hR hS hl
  obtain ⟨hx, hb, hr, -, -, -, hlk, -⟩ := C
  exact q_ends hk hn (W.iret hx hb (hr.trans hrt) (fun t ht hW => ⟨_, A, rfl, by rw [ht]; exact hR.moved hW.alike, hS.F ht, h⟩) hS.2.2 hd hlk)
theorem q_retZ {r : Int32} {ty : FieldType} (hrt : q_rt M = some ty) (hz : narrow ty (.int r) = .int r) (hk : k ≤ (q_rm M).cells) (hn : n ≤ (q_rm M).slots) (hd : decode (q_cc M) pc = .ok (.ireturn, 1)) (h : K (some (.int r)) A) : q_Wp G M K X k n pc lo [.int r] A := by
  intro p e s m args below meth c C H locs ls hR hS hl
  obtain ⟨hx, hb, hr, -, -, -, hlk, -⟩ := C
  exact q_ends hk hn (W.zret hx hb (hr.trans hrt) hz (fun t ht hW => ⟨_, A, rfl, by rw [ht]; exact hR.moved hW.alike, hS.F ht, h⟩) hS.2.2 hd hlk)
theorem q_retL {r : Int64} (hrt : q_rt M = some .long) (hk : k ≤ (q_rm M).cells) (hn : n ≤ (q_rm M).slots) (hd : decode (q_cc M) pc = .ok (.lreturn, 1)) (h : K (some (.long r)) A) : q_Wp G M K X k n pc lo [.long r] A := by
  intro p e s m args below meth c C H locs ls hR hS hl
  obtain ⟨hx, hb, hr, -, -, -, hlk, -⟩ := C
  exact q_ends hk hn (W.lret hx hb (hr.trans hrt) (fun t ht hW => ⟨_, A, rfl, by rw [ht]; exact hR.moved hW.alike, hS.F ht, h⟩) hS.2.2 hd hlk)
theorem q_retF {r : UInt32} (hrt : q_rt M = some .float) (hk : k ≤ (q_rm M).cells) (hn : n ≤ (q_rm M).slots) (hd : decode (q_cc M) pc = .ok (.freturn, 1)) (h : K (some (.float r)) A) : q_Wp G M K X k n pc lo [.float r] A := by
  intro p e s m args below meth c C H locs ls hR hS hl
  obtain ⟨hx, hb, hr, -, -, -, hlk, -⟩ := C
  exact q_ends hk hn (W.fret hx hb (hr.trans hrt) (fun t ht hW => ⟨_, A, rfl, by rw [ht]; exact hR.moved hW.alike, hS.F ht, h⟩) hS.2.2 hd hlk)
theorem q_retD {r : UInt64} (hrt : q_rt M = some .double) (hk : k ≤ (q_rm M).cells) (hn : n ≤ (q_rm M).slots) (hd : decode (q_cc M) pc = .ok (.dreturn, 1)) (h : K (some (.double r)) A) : q_Wp G M K X k n pc lo [.double r] A := by
  intro p e s m args below meth c C H locs ls hR hS hl
  obtain ⟨hx, hb, hr, -, -, -, hlk, -⟩ := C
  exact q_ends hk hn (W.dret hx hb (hr.trans hrt) (fun t ht hW => ⟨_, A, rfl, by rw [ht]; exact hR.moved hW.alike, hS.F ht, h⟩) hS.2.2 hd hlk)
theorem q_retR {r : Option Nat} {rt : FieldType} (hrt : q_rt M = some rt) (hty : (∃ n, rt = .object n) ∨ ∃ t, rt = .array t) (hk : k ≤ (q_rm M).cells) (hn : n ≤ (q_rm M).slots) (hd : decode (q_cc M) pc = .ok (.areturn, 1)) (h : K (some (va_rf r)) A) : q_Wp G M K X k n pc lo [va_rf r] A := by
  intro p e s m args below meth c C H locs ls hR hS hl
  obtain ⟨hx, hb, hr, -, -, -, hlk, -⟩ := C
  refine q_ends hk hn (W.aret hx hb (hr.trans hrt) hty ?_ (fun t ht hW => ⟨_, A, rfl, by rw [ht]; exact hR.moved hW.alike, hS.F ht, h⟩) hS.2.2 hd hlk)
  cases r with
  | none => exact Or.inl rfl
  | some a => exact Or.inr ⟨a, rfl⟩
end QS
end
section
/-! ROWS OF THE HEAP -/
/-- a kind's class, its fields, its words -/
def q_CK (ci : Nat) (C : String) (T : u_T) (N : Nat) : Prop := vwCl[ci]? = some (C, T, N) ∧ (∀ w ∈ u_ws C T N, w ∈ q_UW) ∧ N = (q_kd ci).length ∧ (∀ a, a < N → ∀ b, b < N → a ≠ b → (T a).2.1 ≠ (T b).2.1) ∧
  ∃ ty : Nat → FieldType, (∀ k, k < N → parseFieldDescriptor (T k).2.2.1 = some (ty k)) ∧ (∀ k, (q_kd ci)[k]? = some false → ty k = .int) ∧ (∀ k, (q_kd ci)[k]? = some true → (∃ n, ty k = .object n) ∨ ∃ t, ty k = .array t)
/-- entry idx of own's pool is field k of kind ci -/
def q_FL (own : String) (idx ci k : Nat) (fin : Bool) : Prop := ∃ (C : String) (T : u_T) (N : Nat), q_CK ci C T N ∧ k < N ∧ (T k).2.2.2 = fin ∧ (Cond.fieldLink own idx (T k).1 (T k).2.1 (T k).2.2.1 ∈ q_UW ∨ ∃ host, Cond.fieldLinkNest own idx (T k).1 (T k).2.1 (T k).2.2.1 host ∈ q_NW)
/-- .. a final one of its own -/
def q_FP (own : String) (idx ci k : Nat) : Prop := ∃ (C : String) (T : u_T) (N : Nat), q_CK ci C T N ∧ k < N ∧ (T k).2.2.2 = true ∧ Cond.fieldLink own idx (T k).1 (T k).2.1 (T k).2.2.1 ∈ q_UW ∧ (T k).1 = own
section QM
variable {G : q_G} {M : q_M} {K : Option Value → q_H → Prop} {X : String → q_H → Prop} {k n pc : Nat} {lo lo' : List (Option Value)} {st st' : List Value} {A : q_H}
theorem q_getf {idx ci f a : Nat} {fin b : Bool} (hf : q_FL M.1.cls idx ci f fin) (hkd : (q_kd ci)[f]? = some b) (hci : ci < 49) (hd : decode (q_cc M) pc = .ok (.getfield idx, 3)) (hsh : q_sh A a = (ci + 1, 0)) (h : q_Wp G M K X k n (pc + 3) lo ((if b = true then va_rf (q_R A a f) else .int (q_I A a f)) :: st) A) : q_Wp G M K X k n pc lo (.ref a :: st) A := by
  intro p e s m args below meth c C H locs ls hR hS hl
  have k2 := h p e s m args below meth c C H locs ls hR hS hl
  obtain ⟨hx, hb, hr, hml, hown, hts, hlk, hnm, htb, hA, hbs⟩ := C
  obtain ⟨Cn, T, N, ⟨hc, hin, hN, hnms, ty, hty, -⟩, hk, -, hlink⟩ := hf
  have he : q_ent G A a = some (.inr (ci, q_fs ci (q_I A a) (q_R A a))) := q_ent_o hsh hci
  have hP := hR.P he
  rcases hlink with hlink | ⟨host, hlink⟩
  · exact va_get (D := q_Dg G) hx hb hts hin hown hR.2.1 hP 0 rfl hc f hk (hts _ hlink) (fun _ h9 => h9) (q_fs_at hkd _ _) hd k2
  · exact va_getN (D := q_Dg G) hx hb hts hin hown hR.2.1 hP 0 rfl hc f hk (va_Nw.use (by rfl) (hA.2.1 _ hlink)) (fun _ h9 => h9) (q_fs_at hkd _ _) hd k2
theorem q_getI {idx ci f a : Nat} {fin : Bool} (hf : q_FL M.1.cls idx ci f fin) (hkd : (q_kd ci)[f]? = some false) (hci : ci < 49) (hd : decode (q_cc M) pc = .ok (.getfield idx, 3)) (hsh : q_sh A a = (ci + 1, 0)) (h : q_Wp G M K X k n (pc + 3) lo (.int (q_I A a f) :: st) A) : q_Wp G M K X k n pc lo (.ref a :: st) A := q_getf hf hkd hci hd hsh h
theorem q_getR {idx ci f a r : Nat} {fin : Bool} (hf : q_FL M.1.cls idx ci f fin) (hkd : (q_kd ci)[f]? = some true) (hci : ci < 49) (hd : decode (q_cc M) pc = .ok (.getfield idx, 3)) (hsh : q_sh A a = (ci + 1, 0)) (hr : q_R A a f = some r) (h : q_Wp G M K X k n (pc + 3) lo (.ref r :: st) A) : q_Wp G M K X k n pc lo (.ref a :: st) A :=
  q_getf hf hkd hci hd hsh (by rw [hr]; exact h)
theorem q_getN {idx ci f a : Nat} {fin : Bool} (hf : q_FL M.1.cls idx ci f fin) (hkd : (q_kd ci)[f]? = some true) (hci : ci < 49) (hd : decode (q_cc M) pc = .ok (.getfield idx, 3)) (hsh : q_sh A a = (ci + 1, 0)) (hr : q_R A a f = none) (h : q_Wp G M K X k n (pc + 3) lo (.null :: st) A) : q_Wp G M K X k n pc lo (.ref a :: st) A :=
  q_getf hf hkd hci hd hsh (by rw [hr]; exact h)
/-- what a store into a field does -/
theorem q_putf {idx ci f a : Nat} {A' : q_H} (fin : Bool) (hf : if fin = true then q_FP M.1.cls idx ci f ∧ M.1.name = "<init>" else q_FL M.1.cls idx ci f false) (hci : ci < 49) (v : Value) (hv : ∀ ty : FieldType, ((q_kd ci)[f]? = some false → ty = .int) → ((q_kd ci)[f]? = some true → (∃ n, ty = .object n) ∨ ∃ t, ty = .array t) → narrow ty v = v ∧ fits ty v = true)
    (hd : decode (q_cc M) pc = .ok (.putfield idx, 3)) (hsh : q_sh A a = (ci + 1, 0))
    (hz : q_sz A' = q_sz A) (he' : q_ent G A' a = some (.inr (ci, (q_fs ci (q_I A a) (q_R A a)).set f v))) (hA' : ∀ b, b ≠ a → q_ent G A' b = q_ent G A b) (h : q_Wp G M K X k n (pc + 3) lo st A') : q_Wp G M K X k n pc lo (v :: .ref a :: st) A := by
  intro p e s m args below meth c C H locs ls hR hS hl
  have k2 := h p e s m args below meth c C
  obtain ⟨hx, hb, hr, hml, hown, hts, hlk, hnm, htb, hA, hbs⟩ := C
  have he : q_ent G A a = some (.inr (ci, q_fs ci (q_I A a) (q_R A a))) := q_ent_o hsh hci
  obtain ⟨hba, r, h1, cell, q1, q2, q3, q4⟩ := hR.2.2.1 a _ he
  have key : ∀ (Cn : String) (T : u_T) (N : Nat), q_CK ci Cn T N → f < N → r = (Cn, T, N) ∧ ∃ ty : Nat → FieldType, (∀ k, k < N → parseFieldDescriptor (T k).2.2.1 = some (ty k)) ∧ narrow (ty f) v = v ∧ fits (ty f) v = true ∧ f < (q_fs ci (q_I A a) (q_R A a)).length ∧ ∀ x y, x < N → y < N → x ≠ y → (q_Dg G).2 ci x ≠ (q_Dg G).2 ci y := by
    intro Cn T N ⟨hc, hin, hN, hnms, ty, hty, ht1, ht2⟩ hk
    obtain ⟨w1, w2⟩ := hv (ty f) (ht1 f) (ht2 f)
    exact ⟨Option.some.inj (h1.symm.trans hc), ty, hty, w1, w2, by rw [q_fs_len, ← hN]; exact hk, va_apart (own := M.1.cls) hts hin ty hty hnms hR.2.1 hc⟩
  cases fin with
  | false =>
    obtain ⟨Cn, T, N, hck, hk, hfin, hlink⟩ := (show q_FL M.1.cls idx ci f false from hf)
    obtain ⟨rfl, ty, hty, hn, hfit, hlen, hap⟩ := key Cn T N hck hk
    obtain ⟨hc, hin, -⟩ := hck
    obtain ⟨hSl, hfc, kC, hkC, hkind⟩ := hR.2.1.1 ci _ hc
    obtain ⟨cf, kf, fi, fd, hi, hsl⟩ := hSl f hk
    have hlay := hts _ (hin _ (u_in_lay hk))
    unfold u_lay at hlay
    rw [if_neg (by rw [hfin]; decide)] at hlay
    have hst := (u_facts hfc hkC (u_lays hts hin hk) hi).1
    have h6 := u_store hfc hkC hkind hlay hi (hty f hk) hn hfit
    have fin2 : ∀ H' : Heap, H'[a]? = some (cell.setSlot fd.slot v) → H'.size = H.size → (∀ q : Nat, q ≠ a → H'[q]? = H[q]?) → W p (q_l G) e (q_rm M) s m args below meth c H' (locs ++ [⟨a, fd.slot⟩]) k n (vx_MQ below (q_Q G K) (q_XC G X) args s (q_rm M).cells (q_rm M).slots (q_F G)) (F0 m (pc + 3) ls st) := by
      intro H' e1 e2 e3
      rw [hsl] at e1
      exact k2 H' _ ls (hR.up he he' hz hA' e2 ⟨_, hc, t_OB.to (V := updV (vp_V _) f v) ⟨_, e1, q2, q3, t_set q4 hap hk v⟩ (fun j _ => vp_updV_set hlen v j)⟩ e3) (hS.put e2 e3 hba) hl
    rcases hlink with hlink | ⟨host, hlink⟩
    · exact W.putK hx hb (f := fd) ⟨hown, hts _ hlink, ⟨_, _, _, hi⟩, hst⟩ (by rw [q2]; exact h6) q1 q3 (by rw [hsl]; exact k2_hasslot (q4 f hk)) rfl rfl hd fin2
    · exact va_WputK hx hb (f := fd) hown (va_Nw.use (by rfl) (hA.2.1 _ hlink)) hi hst (by rw [q2]; exact h6) q1 q3 (by rw [hsl]; exact k2_hasslot (q4 f hk)) rfl rfl hd fin2
  | true =>
    obtain ⟨⟨Cn, T, N, hck, hk, hfin, hlink, hdecl⟩, hini⟩ := (show q_FP M.1.cls idx ci f ∧ M.1.name = "<init>" from hf)
    obtain ⟨rfl, ty, hty, hn, hfit, hlen, hap⟩ := key Cn T N hck hk
    obtain ⟨hc, hin, -⟩ := hck
    obtain ⟨hSl, hfc, kC, hkC, hkind⟩ := hR.2.1.1 ci _ hc
    obtain ⟨cf, kf, fi, fd, hi, hsl⟩ := hSl f hk
    have hlay := hts _ (hin _ (u_in_lay hk))
    unfold u_lay at hlay
    rw [if_pos hfin] at hlay
    have hst := (u_facts hfc hkC (u_lays hts hin hk) hi).1
    have hcf : m.cls = cf := by
      obtain ⟨_, _, c', _, _, _, -, -, hf', -, -, -, hown2, -⟩ := Cond.laysFinal_spec hlay
      have e1 : c' = cf := by have := hi.symm.trans hf'; simp at this; exact this.1.symm
      rw [hdecl] at hown2
      rw [← e1]; exact Option.some.inj (hown.symm.trans hown2)
    have h6 := u_fits hfc hkC hkind (Or.inr hlay) hi (hty f hk) hn hfit
    refine W.putFinK hx hb hown (hts _ hlink) hi hst hcf (hnm.trans hini) (by rw [q2]; exact h6) q1 q3 (by rw [hsl]; exact k2_hasslot (q4 f hk)) rfl rfl hd fun H' e1 e2 e3 => ?_
    rw [hsl] at e1
    exact k2 H' _ ls (hR.up he he' hz hA' e2 ⟨_, hc, t_OB.to (V := updV (vp_V _) f v) ⟨_, e1, q2, q3, t_set q4 hap hk v⟩ (fun j _ => vp_updV_set hlen v j)⟩ e3) (hS.put e2 e3 hba) hl
theorem q_setI_row (f : Nat → Nat → Int32) (a k : Nat) (v : Int32) : q_u2 f a k v a = fun j => if j = k then v else f a j := by funext j; simp [q_u2]
theorem q_setR_row (f : Nat → Nat → Option Nat) (a k : Nat) (v : Option Nat) : q_u2 f a k v a = fun j => if j = k then v else f a j := by funext j; simp [q_u2]
theorem q_u2_row {α : Type} (f : Nat → Nat → α) (a k : Nat) (v : α) {b : Nat} (h : b ≠ a) : q_u2 f a k v b = f b := by funext j; simp [q_u2, h]
theorem q_ent_setI {a f : Nat} {v : Int32} {b : Nat} (h : b ≠ a) : q_ent G (q_setI A a f v) b = q_ent G A b := q_ent_cg rfl (by rw [q_I_setI, q_u2_row _ _ _ _ h]) rfl rfl rfl
theorem q_ent_setR {a f : Nat} {v : Option Nat} {b : Nat} (h : b ≠ a) : q_ent G (q_setR A a f v) b = q_ent G A b := q_ent_cg rfl rfl (by rw [q_R_setR, q_u2_row _ _ _ _ h]) rfl rfl
theorem q_ent_setL {a f : Nat} {v : Int64} {b : Nat} (h : b ≠ a) : q_ent G (q_setL A a f v) b = q_ent G A b := q_ent_cg rfl rfl rfl (by rw [q_L_setL, q_u2_row _ _ _ _ h]) rfl
theorem q_ent_setD {a f : Nat} {v : UInt64} {b : Nat} (h : b ≠ a) : q_ent G (q_setD A a f v) b = q_ent G A b := q_ent_cg rfl rfl rfl rfl (by rw [q_D_setD, q_u2_row _ _ _ _ h])
theorem q_ent_rowI {a : Nat} {g : Nat → Int32} {b : Nat} (h : b ≠ a) : q_ent G (q_rowI A a g) b = q_ent G A b := q_ent_cg rfl (by rw [q_I_rowI, q_rw_a _ _ _ h]) rfl rfl rfl
theorem q_fitR {ty : FieldType} (v : Option Nat) (h : (∃ n, ty = .object n) ∨ ∃ t, ty = .array t) : narrow ty (va_rf v) = va_rf v ∧ fits ty (va_rf v) = true := by
  rcases h with ⟨n, rfl⟩ | ⟨t, rfl⟩ <;> cases v <;> exact ⟨rfl, rfl⟩
theorem q_putI {idx ci f a : Nat} {x : Int32} (hf : q_FL M.1.cls idx ci f false) (hkd : (q_kd ci)[f]? = some false) (hci : ci < 49) (hd : decode (q_cc M) pc = .ok (.putfield idx, 3)) (hsh : q_sh A a = (ci + 1, 0)) (h : q_Wp G M K X k n (pc + 3) lo st (q_setI A a f x)) : q_Wp G M K X k n pc lo (.int x :: .ref a :: st) A := by
  refine q_putf (A' := q_setI A a f x) false hf hci (.int x) (fun ty h1 _ => by rw [h1 hkd]; exact ⟨rfl, rfl⟩) hd hsh rfl ?_ (fun b hb => q_ent_setI hb) h
  rw [q_ent_o (A := q_setI A a f x) hsh hci, q_I_setI, q_setI_row, q_fs_setI hkd]
  rfl
theorem q_putR {idx ci f a : Nat} {v : Option Nat} (hf : q_FL M.1.cls idx ci f false) (hkd : (q_kd ci)[f]? = some true) (hci : ci < 49) (hd : decode (q_cc M) pc = .ok (.putfield idx, 3)) (hsh : q_sh A a = (ci + 1, 0)) (h : q_Wp G M K X k n (pc + 3) lo st (q_setR A a f v)) : q_Wp G M K X k n pc lo (va_rf v :: .ref a :: st) A := by
  refine q_putf (A' := q_setR A a f v) false hf hci (va_rf v) (fun ty _ h2 => q_fitR v (h2 hkd)) hd hsh rfl ?_ (fun b hb => q_ent_setR hb) h
  rw [q_ent_o (A := q_setR A a f v) hsh hci, q_R_setR, q_setR_row, q_fs_setR hkd]
  rfl
theorem q_putP {idx ci f a : Nat} {v : Option Nat} (hf : q_FP M.1.cls idx ci f) (hni : M.1.name = "<init>") (hkd : (q_kd ci)[f]? = some true) (hci : ci < 49) (hd : decode (q_cc M) pc = .ok (.putfield idx, 3)) (hsh : q_sh A a = (ci + 1, 0)) (h : q_Wp G M K X k n (pc + 3) lo st (q_setR A a f v)) : q_Wp G M K X k n pc lo (va_rf v :: .ref a :: st) A := by
  refine q_putf (A' := q_setR A a f v) true ⟨hf, hni⟩ hci (va_rf v) (fun ty _ h2 => q_fitR v (h2 hkd)) hd hsh rfl ?_ (fun b hb => q_ent_setR hb) h
  rw [q_ent_o (A := q_setR A a f v) hsh hci, q_R_setR, q_setR_row, q_fs_setR hkd]
  rfl
theorem q_putQ {idx ci f a : Nat} {x : Int32} (hf : q_FP M.1.cls idx ci f) (hni : M.1.name = "<init>") (hkd : (q_kd ci)[f]? = some false) (hci : ci < 49) (hd : decode (q_cc M) pc = .ok (.putfield idx, 3)) (hsh : q_sh A a = (ci + 1, 0)) (h : q_Wp G M K X k n (pc + 3) lo st (q_setI A a f x)) : q_Wp G M K X k n pc lo (.int x :: .ref a :: st) A := by
  refine q_putf (A' := q_setI A a f x) true ⟨hf, hni⟩ hci (.int x) (fun ty h1 _ => by rw [h1 hkd]; exact ⟨rfl, rfl⟩) hd hsh rfl ?_ (fun b hb => q_ent_setI hb) h
  rw [q_ent_o (A := q_setI A a f x) hsh hci, q_I_setI, q_setI_row, q_fs_setI hkd]
  rfl
end QM
end
section
/-! ROWS OF ARRAYS AND OF NEW CELLS -/
section QA
variable {G : q_G} {M : q_M} {K : Option Value → q_H → Prop} {X : String → q_H → Prop} {k n pc : Nat} {lo lo' : List (Option Value)} {st st' : List Value} {A : q_H}
theorem q_iald {a j z : Nat} {i : Int32} (e : i = nI j) (hd : decode (q_cc M) pc = .ok (.iaload, 1)) (hsh : q_sh A a = (50, z)) (hj : j < z) (hz : z < 2147483648) (h : q_Wp G M K X k n (pc + 1) lo (.int (q_I A a j) :: st) A) : q_Wp G M K X k n pc lo (.int i :: .ref a :: st) A := by
  intro p ee s m args below meth c C H locs ls hR hS hl
  have k2 := h p ee s m args below meth c C H locs ls hR hS hl
  subst e
  exact va_iald (D := q_Dg G) (tys := q_tys G) C.1 C.2.1 hR.2.1 (hR.P (q_ent_i hsh)) 0 0 rfl rfl (vp_in_nI hj hz) hd (by rw [nI_clamp (Nat.lt_trans hj hz)]; exact k2)
theorem q_bald {a j z : Nat} {i : Int32} (e : i = nI j) (hd : decode (q_cc M) pc = .ok (.baload, 1)) (hsh : q_sh A a = (51, z)) (hj : j < z) (hz : z < 2147483648) (h : q_Wp G M K X k n (pc + 1) lo (.int (q_I A a j) :: st) A) : q_Wp G M K X k n pc lo (.int i :: .ref a :: st) A := by
  intro p ee s m args below meth c C H locs ls hR hS hl
  have k2 := h p ee s m args below meth c C H locs ls hR hS hl
  subst e
  exact va_bald (D := q_Dg G) (tys := q_tys G) C.1 C.2.1 hR.2.1 (hR.P (q_ent_b hsh)) 0 1 rfl rfl (vp_in_nI hj hz) hd (by rw [nI_clamp (Nat.lt_trans hj hz)]; exact k2)
theorem q_lald {a j z : Nat} {i : Int32} (e : i = nI j) (hd : decode (q_cc M) pc = .ok (.laload, 1)) (hsh : q_sh A a = (52, z)) (hj : j < z) (hz : z < 2147483648) (h : q_Wp G M K X k n (pc + 1) lo (.long (q_L A a j) :: st) A) : q_Wp G M K X k n pc lo (.int i :: .ref a :: st) A := by
  intro p ee s m args below meth c C H locs ls hR hS hl
  have k2 := h p ee s m args below meth c C H locs ls hR hS hl
  subst e
  exact va_lald (D := q_Dg G) (tys := q_tys G) C.1 C.2.1 hR.2.1 (hR.P (q_ent_l hsh)) 0 2 rfl rfl (vp_in_nI hj hz) hd (by rw [nI_clamp (Nat.lt_trans hj hz)]; exact k2)
theorem q_dald {a j z : Nat} {i : Int32} (e : i = nI j) (hd : decode (q_cc M) pc = .ok (.daload, 1)) (hsh : q_sh A a = (53, z)) (hj : j < z) (hz : z < 2147483648) (h : q_Wp G M K X k n (pc + 1) lo (.double (q_D A a j) :: st) A) : q_Wp G M K X k n pc lo (.int i :: .ref a :: st) A := by
  intro p ee s m args below meth c C H locs ls hR hS hl
  have k2 := h p ee s m args below meth c C H locs ls hR hS hl
  subst e
  exact va_dald (D := q_Dg G) (tys := q_tys G) C.1 C.2.1 hR.2.1 (hR.P (q_ent_d hsh)) 0 3 rfl rfl (vp_in_nI hj hz) hd (by rw [nI_clamp (Nat.lt_trans hj hz)]; exact k2)
/-- the place in q_tys of a row of references to kind c -/
def q_tp (c : Nat) : Nat := if c = 0 then 4 else if c = 1 then 5 else if c = 4 then 6 else if c = 5 then 7 else 8
def q_Rk (G : q_G) (c : Nat) : Prop := ∃ (C : String) (T : u_T) (N : Nat), vwCl[c]? = some (C, T, N) ∧ (q_tys G)[q_tp c]? = some (q_tA G (60 + c), .object C) ∧ C ∈ q_ao
theorem q_rk0 (G : q_G) : q_Rk G 0 := ⟨_, _, _, rfl, rfl, by decide⟩
theorem q_rk1 (G : q_G) : q_Rk G 1 := ⟨_, _, _, rfl, rfl, by decide⟩
theorem q_rk4 (G : q_G) : q_Rk G 4 := ⟨_, _, _, rfl, rfl, by decide⟩
theorem q_rk5 (G : q_G) : q_Rk G 5 := ⟨_, _, _, rfl, rfl, by decide⟩
theorem q_rk6 (G : q_G) : q_Rk G 6 := ⟨_, _, _, rfl, rfl, by decide⟩
theorem q_aald {a j z cc : Nat} {i : Int32} (hc : q_Rk G cc) (e : i = nI j) (hd : decode (q_cc M) pc = .ok (.aaload, 1)) (hsh : q_sh A a = (60 + cc, z)) (hj : j < z) (hz : z < 2147483648) (h : q_Wp G M K X k n (pc + 1) lo (va_rf (q_R A a j) :: st) A) : q_Wp G M K X k n pc lo (.int i :: .ref a :: st) A := by
  intro p ee s m args below meth c C H locs ls hR hS hl
  have k2 := h p ee s m args below meth c C H locs ls hR hS hl
  subst e
  obtain ⟨Cn, T, N, h1, h2, h3⟩ := hc
  exact va_aldq (D := q_Dg G) (tys := q_tys G) C.1 C.2.1 hR.2.1 (hR.P (q_ent_r hsh)) 0 _ rfl h2 (vp_in_nI hj hz) hd (by rw [nI_clamp (Nat.lt_trans hj hz)]; exact k2)
theorem q_alen {a z t0 cc : Nat} {ty : FieldType} {x : (Nat → Int32) ⊕ (Nat → Int64) ⊕ (Nat → UInt32) ⊕ (Nat → UInt64) ⊕ (Nat → Option Nat)} (he : q_ent G A a = some (.inl (q_tA G cc, z, x))) (ht : (q_tys G)[t0]? = some (q_tA G cc, ty)) (hd : decode (q_cc M) pc = .ok (.arraylength, 1)) (h : q_Wp G M K X k n (pc + 1) lo (.int (nI z) :: st) A) : q_Wp G M K X k n pc lo (.ref a :: st) A := by
  intro p ee s m args below meth c C H locs ls hR hS hl
  have k2 := h p ee s m args below meth c C H locs ls hR hS hl
  exact va_alen (D := q_Dg G) (tys := q_tys G) C.1 C.2.1 hR.2.1 (hR.P he) 0 t0 rfl ht rfl hd k2
theorem q_alenI {a z : Nat} (hd : decode (q_cc M) pc = .ok (.arraylength, 1)) (hsh : q_sh A a = (50, z)) (h : q_Wp G M K X k n (pc + 1) lo (.int (nI z) :: st) A) : q_Wp G M K X k n pc lo (.ref a :: st) A := q_alen (t0 := 0) (cc := 50) (q_ent_i hsh) rfl hd h
theorem q_alenB {a z : Nat} (hd : decode (q_cc M) pc = .ok (.arraylength, 1)) (hsh : q_sh A a = (51, z)) (h : q_Wp G M K X k n (pc + 1) lo (.int (nI z) :: st) A) : q_Wp G M K X k n pc lo (.ref a :: st) A := q_alen (t0 := 1) (cc := 51) (q_ent_b hsh) rfl hd h
theorem q_alenR {a z cc : Nat} (hc : q_Rk G cc) (hd : decode (q_cc M) pc = .ok (.arraylength, 1)) (hsh : q_sh A a = (60 + cc, z)) (h : q_Wp G M K X k n (pc + 1) lo (.int (nI z) :: st) A) : q_Wp G M K X k n pc lo (.ref a :: st) A := by
  obtain ⟨Cn, T, N, h1, h2, h3⟩ := hc
  exact q_alen (q_ent_r hsh) h2 hd h
theorem q_updI (f : Nat → Int32) (j : Nat) (x : Int32) : updV (fun q => .int (f q)) j (.int x) = fun q => .int (if q = j then x else f q) := by
  funext q; by_cases h : q = j <;> simp [updV, h]
theorem q_inb {j z : Nat} (hj : j < z) (hz : z < 2147483648) (cA : ClassId) (f : Nat → Value) : ¬ (nI j < 0 ∨ (arrV cA z f).slots.size ≤ (nI j).toNatClampNeg) := by rw [arrV_size]; exact vp_in_nI hj hz
theorem q_iast {a j z : Nat} {i x : Int32} (e : i = nI j) (hd : decode (q_cc M) pc = .ok (.iastore, 1)) (hsh : q_sh A a = (50, z)) (hj : j < z) (hz : z < 2147483648) (h : q_Wp G M K X k n (pc + 1) lo st (q_setI A a j x)) : q_Wp G M K X k n pc lo (.int x :: .int i :: .ref a :: st) A := by
  intro p ee s m args below meth c C H locs ls hR hS hl
  have k2 := h p ee s m args below meth c C
  subst e
  have he := q_ent_i (G := G) hsh
  obtain ⟨hba, hcell⟩ := hR.2.2.1 a _ he
  have hcl : (nI j).toNatClampNeg = j := nI_clamp (Nat.lt_trans hj hz)
  refine W.iast C.1 C.2.1 (cell := arrV (q_tA G 50) z (fun q => .int (q_I A a q))) hcell ((hR.2.1.2 0 _ rfl).1 z _) (fun q => by cases q) (q_inb hj hz _ _) rfl rfl hd fun H' e1 e2 e3 => ?_
  rw [hcl, arrV_store, q_updI] at e1
  refine k2 H' _ ls (hR.up he (q_ent_i (A := q_setI A a j x) hsh) rfl (fun b hb => q_ent_setI hb) e2 ?_ e3) (hS.put e2 e3 hba) hl
  show H'[a]? = some (vp_cell _ _)
  rw [e1, q_I_setI, q_setI_row]
  rfl
theorem q_bast {a j z : Nat} {i x : Int32} (e : i = nI j) (hd : decode (q_cc M) pc = .ok (.bastore, 1)) (hsh : q_sh A a = (51, z)) (hj : j < z) (hz : z < 2147483648) (h : q_Wp G M K X k n (pc + 1) lo st (q_setI A a j x.toInt8.toInt32)) : q_Wp G M K X k n pc lo (.int x :: .int i :: .ref a :: st) A := by
  intro p ee s m args below meth c C H locs ls hR hS hl
  have k2 := h p ee s m args below meth c C
  subst e
  have he := q_ent_b (G := G) hsh
  obtain ⟨hba, hcell⟩ := hR.2.2.1 a _ he
  have hcl : (nI j).toNatClampNeg = j := nI_clamp (Nat.lt_trans hj hz)
  refine W.bast C.1 C.2.1 (cell := arrV (q_tA G 51) z (fun q => .int (q_I A a q))) hcell ((hR.2.1.2 1 _ rfl).1 z _) (fun q => by cases q) (q_inb hj hz _ _) rfl rfl hd fun H' e1 e2 e3 => ?_
  rw [hcl, narrow_byte, arrV_store, q_updI] at e1
  refine k2 H' _ ls (hR.up he (q_ent_b (A := q_setI A a j x.toInt8.toInt32) hsh) rfl (fun b hb => q_ent_setI hb) e2 ?_ e3) (hS.put e2 e3 hba) hl
  show H'[a]? = some (vp_cell _ _)
  rw [e1, q_I_setI, q_setI_row]
  rfl
theorem q_updL (f : Nat → Int64) (j : Nat) (x : Int64) : updV (fun q => .long (f q)) j (.long x) = fun q => .long (if q = j then x else f q) := by
  funext q; by_cases h : q = j <;> simp [updV, h]
theorem q_last {a j z : Nat} {i : Int32} {x : Int64} (e : i = nI j) (hd : decode (q_cc M) pc = .ok (.lastore, 1)) (hsh : q_sh A a = (52, z)) (hj : j < z) (hz : z < 2147483648) (h : q_Wp G M K X k n (pc + 1) lo st (q_setL A a j x)) : q_Wp G M K X k n pc lo (.long x :: .int i :: .ref a :: st) A := by
  intro p ee s m args below meth c C H locs ls hR hS hl
  have k2 := h p ee s m args below meth c C
  subst e
  have he := q_ent_l (G := G) hsh
  obtain ⟨hba, hcell⟩ := hR.2.2.1 a _ he
  have hcl : (nI j).toNatClampNeg = j := nI_clamp (Nat.lt_trans hj hz)
  refine W.last C.1 C.2.1 (cell := arrV (q_tA G 52) z (fun q => .long (q_L A a q))) hcell ((hR.2.1.2 2 _ rfl).1 z _) (fun q => by cases q) (q_inb hj hz _ _) rfl rfl hd fun H' e1 e2 e3 => ?_
  rw [hcl, arrV_store, q_updL] at e1
  refine k2 H' _ ls (hR.up he (q_ent_l (A := q_setL A a j x) hsh) rfl (fun b hb => q_ent_setL hb) e2 ?_ e3) (hS.put e2 e3 hba) hl
  show H'[a]? = some (vp_cell _ _)
  rw [e1, q_L_setL, show q_u2 (q_L A) a j x a = fun q => if q = j then x else q_L A a q by funext q; simp [q_u2]]
  rfl
theorem q_updD (f : Nat → UInt64) (j : Nat) (x : UInt64) : updV (fun q => .double (f q)) j (.double x) = fun q => .double (if q = j then x else f q) := by
  funext q; by_cases h : q = j <;> simp [updV, h]
theorem q_dast {a j z : Nat} {i : Int32} {x : UInt64} (e : i = nI j) (hd : decode (q_cc M) pc = .ok (.dastore, 1)) (hsh : q_sh A a = (53, z)) (hj : j < z) (hz : z < 2147483648) (h : q_Wp G M K X k n (pc + 1) lo st (q_setD A a j x)) : q_Wp G M K X k n pc lo (.double x :: .int i :: .ref a :: st) A := by
  intro p ee s m args below meth c C H locs ls hR hS hl
  have k2 := h p ee s m args below meth c C
  subst e
  have he := q_ent_d (G := G) hsh
  obtain ⟨hba, hcell⟩ := hR.2.2.1 a _ he
  have hcl : (nI j).toNatClampNeg = j := nI_clamp (Nat.lt_trans hj hz)
  refine W.dast C.1 C.2.1 (cell := arrV (q_tA G 53) z (fun q => .double (q_D A a q))) hcell ((hR.2.1.2 3 _ rfl).1 z _) (fun q => by cases q) (q_inb hj hz _ _) rfl rfl hd fun H' e1 e2 e3 => ?_
  rw [hcl, arrV_store, q_updD] at e1
  refine k2 H' _ ls (hR.up he (q_ent_d (A := q_setD A a j x) hsh) rfl (fun b hb => q_ent_setD hb) e2 ?_ e3) (hS.put e2 e3 hba) hl
  show H'[a]? = some (vp_cell _ _)
  rw [e1, q_D_setD, show q_u2 (q_D A) a j x a = fun q => if q = j then x else q_D A a q by funext q; simp [q_u2]]
  rfl
theorem q_updR (f : Nat → Option Nat) (j : Nat) (x : Option Nat) : updV (fun q => va_rf (f q)) j (va_rf x) = fun q => va_rf (if q = j then x else f q) := by
  funext q; by_cases h : q = j <;> simp [updV, h]
/-- a reference to an object of the row's own kind, or null, into a row -/
theorem q_aast {a j z cc : Nat} {i : Int32} {r : Option Nat} (hc : q_Rk G cc) (hc49 : cc < 49) (e : i = nI j) (hd : decode (q_cc M) pc = .ok (.aastore, 1)) (hsh : q_sh A a = (60 + cc, z)) (hj : j < z) (hz : z < 2147483648) (hr : ∀ x, r = some x → q_sh A x = (cc + 1, 0)) (h : q_Wp G M K X k n (pc + 1) lo st (q_setR A a j r)) : q_Wp G M K X k n pc lo (va_rf r :: .int i :: .ref a :: st) A := by
  intro p ee s m args below meth c C H locs ls hR hS hl
  have k2 := h p ee s m args below meth c C
  subst e
  obtain ⟨Cn, T, N, h1, h2, h3⟩ := hc
  have he := q_ent_r (G := G) hsh
  obtain ⟨hba, hcell⟩ := hR.2.2.1 a _ he
  have hcl : (nI j).toNatClampNeg = j := nI_clamp (Nat.lt_trans hj hz)
  have fin2 : ∀ H' : Heap, H'[a]? = some ((arrV (q_tA G (60 + cc)) z (fun q => va_rf (q_R A a q))).setSlot (nI j).toNatClampNeg (va_rf r)) → H'.size = H.size → (∀ q : Nat, q ≠ a → H'[q]? = H[q]?) → W p (q_l G) ee (q_rm M) s m args below meth c H' (locs ++ [⟨a, (nI j).toNatClampNeg⟩]) k n (vx_MQ below (q_Q G K) (q_XC G X) args s (q_rm M).cells (q_rm M).slots (q_F G)) (F0 m (pc + 1) ls st) := by
    intro H' e1 e2 e3
    rw [hcl, arrV_store, q_updR] at e1
    refine k2 H' _ ls (hR.up he (q_ent_r (A := q_setR A a j r) hsh) rfl (fun b hb => q_ent_setR hb) e2 ?_ e3) (hS.put e2 e3 hba) hl
    show H'[a]? = some (vp_cell _ _)
    rw [e1, vp_cell_q, q_R_setR, q_setR_row]
  cases r with
  | none => exact va_WaastN (C := Cn) C.1 C.2.1 (cell := arrV (q_tA G (60 + cc)) z (fun q => va_rf (q_R A a q))) hcell ((hR.2.1.2 _ _ h2).1 z _) (fun q => by cases q) (q_inb hj hz _ _) rfl rfl hd fin2
  | some v =>
    have hev := q_ent_o (G := G) (hr v rfl) hc49
    obtain ⟨-, r', hr', cellV, g1, g2, g3, -⟩ := hR.2.2.1 v _ hev
    have hcls := (hR.2.1.1 cc _ h1).2
    obtain ⟨kA, comp, k1, k2', k3, -⟩ := (hR.2.1.2 _ _ h2).2
    have hcomp : comp = (q_Dg G).1 cc := Option.some.inj (k3.symm.trans hcls.1)
    subst hcomp
    obtain ⟨kC, hkC, -⟩ := hcls.2
    exact W.aast C.1 C.2.1 (cell := arrV (q_tA G (60 + cc)) z (fun q => va_rf (q_R A a q))) hcell (fun q h => by cases h) (fun h => by cases h) k1 k2' rfl hkC ⟨fun q => (vp_in_nI hj hz) (Or.inl q), by rw [arrV_size, hcl]; exact hj⟩ g1 (fun q h => by rw [g3] at h; cases h) (by rw [g2]; exact hkC) (by rw [g2]; exact va_assign hcls) rfl rfl hd fin2
/-- a new object -/
theorem q_newO {idx ci N : Nat} {Cn : String} {T : u_T} (hck : q_CK ci Cn T N) (hci : ci < 49) (hcl : Cond.classLink M.1.cls idx Cn ∈ q_UW) (hin2 : Cond.instantiable Cn N ∈ q_UW) (hini : Cond.initialized Cn ∈ q_UW) (h1 : k + 1 ≤ (q_rm M).cells) (h2 : n + N ≤ (q_rm M).slots) (hd : decode (q_cc M) pc = .ok (.new idx, 3)) (h : q_Wp G M K X (k + 1) (n + N) (pc + 3) lo (.ref (q_sz A) :: st) (q_new A (ci + 1) 0)) : q_Wp G M K X k n pc lo st A := by
  intro p ee s m args below meth c C H locs ls hR hS hl
  have k2 := h p ee s m args below meth c C
  obtain ⟨hx, hb, hr, hml, hown, hts, hlk, hnm, htb, hA, hbs⟩ := C
  obtain ⟨hc, hin, hN, hnms, ty, hty, ht1, ht2⟩ := hck
  have hKn := hR.2.1.1 ci _ hc
  refine W.newcK hx hb hown (hts _ hcl) (hts _ hin2) (hts _ hini) rfl hd h1 h2 hKn.2.1 hR.1 fun H1 kC hkC e1 z1 o1 => ?_
  have hsh : q_sh (q_new A (ci + 1) 0) (q_sz A) = (ci + 1, 0) := by rw [q_sh_new, if_pos rfl]
  have hz1 : H1.size = H.size + 1 := by rw [z1, hR.1]
  have ho : ∀ q : Nat, q < H.size → H1[q]? = H[q]? := fun q hq => o1 q (by rw [← hR.1]; exact hq)
  refine k2 H1 _ ls (hR.nu (q_ent_o hsh hci) hz1 ⟨_, hc, (u_born ty hts hin hKn hkC e1 hty).to fun j hj => ?_⟩ ho) ⟨Nat.le_trans hS.1 (by omega), fun q g1 g2 => (ho q (Nat.lt_of_lt_of_le g1 hS.1)).trans (hS.2.1 q g1 g2), hS.2.2⟩ hl
  have hjk : j < (q_kd ci).length := by rw [← hN]; exact hj
  have hg : (q_kd ci)[j]? = some (q_kd ci)[j] := List.getElem?_eq_getElem hjk
  rw [q_I_new, q_R_new, q_rw_s, q_rw_s]
  show _ = (q_fs ci _ _).getD j .null
  rw [List.getD_eq_getElem?_getD, q_fs_at hg]
  cases hb2 : (q_kd ci)[j] with
  | false =>
    rw [hb2] at hg
    rw [ht1 j hg]
    rfl
  | true =>
    rw [hb2] at hg
    rcases ht2 j hg with ⟨x, hx2⟩ | ⟨x, hx2⟩ <;> rw [hx2] <;> rfl
/-- a new row of a primitive type -/
theorem q_newP {z t0 cc : Nat} {i : Int32} {atype : ArrayType} {ty : FieldType} {x : (Nat → Int32) ⊕ (Nat → Int64) ⊕ (Nat → UInt32) ⊕ (Nat → UInt64) ⊕ (Nat → Option Nat)} (hty : newarray.typeOf atype = ty) (ht : (q_tys G)[t0]? = some (q_tA G cc, ty)) (hRA : ∀ (U : State) (cA : ClassId), va_RA U cA ty = (U.vm.findClass ("[" ++ ty.toString) = some cA)) (hwd : Cond.arrayClass ty ∈ q_UW) (e : i = nI z) (hz : z < 2147483648) (hbytes : z * componentBytes ty ≤ 536870912)
    (he : q_ent G (q_new A cc z) (q_sz A) = some (.inl (q_tA G cc, z, x))) (hcell : ∀ cA : ClassId, vp_cell cA (z, x) = arrV cA z (fun _ => defaultValue ty)) (h1 : k + 1 ≤ (q_rm M).cells) (h2 : n + z ≤ (q_rm M).slots) (hd : decode (q_cc M) pc = .ok (.newarray atype, 2)) (h : q_Wp G M K X (k + 1) (n + z) (pc + 2) lo (.ref (q_sz A) :: st) (q_new A cc z)) : q_Wp G M K X k n pc lo (.int i :: st) A := by
  intro p ee s m args below meth c C H locs ls hR hS hl
  have k2 := h p ee s m args below meth c C
  obtain ⟨hx, hb, hr, hml, hown, hts, hlk, hnm, htb, hA, hbs⟩ := C
  subst e; subst hty
  refine va_newaK hx hb (hts _ hwd) rfl hd rfl (nI_pos hz) (nI_clamp hz) hbytes h1 h2 hR.1 fun H1 cA e1 z1 o1 hAr hNm => ?_
  have hfa := (hR.2.1.2 t0 _ ht).2
  rw [hRA] at hfa
  have hcA : cA = q_tA G cc := Option.some.inj (hNm.symm.trans hfa)
  subst hcA
  have hz1 : H1.size = H.size + 1 := by rw [z1, hR.1]
  have ho : ∀ q : Nat, q < H.size → H1[q]? = H[q]? := fun q hq => o1 q (by rw [← hR.1]; exact hq)
  exact k2 H1 _ ls (hR.nu he hz1 (show H1[q_sz A]? = some (vp_cell _ _) by rw [hcell]; exact e1) ho) ⟨Nat.le_trans hS.1 (by omega), fun q g1 g2 => (ho q (Nat.lt_of_lt_of_le g1 hS.1)).trans (hS.2.1 q g1 g2), hS.2.2⟩ hl
theorem q_shn (A : q_H) (c z : Nat) : q_sh (q_new A c z) (q_sz A) = (c, z) := by rw [q_sh_new, if_pos rfl]
theorem q_newI {z : Nat} {i : Int32} (hwd : Cond.arrayClass .int ∈ q_UW) (e : i = nI z) (hz : z * 4 ≤ 536870912) (h1 : k + 1 ≤ (q_rm M).cells) (h2 : n + z ≤ (q_rm M).slots) (hd : decode (q_cc M) pc = .ok (.newarray .int, 2)) (h : q_Wp G M K X (k + 1) (n + z) (pc + 2) lo (.ref (q_sz A) :: st) (q_new A 50 z)) : q_Wp G M K X k n pc lo (.int i :: st) A :=
  q_newP (ty := .int) (atype := .int) (t0 := 0) (cc := 50) rfl rfl (fun _ _ => rfl) hwd e (by omega) hz (q_ent_i (q_shn A 50 z)) (fun cA => by rw [q_I_new, q_rw_s]; rfl) h1 h2 hd h
theorem q_newB {z : Nat} {i : Int32} (hwd : Cond.arrayClass .byte ∈ q_UW) (e : i = nI z) (hz : z * 1 ≤ 536870912) (h1 : k + 1 ≤ (q_rm M).cells) (h2 : n + z ≤ (q_rm M).slots) (hd : decode (q_cc M) pc = .ok (.newarray .byte, 2)) (h : q_Wp G M K X (k + 1) (n + z) (pc + 2) lo (.ref (q_sz A) :: st) (q_new A 51 z)) : q_Wp G M K X k n pc lo (.int i :: st) A :=
  q_newP (ty := .byte) (atype := .byte) (t0 := 1) (cc := 51) rfl rfl (fun _ _ => rfl) hwd e (by omega) hz (q_ent_b (q_shn A 51 z)) (fun cA => by rw [q_I_new, q_rw_s]; rfl) h1 h2 hd h
theorem q_newL {z : Nat} {i : Int32} (hwd : Cond.arrayClass .long ∈ q_UW) (e : i = nI z) (hz : z * 8 ≤ 536870912) (h1 : k + 1 ≤ (q_rm M).cells) (h2 : n + z ≤ (q_rm M).slots) (hd : decode (q_cc M) pc = .ok (.newarray .long, 2)) (h : q_Wp G M K X (k + 1) (n + z) (pc + 2) lo (.ref (q_sz A) :: st) (q_new A 52 z)) : q_Wp G M K X k n pc lo (.int i :: st) A :=
  q_newP (ty := .long) (atype := .long) (t0 := 2) (cc := 52) rfl rfl (fun _ _ => rfl) hwd e (by omega) hz (q_ent_l (q_shn A 52 z)) (fun cA => by rw [q_L_new, q_rw_s]; rfl) h1 h2 hd h
theorem q_newD {z : Nat} {i : Int32} (hwd : Cond.arrayClass .double ∈ q_UW) (e : i = nI z) (hz : z * 8 ≤ 536870912) (h1 : k + 1 ≤ (q_rm M).cells) (h2 : n + z ≤ (q_rm M).slots) (hd : decode (q_cc M) pc = .ok (.newarray .double, 2)) (h : q_Wp G M K X (k + 1) (n + z) (pc + 2) lo (.ref (q_sz A) :: st) (q_new A 53 z)) : q_Wp G M K X k n pc lo (.int i :: st) A :=
  q_newP (ty := .double) (atype := .double) (t0 := 3) (cc := 53) rfl rfl (fun _ _ => rfl) hwd e (by omega) hz (q_ent_d (q_shn A 53 z)) (fun cA => by rw [q_D_new, q_rw_s]; rfl) h1 h2 hd h
/-- a new row of references -/
theorem q_newR {idx z cc : Nat} {i : Int32} {Cn : String} {T : u_T} {N : Nat} (hc : vwCl[cc]? = some (Cn, T, N)) (hrk : q_Rk G cc) (hcl : Cond.classLink M.1.cls idx Cn ∈ q_UW) (e : i = nI z) (hz : z * 4 ≤ 536870912) (h1 : k + 1 ≤ (q_rm M).cells) (h2 : n + z ≤ (q_rm M).slots) (hd : decode (q_cc M) pc = .ok (.anewarray idx, 3)) (h : q_Wp G M K X (k + 1) (n + z) (pc + 3) lo (.ref (q_sz A) :: st) (q_new A (60 + cc) z)) : q_Wp G M K X k n pc lo (.int i :: st) A := by
  intro p ee s m args below meth c C H locs ls hR hS hl
  have k2 := h p ee s m args below meth c C
  obtain ⟨hx, hb, hr, hml, hown, hts, hlk, hnm, htb, hA, hbs⟩ := C
  subst e
  have hcl2 : (nI z).toNatClampNeg = z := nI_clamp (by omega)
  obtain ⟨C2, T2, N2, g1, g2, g3⟩ := hrk
  cases Option.some.inj (g1.symm.trans hc)
  refine W.anew hx hb hown (hts _ hcl) (va_AO.use (hA.2.2.1 _ g3)) rfl hd rfl (nI_pos (by omega)) (by rw [hcl2]; exact hz) h1 (by rw [hcl2]; exact h2) fun cA kA comp f1 f2 f3 f4 => ?_
  obtain ⟨kA9, comp9, k91, k92, k93, k94⟩ := (hR.2.1.2 _ _ g2).2
  have hcA : cA = q_tA G (60 + cc) := Option.some.inj (f1.symm.trans k94)
  subst hcA
  rw [hcl2]
  generalize hH1 : H.push ({ cls := q_tA G (60 + cc), slots := Array.replicate z .null, vm := .none } : Cell) = H1
  have z1 : H1.size = H.size + 1 := by rw [← hH1, Array.size_push]
  have e1 : H1[H.size]? = some (arrV (q_tA G (60 + cc)) z (fun _ => .null)) := by rw [← hH1, Array.getElem?_push_size, ← arrV_new]
  have o1 : ∀ q : Nat, q < H.size → H1[q]? = H[q]? := fun q hq => by rw [← hH1, Array.getElem?_push, if_neg (Nat.ne_of_lt hq)]
  rw [hR.1]
  refine k2 H1 _ ls (hR.nu (q_ent_r (q_shn A (60 + cc) z)) z1 ?_ o1) ⟨Nat.le_trans hS.1 (by omega), fun q g1 g2 => (o1 q (Nat.lt_of_lt_of_le g1 hS.1)).trans (hS.2.1 q g1 g2), hS.2.2⟩ hl
  show H1[q_sz A]? = some (vp_cell _ _)
  rw [vp_cell_q, q_R_new, q_rw_s, ← hR.1]
  exact e1
end QA
end
section
/-! ROWS OF STATIC ROWS, COPIES, Math, TEXTS -/
section QN
variable {G : q_G} {M : q_M} {K : Option Value → q_H → Prop} {X : String → q_H → Prop} {k n pc : Nat} {lo lo' : List (Option Value)} {st st' : List Value} {A : q_H}
theorem q_Sta.now {G : q_G} {i : Nat} {s : State} {H : Heap} {locs : List Loc} (hS : va_S (q_F G) s.heap H locs) (h : q_Sta G i s s.heap) : va_P (q_Dg G) vwCl [(q_st G i, .inl (q_tA G 50, 8, .inl (fun j => (q_sval i).getD j 0)))] H := by
  intro k q hk
  have hz : k < 1 := (List.getElem?_eq_some_iff.mp hk).1
  rw [show k = 0 by omega] at hk
  cases hk
  exact (h.kept hS.2.1).2.1
/-- a static row's reference -/
theorem q_gets {idx i : Nat} (hi : i < 3) (hl : Cond.fieldLink M.1.cls idx RX10 (q_sname i) "[I" ∈ q_UW ∨ ∃ host, Cond.fieldLinkNest M.1.cls idx RX10 (q_sname i) "[I" host ∈ q_NW) (hd : decode (q_cc M) pc = .ok (.getstatic idx, 3)) (h : q_Wp G M K X k n (pc + 3) lo (.ref (q_st G i) :: st) A) : q_Wp G M K X k n pc lo st A := by
  intro p ee s m args below meth c C H locs ls hR hS hl2
  have k2 := h p ee s m args below meth c C H locs ls hR hS hl2
  obtain ⟨hx, hb, hr, hml, hown, hts, hlk, hnm, htb, hA, hbs⟩ := C
  rcases hl with hl | ⟨host, hl⟩
  · exact va_gets hx hb (hA.2.2.2.2.1 i hi).1 hS hown (hts _ hl) (fun _ h9 => h9) hd k2
  · exact va_getsN hx hb (hA.2.2.2.2.1 i hi).1 hS hown (va_Nw.use (by rfl) (hA.2.1 _ hl)) (fun _ h9 => h9) hd k2
theorem q_ialdS {i j : Nat} {x : Int32} (hi : i < 3) (e : x = nI j) (hj : j < 8) (hd : decode (q_cc M) pc = .ok (.iaload, 1)) (h : q_Wp G M K X k n (pc + 1) lo (.int ((q_sval i).getD j 0) :: st) A) : q_Wp G M K X k n pc lo (.int x :: .ref (q_st G i) :: st) A := by
  intro p ee s m args below meth c C H locs ls hR hS hl
  have k2 := h p ee s m args below meth c C H locs ls hR hS hl
  subst e
  exact va_iald (D := q_Dg G) (cl := vwCl) (tys := q_tys G) C.1 C.2.1 hR.2.1 ((C.2.2.2.2.2.2.2.2.2.1.2.2.2.2.1 i hi).now hS) 0 0 rfl rfl (vp_in_nI hj (by decide)) hd (by rw [nI_clamp (Nat.lt_trans hj (by decide))]; exact k2)
/-- the script -/
theorem q_sld {x : Int32} {j : Nat} (e : x = nI j) (hj : j < q_sL G) (hL : q_sL G < 2147483648) (hd : decode (q_cc M) pc = .ok (.iaload, 1)) (h : q_Wp G M K X k n (pc + 1) lo (.int (q_xs G j) :: st) A) : q_Wp G M K X k n pc lo (.int x :: .ref (q_sb G) :: st) A := by
  intro p ee s m args below meth c C H locs ls hR hS hl
  have k2 := h p ee s m args below meth c C H locs ls hR hS hl
  obtain ⟨hx, hb, hr, hml, hown, hts, hlk, hnm, htb, hA, hbs⟩ := C
  subst e
  have hX := hA.2.2.2.2.2.2.2.2.1
  exact va_sld hx hb hX (by obtain ⟨scr, h1, -⟩ := hX; exact (Array.getElem?_eq_some_iff.mp h1).1) hA.2.2.2.2.2.2.2.2.2.1 hS (vp_in_nI hj hL) hd (by rw [nI_clamp (Nat.lt_trans hj hL)]; exact k2)
theorem q_slen (hd : decode (q_cc M) pc = .ok (.arraylength, 1)) (h : q_Wp G M K X k n (pc + 1) lo (.int (nI (q_sL G)) :: st) A) : q_Wp G M K X k n pc lo (.ref (q_sb G) :: st) A := by
  intro p ee s m args below meth c C H locs ls hR hS hl
  have k2 := h p ee s m args below meth c C H locs ls hR hS hl
  obtain ⟨hx, hb, hr, hml, hown, hts, hlk, hnm, htb, hA, hbs⟩ := C
  have hX := hA.2.2.2.2.2.2.2.2.1
  exact va_slen hx hb hX (by obtain ⟨scr, h1, -⟩ := hX; exact (Array.getElem?_eq_some_iff.mp h1).1) hA.2.2.2.2.2.2.2.2.2.1 hS hd k2
/-- a copy of z ints from the beginning of one row to the beginning of another; f: what the source holds -/
theorem q_acg {idx a0 a z0 z1 z : Nat} {y : Int32} {f : Nat → Int32} (hsrc : ∀ (s : State) (H : Heap) (locs : List Loc), q_Amb G s s.heap → va_S (q_F G) s.heap H locs → q_Rep G A s H → H[a0]? = some (vp_cell (q_tA G 50) (z0, .inl f)))
    (hw1 : Cond.methodLink M.1.cls idx arraycopyName ∈ q_UW) (hw2 : Cond.native arraycopyName ∈ q_UW) (hw3 : Cond.static arraycopyName ∈ q_UW) (hw4 : Cond.initialized "java/lang/System" ∈ q_UW) (hsh : q_sh A a = (50, z1)) (e : y = nI z) (h0 : z ≤ z0) (h1 : z ≤ z1) (hz : z1 < 2147483648) (hz0 : z0 < 2147483648)
    (hfr : 1 ≤ (q_rm M).frames) (hlo : (st.map fun v => v.category).sum + (nativeFrameWords "java/lang/System" "arraycopy" 5 + 11) ≤ (q_rm M).locals) (hd : decode (q_cc M) pc = .ok (.invokestatic idx, 3)) (h : q_Wp G M K X k n (pc + 3) lo st (q_rowI A a (fun j => if j < z then f j else q_I A a j))) : q_Wp G M K X k n pc lo (.int y :: .int 0 :: .ref a :: .int 0 :: .ref a0 :: st) A := by
  intro p ee s m args below meth c C H locs ls hR hS hl
  have k2 := h p ee s m args below meth c C
  obtain ⟨hx, hb, hr, hml, hown, hts, hlk, hnm, htb, hA, hbs⟩ := C
  subst e
  have nn : ∀ z : Int32, ¬ z < 0 → z.toInt = (z.toNatClampNeg : Int) := by
    intro z hz
    have hz0 : (0 : Int) ≤ z.toInt := by
      have := Int32.not_lt.mp hz
      simpa using Int32.le_iff_toInt_le.mp this
    show z.toInt = ((z.toInt.toNat : Nat) : Int)
    omega
  have c0 : (0 : Int32).toNatClampNeg = 0 := by decide
  have cz : (nI z).toNatClampNeg = z := nI_clamp (by omega)
  have p0 : ¬ (0 : Int32) < 0 := by decide
  have pz : ¬ nI z < 0 := nI_pos (by omega)
  have he := q_ent_i (G := G) hsh
  obtain ⟨hba, hcell⟩ := hR.2.2.1 a _ he
  have hc0 : H[a0]? = some (vp_cell (q_tA G 50) (z0, .inl f)) := hsrc s H locs hA hS hR
  have hc1 : H[a]? = some (vp_cell (q_tA G 50) (z1, .inl (q_I A a))) := hcell
  obtain ⟨-, k0, hk0, cm0, hkk0⟩ := (hR.2.1.2 0 _ rfl).1 z0 (fun j => .int (f j))
  obtain ⟨-, k1, hk1, cm1, hkk1⟩ := (hR.2.1.2 0 _ rfl).1 z1 (fun j => .int (q_I A a j))
  intro T hT XX
  obtain ⟨vm', X', step⟩ := XX.arraycopy hx hown (hts _ hw1) (hts _ hw2) (hts _ hw3) (hts _ hw4) (src := a0) (dst := a) (cs := vp_cell (q_tA G 50) (z0, .inl f)) (cd := vp_cell (q_tA G 50) (z1, .inl (q_I A a))) (srcPos := 0) (destPos := 0) (n := nI z) (by rw [hT]; exact hc0) (by rw [hT]; exact hc1)
    (fun _ h => by cases h) (fun _ h => by cases h) (fun h => by cases h) (fun h => by cases h) hk0 hk1 hkk0 hkk1 (by simp [refKind]) p0 p0 pz
    (by rw [nn 0 p0, nn (nI z) pz, c0, cz]; show ¬ _ > ((arrV (q_tA G 50) z0 (fun j => .int (f j))).slots.size : Int); rw [arrV_size]; omega)
    (by rw [nn 0 p0, nn (nI z) pz, c0, cz]; show ¬ _ > ((arrV (q_tA G 50) z1 (fun j => .int (q_I A a j))).slots.size : Int); rw [arrV_size]; omega)
    (fun vm₁ _ i hi => by
      rw [cz] at hi
      have e : (vp_cell (q_tA G 50) (z0, .inl f)).slots.getD ((0 : Int32).toNatClampNeg + i) .null = .int (f i) := by
        show (arrV (q_tA G 50) z0 (fun j => .int (f j))).slots.getD _ _ = _
        rw [c0, Nat.zero_add, Array.getD_eq_getD_getElem?, arrV_read _ _ (by omega)]
        rfl
      refine ⟨?_, ?_⟩
      · rw [e]
        rfl
      · rw [e]
        exact trivial)
    (g := F0 m pc ls (.int (nI z) :: .int 0 :: .ref a :: .int 0 :: .ref a0 :: st)) rfl (by rw [hml]; exact hl.1) (rest := st) rfl (by rw [hb]; exact hd) hfr (by show 2 * 0 + _ + _ ≤ _; omega)
  have e1 : copied (vp_cell (q_tA G 50) (z0, .inl f)) (vp_cell (q_tA G 50) (z1, .inl (q_I A a))) 0 0 (nI z) = vp_cell (q_tA G 50) (z1, .inl (va_cpy f (q_I A a) (0 : Int32).toNatClampNeg (0 : Int32).toNatClampNeg (nI z).toNatClampNeg)) := va_copied (fun z => .int z) _ _ f (q_I A a) (by rw [c0, cz]; omega)
  have e2 : va_cpy f (q_I A a) (0 : Int32).toNatClampNeg (0 : Int32).toNatClampNeg (nI z).toNatClampNeg = fun j => if j < z then f j else q_I A a j := by
    funext j
    rw [c0, cz]
    simp [va_cpy]
  rw [e1, e2] at X' step
  have hlt : a < H.size := (Array.getElem?_eq_some_iff.mp hc1).1
  generalize hgd : (fun j => if j < z then f j else q_I A a j) = gg at X' step k2
  have oq : ∀ q : Nat, q ≠ a → (H.setIfInBounds a (vp_cell (q_tA G 50) (z1, .inl gg)))[q]? = H[q]? := fun q hq => by simp [Array.getElem?_setIfInBounds, Ne.symm hq]
  have he' : q_ent G (q_rowI A a gg) a = some (.inl (q_tA G 50, z1, .inl gg)) := by
    rw [q_ent_i (A := q_rowI A a gg) hsh, q_I_rowI, q_rw_s]
  obtain ⟨t, a1, b1⟩ := k2 (H.setIfInBounds a (vp_cell (q_tA G 50) (z1, .inl gg))) _ ls (hR.up he he' rfl (fun b hb => q_ent_rowI hb) (by simp) (show (H.setIfInBounds a _)[a]? = some _ by simp [Array.getElem?_setIfInBounds, hlt]) oq)
    ⟨by simp; exact hS.1, fun q g1 g2 => by
      rw [oq q (fun e => g2 (by rw [e]; exact hba))]
      exact hS.2.1 q g1 g2, fun q hq => by
      rcases List.mem_append.mp hq with h | h
      · exact hS.2.2 q h
      · obtain ⟨z, -, hz⟩ := List.mem_map.mp h
        rw [← hz]
        exact hba⟩ hl _ (by rw [← hT]; rfl) X'
  exact ⟨t, step t a1, b1⟩
theorem q_acpy {idx a0 a z0 z1 z : Nat} {y : Int32} (hw1 : Cond.methodLink M.1.cls idx arraycopyName ∈ q_UW) (hw2 : Cond.native arraycopyName ∈ q_UW) (hw3 : Cond.static arraycopyName ∈ q_UW) (hw4 : Cond.initialized "java/lang/System" ∈ q_UW) (hfr : 1 ≤ (q_rm M).frames) (hlo : (st.map fun v => v.category).sum + (nativeFrameWords "java/lang/System" "arraycopy" 5 + 11) ≤ (q_rm M).locals) (hd : decode (q_cc M) pc = .ok (.invokestatic idx, 3))
    (e : y = nI z) (hs0 : q_sh A a0 = (50, z0)) (hsh : q_sh A a = (50, z1)) (h0 : z ≤ z0) (h1 : z ≤ z1) (hz : z1 < 2147483648) (hz0 : z0 < 2147483648) (h : q_Wp G M K X k n (pc + 3) lo st (q_rowI A a (fun j => if j < z then q_I A a0 j else q_I A a j))) : q_Wp G M K X k n pc lo (.int y :: .int 0 :: .ref a :: .int 0 :: .ref a0 :: st) A :=
  q_acg (fun s H locs _ _ hR => (hR.2.2.1 a0 _ (q_ent_i hs0)).2) hw1 hw2 hw3 hw4 hsh e h0 h1 hz hz0 hfr hlo hd h
theorem q_acpyS {idx i a z1 z : Nat} {y : Int32} (hi : i < 3) (hw1 : Cond.methodLink M.1.cls idx arraycopyName ∈ q_UW) (hw2 : Cond.native arraycopyName ∈ q_UW) (hw3 : Cond.static arraycopyName ∈ q_UW) (hw4 : Cond.initialized "java/lang/System" ∈ q_UW) (hfr : 1 ≤ (q_rm M).frames) (hlo : (st.map fun v => v.category).sum + (nativeFrameWords "java/lang/System" "arraycopy" 5 + 11) ≤ (q_rm M).locals) (hd : decode (q_cc M) pc = .ok (.invokestatic idx, 3))
    (e : y = nI z) (hsh : q_sh A a = (50, z1)) (h0 : z ≤ 8) (h1 : z ≤ z1) (hz : z1 < 2147483648) (h : q_Wp G M K X k n (pc + 3) lo st (q_rowI A a (fun j => if j < z then (q_sval i).getD j 0 else q_I A a j))) : q_Wp G M K X k n pc lo (.int y :: .int 0 :: .ref a :: .int 0 :: .ref (q_st G i) :: st) A :=
  q_acg (fun s H locs hA hS _ => ((hA.2.2.2.2.1 i hi).now hS) 0 _ rfl) hw1 hw2 hw3 hw4 hsh e h0 h1 hz (by decide) hfr hlo hd h
theorem q_mmin {idx : Nat} {x y : Int32} (hw1 : Cond.methodLink M.1.cls idx Lib.Math.min.name ∈ q_UW) (hw2 : Cond.static Lib.Math.min.name ∈ q_UW) (hw3 : Cond.initialized "java/lang/Math" ∈ q_UW) (hw4 : Cond.code Lib.Math.min.name Lib.Math.min.code 2 (some .int) ∈ q_UW) (hfr : 1 ≤ (q_rm M).frames) (hlo : (st.map fun v => v.category).sum + 13 ≤ (q_rm M).locals) (hk : k ≤ (q_rm M).cells) (hn : n ≤ (q_rm M).slots) (hd : decode (q_cc M) pc = .ok (.invokestatic idx, 3)) (h : q_Wp G M K X k n (pc + 3) lo (.int (if y < x then y else x) :: st) A) : q_Wp G M K X k n pc lo (.int y :: .int x :: st) A := by
  intro p ee s m args below meth c C H locs ls hR hS hl
  have k2 := h p ee s m args below meth c C H locs ls hR hS hl
  obtain ⟨hx, hb, hr, hml, hown, hts, hlk, hnm, htb, hA, hbs⟩ := C
  exact va_mmin hx hb (hml.trans hl.1.symm) hown (hts _ hw1) (hts _ hw2) (hts _ hw3) (hts _ hw4) hfr hlo hk hn hd k2
theorem q_mmax {idx : Nat} {x y : Int32} (hw1 : Cond.methodLink M.1.cls idx Lib.Math.max.name ∈ q_UW) (hw2 : Cond.static Lib.Math.max.name ∈ q_UW) (hw3 : Cond.initialized "java/lang/Math" ∈ q_UW) (hw4 : Cond.code Lib.Math.max.name Lib.Math.max.code 2 (some .int) ∈ q_UW) (hfr : 1 ≤ (q_rm M).frames) (hlo : (st.map fun v => v.category).sum + 13 ≤ (q_rm M).locals) (hk : k ≤ (q_rm M).cells) (hn : n ≤ (q_rm M).slots) (hd : decode (q_cc M) pc = .ok (.invokestatic idx, 3)) (h : q_Wp G M K X k n (pc + 3) lo (.int (if x < y then y else x) :: st) A) : q_Wp G M K X k n pc lo (.int y :: .int x :: st) A := by
  intro p ee s m args below meth c C H locs ls hR hS hl
  have k2 := h p ee s m args below meth c C H locs ls hR hS hl
  obtain ⟨hx, hb, hr, hml, hown, hts, hlk, hnm, htb, hA, hbs⟩ := C
  exact va_mmax hx hb (hml.trans hl.1.symm) hown (hts _ hw1) (hts _ hw2) (hts _ hw3) (hts _ hw4) hfr hlo hk hn hd k2
theorem q_lmin {idx : Nat} {x y : Int64} (hw1 : Cond.methodLink M.1.cls idx Lib.MathLoose.min_long.x ∈ q_UW) (hw2 : Cond.static Lib.MathLoose.min_long.x ∈ q_UW) (hw3 : Cond.initialized "java/lang/Math" ∈ q_UW) (hw4 : Cond.code Lib.MathLoose.min_long.x Lib.MathLoose.min_long.code 4 (some .long) ∈ q_UW) (hfr : 1 ≤ (q_rm M).frames) (hlo : (st.map fun v => v.category).sum + 15 ≤ (q_rm M).locals) (hk : k ≤ (q_rm M).cells) (hn : n ≤ (q_rm M).slots) (hd : decode (q_cc M) pc = .ok (.invokestatic idx, 3)) (h : q_Wp G M K X k n (pc + 3) lo (.long (if y < x then y else x) :: st) A) : q_Wp G M K X k n pc lo (.long y :: .long x :: st) A := by
  intro p ee s m args below meth c C H locs ls hR hS hl
  have k2 := h p ee s m args below meth c C H locs ls hR hS hl
  obtain ⟨hx, hb, hr, hml, hown, hts, hlk, hnm, htb, hA, hbs⟩ := C
  exact va_mmin_long hx hb (hml.trans hl.1.symm) hown (hts _ hw1) (hts _ hw2) (hts _ hw3) (hts _ hw4) hfr hlo hk hn hd k2
/-- a text -/
theorem q_ldc {idx i : Nat} {q : String × Nat × String × List Int32} (hq : q_txt[i]? = some q) (h1 : q.1 = M.1.cls) (h2 : q.2.1 = idx) (hd : decode (q_cc M) pc = .ok (.ldc idx, 2)) (h : q_Wp G M K X k n (pc + 2) lo (.ref (q_aK G i) :: st) A) : q_Wp G M K X k n pc lo st A := by
  intro p ee s m args below meth c C H locs ls hR hS hl
  have k2 := h p ee s m args below meth c C H locs ls hR hS hl
  obtain ⟨hx, hb, hr, hml, hown, hts, hlk, hnm, htb, hA, hbs⟩ := C
  have hs := (hA.2.2.2.2.2.1 i q hq).1
  rw [h1, h2] at hs
  exact va_ldcS hx hb hown hs hd k2
end QN
end
section
/-! ROWS OF CALLS -/
section QC
variable {G : q_G} {M Mc : q_M} {K K' : Option Value → q_H → Prop} {X X' : String → q_H → Prop} {k n pc : Nat} {lo lo' : List (Option Value)} {st st' : List Value} {A : q_H}
theorem q_Wc.met {as : List Value} (h : q_Wc G M as A K q_nX) : Met (q_l G) M.1 (q_ws M) (q_rm M) (q_Pre G as A) (q_Q G K) (q_rm M).cells (q_rm M).slots (q_F G) := by
  refine MetFree.mono h (fun _ _ h => h) (fun _ _ _ _ _ h => h) (fun a st o t _ h => ?_)
  rcases h with h | ⟨q, rfl, E, ce, L, ⟨A', h1, h2, h3⟩, -⟩
  · exact h
  · exact h3.elim
theorem q_Wc.imp {as : List Value} {K2 : Option Value → q_H → Prop} {X2 : String → q_H → Prop} (h : q_Wc G M as A K X) (hK : ∀ v A', K v A' → K2 v A') (hX : ∀ E A', X E A' → X2 E A') : q_Wc G M as A K2 X2 := by
  refine MetFree.mono h (fun _ _ h => h) (fun _ _ _ _ _ h => h) (fun a st o t _ h => ?_)
  rcases h with ⟨⟨v, A', h1, h2, h3, h4⟩, h5⟩ | ⟨q, rfl, E, ce, L, ⟨A', h1, h2, h3⟩, h4⟩
  · exact Or.inl ⟨⟨v, A', h1, h2, h3, hK _ _ h4⟩, h5⟩
  · exact Or.inr ⟨q, rfl, E, ce, L, ⟨A', h1, h2, hX _ _ h3⟩, h4⟩
theorem q_blind {as : List Value} : FrameBlind (q_Pre G as A) := fun a U g mk ⟨h1, h2, h3⟩ => ⟨h1, h2.moved (U := U.calling g mk a) (Vm.Alike.refl U.vm), q_Amb.same (u := U) (U := U.calling g mk a) rfl h3⟩
theorem q_pre {as : List Value} {s : State} {H : Heap} {locs : List Loc} (hR : q_Rep G A s H) (hS : va_S (q_F G) s.heap H locs) (hA : q_Amb G s s.heap) (U : State) (hU : U.heap = H) (hW : s.WarmedH U.vm) : q_Pre G as A as.toArray U :=
  ⟨rfl, by rw [hU]; exact hR.moved hW.alike, by rw [hU]; exact (hA.kept hS.2.1).warm hW⟩
theorem q_goodIn {L : List Cond} (h : ∀ w ∈ L, w ∈ q_UW) : GoodIn q_UW L := fun w hw => ⟨h w hw, q_UW_good (h w hw)⟩
theorem q_back {p : Program} {e : Env} {s : State} {m : MethodId} {args : Array Value} {below : List Frame} {meth : Method} {c : Code} {H : Heap} {locs : List Loc} {ls : Array Slot} {st0 : List Value} {a : Array Value} (C : q_Cx G M p s m args meth c) (hS : va_S (q_F G) s.heap H locs) (hl : q_has ls lo (q_ml M)) {mc ms : Nat}
    (hr : va_Run p (q_l G) e (q_rm M) s m args below meth c H locs k n mc ms (F0 m pc ls st0) st (q_Q G K' a) (q_F G)) (hk : ∀ v A', K' v A' → q_Wp G M K X (k + mc) (n + ms) (pc + 3) lo (v.toList ++ st) A') :
    W p (q_l G) e (q_rm M) s m args below meth c H locs k n (vx_MQ below (q_Q G K) (q_XC G X) args s (q_rm M).cells (q_rm M).slots (q_F G)) (F0 m pc ls st0) := by
  intro T hT XX
  obtain ⟨v, s0, t, T', L, h0, X2, hL, e1, e2, ⟨v', A', hv, hR', hF, hK⟩, stp⟩ := hr T hT XX
  cases hv
  have hal : s.vm.Alike T'.vm := X2.warmed.alike
  obtain ⟨k1, k2, k3⟩ := vx_keep h0 e1 hS (fun q _ h => h) (fun q h => h) hL hF
  obtain ⟨t2, a1, b1⟩ := hk v A' hK p e s m args below meth c C T'.heap (locs ++ L) ls (by rw [e1]; exact hR'.moved (by rw [← e2]; exact hal.symm)) k3 hl T' rfl X2
  exact ⟨t2, stp t2 a1, b1⟩
/-- the words of a call of Mc at entry idx of own's pool -/
def q_CL (own : String) (idx : Nat) (Mc : q_M) : Prop := Cond.methodLink own idx Mc.1 ∈ q_UW
theorem q_wsU (h : q_MO Mc n) : ∀ w ∈ q_ws Mc, w ∈ q_UW := fun w hw => (List.mem_cons.mp hw).elim (fun e => by rw [e]; exact h.1) id
theorem q_wsE (hh : q_hh Mc = []) : q_ws Mc = Cond.code Mc.1 (q_cc Mc) (q_ml Mc) (q_rt Mc) :: q_UW := by
  show q_hd Mc :: q_UW = _
  have e : q_hd Mc = Cond.code Mc.1 (q_cc Mc) (q_ml Mc) (q_rt Mc) := by
    unfold q_hd
    split
    · rfl
    · rename_i h9; rw [show Mc.2.2.2.2.1 = [] from hh] at h9; cases h9
  rw [e]
theorem q_callV {idx z ci b N : Nat} {T : u_T} {As stk : List Value} (hm : q_MO Mc z) (hi : q_MI Mc) (hl : q_CL M.1.cls idx Mc) (hh : q_hh Mc = []) (hc : vwCl[ci]? = some (Mc.1.cls, T, N)) (hci : ci < 49) (hz : As.length = z)
    (hrm : (q_rm Mc).frames + 1 ≤ (q_rm M).frames ∧ 8 + (q_ml Mc + 11) + (q_rm Mc).locals ≤ (q_rm M).locals) (hf : k + (q_rm Mc).cells ≤ (q_rm M).cells ∧ n + (q_rm Mc).slots ≤ (q_rm M).slots) (hs : stk = As.reverse ++ .ref b :: st) (hcat : (st.map fun v => v.category).sum ≤ 8) (hd : decode (q_cc M) pc = .ok (.invokevirtual idx, 3))
    (hsh : q_sh A b = (ci + 1, 0)) (h : q_Wc G Mc (.ref b :: As) A K' q_nX) (hk : ∀ v A', K' v A' → q_Wp G M K X (k + (q_rm Mc).cells) (n + (q_rm Mc).slots) (pc + 3) lo (v.toList ++ st) A') : q_Wp G M K X k n pc lo stk A := by
  intro p e s m args below meth c C H locs ls hR hS hlo
  subst hs
  have C0 := C
  obtain ⟨hx, hb, hr, hml, hown, hts, hlk, hnm, htb, hA, hbs⟩ := C
  have hMO := hm
  obtain ⟨w1, w2, w3, w4, w5, w6⟩ := hm
  refine q_back C0 hS hlo (va_runV (As := As) (b := b) ⟨hx, hb, hml, hown, hts⟩ h.met (cwV z hts (q_goodIn fun w hw => ?_) (q_wsE hh) rfl rfl ⟨rfl, w3, w4, w5⟩ hrm) ⟨q_blind, va_recv (ci := ci) hR.2.1 (hR.P (q_ent_o hsh hci)) hc (q0 := 0) rfl, fun U hU hW => q_pre hR hS hA U hU hW⟩ rfl hz hlo.1 rfl (lv_room hcat) hd hf) hk
  unfold wsV at hw
  rcases List.mem_append.mp hw with hw | hw
  · simp only [List.mem_cons, List.not_mem_nil, or_false] at hw
    rcases hw with rfl | rfl | rfl | rfl
    · exact hl
    · exact hi.1
    · exact hi.2
    · exact w2
  · exact q_wsU hMO w hw
theorem q_callS {idx z : Nat} {As stk : List Value} (hm : q_MO Mc z) (hi : Cond.static Mc.1 ∈ q_UW) (hl : q_CL M.1.cls idx Mc) (hh : q_hh Mc = []) (hz : As.length = z)
    (hrm : (q_rm Mc).frames + 1 ≤ (q_rm M).frames ∧ 8 + (q_ml Mc + 11) + (q_rm Mc).locals ≤ (q_rm M).locals) (hf : k + (q_rm Mc).cells ≤ (q_rm M).cells ∧ n + (q_rm Mc).slots ≤ (q_rm M).slots) (hs : stk = As.reverse ++ st) (hcat : (st.map fun v => v.category).sum ≤ 8) (hd : decode (q_cc M) pc = .ok (.invokestatic idx, 3))
    (h : q_Wc G Mc As A K' q_nX) (hk : ∀ v A', K' v A' → q_Wp G M K X (k + (q_rm Mc).cells) (n + (q_rm Mc).slots) (pc + 3) lo (v.toList ++ st) A') : q_Wp G M K X k n pc lo stk A := by
  intro p e s m args below meth c C H locs ls hR hS hlo
  subst hs
  have C0 := C
  obtain ⟨hx, hb, hr, hml, hown, hts, hlk, hnm, htb, hA, hbs⟩ := C
  have hMO := hm
  obtain ⟨w1, w2, w3, w4, w5, w6⟩ := hm
  refine q_back C0 hS hlo (va_runS (As := As) ⟨hx, hb, hml, hown, hts⟩ h.met (va_cwS z hts (q_goodIn fun w hw => ?_) (q_wsE hh) rfl rfl ⟨w3, w4, w5⟩ hrm) ⟨q_blind, fun U hU hW => q_pre hR hS hA U hU hW⟩ rfl hz hlo.1 rfl (lv_room hcat) hd hf) hk
  unfold va_wsS at hw
  rcases List.mem_append.mp hw with hw | hw
  · simp only [List.mem_cons, List.not_mem_nil, or_false] at hw
    rcases hw with rfl | rfl | rfl
    · exact hl
    · exact hi
    · exact w2
  · exact q_wsU hMO w hw
/-- a constructor, by an ordinary link or by a nest mate's -/
theorem q_callI {idx z b : Nat} {As stk : List Value} (hm : q_MO Mc z) (hi : Cond.instanceMethod Mc.1 ∈ q_UW) (hl : q_CL M.1.cls idx Mc ∨ ∃ host, Cond.methodLinkNest M.1.cls idx Mc.1 host ∈ q_NW) (hh : q_hh Mc = []) (hni : Mc.1.name = "<init>") (hrt : q_rt Mc = none) (hz : As.length = z)
    (hrm : (q_rm Mc).frames + 1 ≤ (q_rm M).frames ∧ 8 + (q_ml Mc + 11) + (q_rm Mc).locals ≤ (q_rm M).locals) (hf : k + (q_rm Mc).cells ≤ (q_rm M).cells ∧ n + (q_rm Mc).slots ≤ (q_rm M).slots) (hs : stk = As.reverse ++ .ref b :: st) (hcat : (st.map fun v => v.category).sum ≤ 8) (hd : decode (q_cc M) pc = .ok (.invokespecial idx, 3))
    (h : q_Wc G Mc (.ref b :: As) A K' q_nX) (hk : ∀ v A', K' v A' → q_Wp G M K X (k + (q_rm Mc).cells) (n + (q_rm Mc).slots) (pc + 3) lo (v.toList ++ st) A') : q_Wp G M K X k n pc lo stk A := by
  intro p e s m args below meth c C H locs ls hR hS hlo
  subst hs
  have C0 := C
  obtain ⟨hx, hb, hr, hml, hown, hts, hlk, hnm, htb, hA, hbs⟩ := C
  have hMO := hm
  obtain ⟨w1, w2, w3, w4, w5, w6⟩ := hm
  have hE : q_ws Mc = Cond.code Mc.1 (q_cc Mc) (q_ml Mc) none :: q_UW := by rw [q_wsE hh, show q_rt Mc = none from hrt]
  rcases hl with hl | ⟨host, hl⟩
  · exact q_back C0 hS hlo (va_runI (As := As) (b := b) ⟨hx, hb, hml, hown, hts⟩ h.met (cwI z hts (q_goodIn (q_wsU hMO)) hE rfl rfl (hts _ w2) (hts _ hl) (hts _ hi) hni ⟨w3, w4, w5⟩ hrm) ⟨q_blind, fun U hU hW => q_pre hR hS hA U hU hW⟩ rfl hz hlo.1 rfl (lv_room hcat) hd hf) hk
  · exact q_back C0 hS hlo (va_runIN (As := As) (b := b) ⟨hx, hb, hml, hown, hts⟩ h.met ⟨va_cnB z hts (q_goodIn (q_wsU hMO)) hE rfl rfl (hA.2.1 _ hl) (hts _ w2) ⟨w3, w4, w5⟩ hrm, hni, hts _ hi⟩ ⟨q_blind, fun U hU hW => q_pre hR hS hA U hU hW⟩ rfl hz hlo.1 rfl (lv_room hcat) hd hf) hk
/-- Object's own constructor -/
theorem q_obj {idx b : Nat} (hw1 : Cond.methodLink M.1.cls idx Lib.objectInit ∈ q_UW) (hw2 : Cond.instanceMethod Lib.objectInit ∈ q_UW) (hw3 : Cond.code Lib.objectInit ⟨#[0xb1]⟩ 1 none ∈ q_UW) (hfr : 1 ≤ (q_rm M).frames) (hlo2 : (st.map fun v => v.category).sum + 12 ≤ (q_rm M).locals) (hd : decode (q_cc M) pc = .ok (.invokespecial idx, 3)) (h : q_Wp G M K X k n (pc + 3) lo st A) : q_Wp G M K X k n pc lo (.ref b :: st) A := by
  intro p e s m args below meth c C H locs ls hR hS hl
  have k2 := h p e s m args below meth c C H locs ls hR hS hl
  obtain ⟨hx, hb, hr, hml, hown, hts, hlk, hnm, htb, hA, hbs⟩ := C
  refine W.objInit hx hb hown (hts _ hw1) (hts _ hw2) (hts _ hw3) rfl (by rw [hml]; exact hl.1) rfl hd hfr (by show 2 * 0 + _ + 12 ≤ _; omega) ?_
  exact k2
/-- 'throw new E("text")' -/
theorem q_throw {ik is ic i : Nat} {cls : String} {q : String × Nat × String × List Int32} (hcls : Bundle.fit cls = true) (hk : Cond.classLink M.1.cls ik cls ∈ q_UW) (hini : Cond.initialized cls ∈ q_UW) (hq : q_txt[i]? = some q) (hq1 : q.1 = M.1.cls) (hq2 : q.2.1 = is)
    (hg1 : ∀ w ∈ (vx_atS M.1.cls ic cls ["java/lang/RuntimeException", "java/lang/Exception"]).filter goodWord, w ∈ q_UW) (hg2 : ∀ w ∈ (vx_atS M.1.cls ic cls ["java/lang/RuntimeException", "java/lang/Exception"]).filter (fun w => !goodWord w), w ∈ q_NW) (hgood : ∀ w ∈ Cond.classLink M.1.cls ik cls :: Cond.initialized cls :: vx_atS M.1.cls ic cls ["java/lang/RuntimeException", "java/lang/Exception"], vx_ot w = true)
    (hh : q_hh M = []) (hrm : 6 ≤ (q_rm M).frames ∧ (st.map fun v => v.category).sum + 82 ≤ (q_rm M).locals) (hf : k + 1 ≤ (q_rm M).cells ∧ n + 6 ≤ (q_rm M).slots)
    (d0 : decode (q_cc M) pc = .ok (.new ik, 3)) (d3 : decode (q_cc M) (pc + 3) = .ok (.dup, 1)) (d4 : decode (q_cc M) (pc + 4) = .ok (.ldc is, 2)) (d6 : decode (q_cc M) (pc + 6) = .ok (.invokespecial ic, 3)) (d9 : decode (q_cc M) (pc + 9) = .ok (.athrow, 1))
    (h : ∀ z, q_sz A ≤ z → X cls (q_grow A z)) : q_Wp G M K X k n pc lo st A := by
  intro p e s m args below meth c C H locs ls hR hS hl
  obtain ⟨hx, hb, hr, hml, hown, hts, hlk, hnm, htb, hA, hbs⟩ := C
  have htbl : ∀ x ∈ c.exceptionTable.toList, covers x (pc + 9) = false := by
    rw [htb, show q_hh M = [] from hh]
    intro x hx
    cases hx
  have hstr := (hA.2.2.2.2.2.1 i q hq).1
  rw [hq1, hq2] at hstr
  refine vx_throwS hx hb hA.1 (names := ["java/lang/RuntimeException", "java/lang/Exception"]) hown hcls (by decide +kernel) (hts _ hk) (hts _ hini) hstr ?_ hgood hA.2.2.2.2.2.2.1 hA.2.2.2.2.2.2.2.1 hS (hl.1.trans hml.symm) d0 d3 d4 d6 d9 htbl (by show 2 + 3 < _; omega) (by show _ + (13 * (2 + 1) + 43) ≤ _; omega) hf.1 hf.2 hlk (fun t hW hz ho => ?_) hS.2.2 hf.1 hf.2
  · exact vx_hat (B := (vx_atS M.1.cls ic cls ["java/lang/RuntimeException", "java/lang/Exception"]).filter (fun w => !goodWord w)) (fun w hw => hts _ (hg1 w hw)) (fun w hw => hw) (fun w hw => va_Nw.use (by have := q_NW_nw (hg2 w hw); cases w <;> first | rfl | (simp [q_nw] at this)) (hA.2.1 _ (hg2 w hw)))
  · have hz2 : q_sz A ≤ t.heap.size := by rw [← hR.1]; exact hz
    refine ⟨q_grow A t.heap.size, (hR.gr hz ho).moved hW, ?_, h _ hz2⟩
    exact ⟨Nat.le_trans hS.1 hz, fun q g1 g2 => (ho q (Nat.lt_of_lt_of_le g1 hS.1)).trans (hS.2.1 q g1 g2)⟩
end QC
end
section
/-! MORE ROWS: what comes back of a call; calls that may throw, caught; methods with handlers; clone, checkcast; a text's fields -/
section QO
variable {G : q_G} {M Mc : q_M} {K K' : Option Value → q_H → Prop} {X X' : String → q_H → Prop} {k n pc : Nat} {lo lo' : List (Option Value)} {st st' : List Value} {A : q_H}
theorem q_fV {P : Option Value → q_H → Prop} {f : q_H → Prop} (hk : ∀ A', f A' → P none A') : ∀ v A', q_KV f v A' → P v A' := fun _ A' ⟨e, h⟩ => e ▸ hk A' h
theorem q_fI {P : Option Value → q_H → Prop} {f : Int32 → q_H → Prop} (hk : ∀ r A', f r A' → P (some (.int r)) A') : ∀ v A', q_KI f v A' → P v A' := fun _ A' ⟨r, e, h⟩ => e ▸ hk r A' h
theorem q_fB {P : Option Value → q_H → Prop} {f : Bool → q_H → Prop} (hk : ∀ r A', f r A' → P (some (.int (q_i r))) A') : ∀ v A', q_KB f v A' → P v A' := fun _ A' ⟨r, e, h⟩ => e ▸ hk r A' h
theorem q_fL {P : Option Value → q_H → Prop} {f : Int64 → q_H → Prop} (hk : ∀ r A', f r A' → P (some (.long r)) A') : ∀ v A', q_KL f v A' → P v A' := fun _ A' ⟨r, e, h⟩ => e ▸ hk r A' h
theorem q_fF {P : Option Value → q_H → Prop} {f : UInt32 → q_H → Prop} (hk : ∀ r A', f r A' → P (some (.float r)) A') : ∀ v A', q_KF f v A' → P v A' := fun _ A' ⟨r, e, h⟩ => e ▸ hk r A' h
theorem q_fD {P : Option Value → q_H → Prop} {f : UInt64 → q_H → Prop} (hk : ∀ r A', f r A' → P (some (.double r)) A') : ∀ v A', q_KD f v A' → P v A' := fun _ A' ⟨r, e, h⟩ => e ▸ hk r A' h
theorem q_fR {P : Option Value → q_H → Prop} {f : Option Nat → q_H → Prop} (hn : ∀ A', f none A' → P (some .null) A') (hs : ∀ r A', f (some r) A' → P (some (.ref r)) A') : ∀ v A', q_KR f v A' → P v A' := by
  rintro _ A' ⟨r, rfl, h⟩
  cases r with
  | none => exact hn A' h
  | some a => exact hs a A' h
/-- an exception of kind E, thrown at pc, is caught by the row that leads to hpc -/
def q_hnd (M : q_M) (pc : Nat) (E : String) (hpc : Nat) : Prop := ∃ (pre : List ExceptionTableEntry) (x : ExceptionTableEntry) (suf : List ExceptionTableEntry) (nm : String), tableOf (q_hh M) = pre ++ x :: suf ∧ x.handlerPc = hpc ∧ covers x pc = true ∧ x.catchType ≠ 0 ∧ Cond.classLink M.1.cls x.catchType nm ∈ q_UW ∧ Cond.castable E nm ∈ q_NW ∧
  ∀ z ∈ pre, covers z pc = false ∨ (z.catchType ≠ 0 ∧ ∃ nm2 : String, Cond.classLink M.1.cls z.catchType nm2 ∈ q_UW ∧ (E, nm2) ∈ q_ncs)
theorem q_callVX {idx z ci b N : Nat} {T : u_T} {As stk : List Value} (hm : q_MO Mc z) (hi : q_MI Mc) (hl : q_CL M.1.cls idx Mc) (hh : q_hh Mc = []) (hc : vwCl[ci]? = some (Mc.1.cls, T, N)) (hci : ci < 49) (hz : As.length = z)
    (hrm : (q_rm Mc).frames + 1 ≤ (q_rm M).frames ∧ 8 + (q_ml Mc + 11) + (q_rm Mc).locals ≤ (q_rm M).locals) (hf : k + (q_rm Mc).cells ≤ (q_rm M).cells ∧ n + (q_rm Mc).slots ≤ (q_rm M).slots) (hs : stk = As.reverse ++ .ref b :: st) (hcat : (st.map fun v => v.category).sum ≤ 8) (hd : decode (q_cc M) pc = .ok (.invokevirtual idx, 3))
    (hsh : q_sh A b = (ci + 1, 0)) (h : q_Wc G Mc (.ref b :: As) A K' X') (hk : ∀ v A', K' v A' → q_Wp G M K X (k + (q_rm Mc).cells) (n + (q_rm Mc).slots) (pc + 3) lo (v.toList ++ st) A')
    (hx : ∀ E A', X' E A' → ∃ hpc, q_hnd M pc E hpc ∧ ∀ q : Nat, q_Wp G M K X (k + (q_rm Mc).cells) (n + (q_rm Mc).slots) hpc lo [.ref q] A') : q_Wp G M K X k n pc lo stk A := by
  intro p e s m args below meth c C H locs ls hR hS hlo
  subst hs
  have C0 := C
  obtain ⟨hxx, hb, hr, hml, hown, hts, hlk, hnm, htb, hA, hbs⟩ := C
  have hMO := hm
  obtain ⟨w1, w2, w3, w4, w5, w6⟩ := hm
  have hrun := vx_runV (R := q_rm M) (l := q_l G) (e := e) (below := below) (meth := meth) (locs := locs) (cells := k) (slots := n) (H := H) (g := F0 m pc ls (As.reverse ++ .ref b :: st)) (rest := st) (As := As) (b := b) ⟨hxx, hb, hml, hown, hts⟩ h (cwV (R := q_rm M) (index := idx) (own := M.1.cls) z hts (q_goodIn fun w hw => by
    unfold wsV at hw
    rcases List.mem_append.mp hw with hw | hw
    · simp only [List.mem_cons, List.not_mem_nil, or_false] at hw
      rcases hw with rfl | rfl | rfl | rfl
      · exact hl
      · exact hi.1
      · exact hi.2
      · exact w2
    · exact q_wsU hMO w hw) (q_wsE hh) rfl rfl ⟨rfl, w3, w4, w5⟩ hrm) ⟨q_blind, va_recv (ci := ci) hR.2.1 (hR.P (q_ent_o hsh hci)) hc (q0 := 0) rfl, fun U hU hW => q_pre hR hS hA U hU hW⟩ rfl hz hlo.1 rfl (lv_room hcat) hd hf
  intro T9 hT XX
  rcases hrun T9 hT XX with ⟨v, s0, t, T', L, h0, X2, hL, e1, e2, ⟨v', A', hv, hR', hF, hK⟩, stp⟩ | ⟨q, s0, t, T', L, E, ce, h0, X2, hL, e1, e2, ⟨A', hR', hF, hXX⟩, hce, hcv, hcl, stp⟩
  · cases hv
    have hal : s.vm.Alike T'.vm := X2.warmed.alike
    obtain ⟨k1, k2, k3⟩ := vx_keep h0 e1 hS (fun q _ h => h) (fun q h => h) hL hF
    obtain ⟨t2, a1, b1⟩ := hk v A' hK p e s m args below meth c C0 T'.heap (locs ++ L) ls (by rw [e1]; exact hR'.moved (by rw [← e2]; exact hal.symm)) k3 hlo T' rfl X2
    exact ⟨t2, stp t2 a1, b1⟩
  · have hal : s.vm.Alike T'.vm := X2.warmed.alike
    obtain ⟨k1, k2, k3⟩ := vx_keep h0 e1 hS (fun q _ h => h) (fun q h => h) hL hF
    obtain ⟨hpc, ⟨pre, x, suf, nm, g1, g2, g3, g4, g5, g6, g7⟩, hwp⟩ := hx E A' hXX
    have k4 := hwp q p e s m args below meth c C0 T'.heap (locs ++ L) ls (by rw [e1]; exact hR'.moved (by rw [← e2]; exact hal.symm)) k3 hlo
    rw [← g2] at k4
    obtain ⟨t2, a1, b1⟩ := vx_catch hown pre x suf (htb.trans g1) (fun z hz => (g7 z hz).imp id fun ⟨z1, nm2, z2, z3⟩ => ⟨z1, nm2, hts _ z2, hA.2.2.2.1 (E, nm2) z3⟩) g3 g4 (hts _ g5) (va_Nw.use (by rfl) (hA.2.1 _ g6)) (by rw [e1]; exact hce) hcv hcl (pc := pc) (rest := st) k4 T' rfl X2
    exact ⟨t2, stp.trans a1, b1⟩
/-- the contract of a method with handlers -/
theorem q_Wc.ofH {as : List Value} (lo : List (Option Value)) (hp : plainName M.1.cls = true) (hh : ∃ h t, q_hh M = h :: t) (hle : (q_arg as).length ≤ q_ml M) (hlo : q_arg as ++ List.replicate (q_ml M - (q_arg as).length) none = lo)
    (h : q_Wp G M K X 0 0 0 lo [] A) : q_Wc G M as A K X := by
  subst hlo
  obtain ⟨h9, t9, hh⟩ := hh
  have e9 : q_hd M = Cond.codeWith M.1 (q_cc M) (q_ml M) (q_rt M) (q_hh M) := by
    unfold q_hd
    split
    · rename_i h8; exact absurd ((show q_hh M = [] from h8).symm.trans hh) (by simp)
    · rename_i h8; rw [show q_hh M = _ from h8]
  refine vx_ofWH (cc := q_cc M) (maxL := q_ml M) (ret := q_rt M) (hh := q_hh M) (ws' := q_UW) hp ?_ ?_
  · show q_hd M :: q_UW = _
    rw [e9]
  · intro p e s m args below meth c s₁ B hml hv
    obtain ⟨rfl, hR, hA⟩ := hv
    rw [lg_entry_eq]
    exact h p e s m as.toArray below meth c ⟨B.exec, B.bytes, B.returns, hml, findClass_of_methodNamed B.named, fun w hw => atoms_spec (ws := q_ws M) B.pre w (List.mem_cons_of_mem _ hw), B.notSynchronized, (name_of_methodNamed B.named B.method).1, vx_table (x := M.1) B (e9 ▸ atoms_spec (ws := q_ws M) B.pre (q_hd M) List.mem_cons_self), hA, hR.2.2.2⟩ s.heap [] _ hR va_S.rf (q_has.entry as hle)
theorem q_wsH (hh : ∃ h t, q_hh Mc = h :: t) : q_ws Mc = Cond.codeWith Mc.1 (q_cc Mc) (q_ml Mc) (q_rt Mc) (q_hh Mc) :: q_UW := by
  obtain ⟨h9, t9, hh⟩ := hh
  show q_hd Mc :: q_UW = _
  have e9 : q_hd Mc = Cond.codeWith Mc.1 (q_cc Mc) (q_ml Mc) (q_rt Mc) (q_hh Mc) := by
    unfold q_hd
    split
    · rename_i h8; exact absurd ((show q_hh Mc = [] from h8).symm.trans hh) (by simp)
    · rename_i h8; rw [show q_hh Mc = _ from h8]
  rw [e9]
theorem q_callSH {idx z : Nat} {As stk : List Value} (hm : q_MO Mc z) (hi : Cond.static Mc.1 ∈ q_UW) (hl : q_CL M.1.cls idx Mc) (hh : ∃ h t, q_hh Mc = h :: t) (hz : As.length = z)
    (hrm : (q_rm Mc).frames + 1 ≤ (q_rm M).frames ∧ 8 + (q_ml Mc + 11) + (q_rm Mc).locals ≤ (q_rm M).locals) (hf : k + (q_rm Mc).cells ≤ (q_rm M).cells ∧ n + (q_rm Mc).slots ≤ (q_rm M).slots) (hs : stk = As.reverse ++ st) (hcat : (st.map fun v => v.category).sum ≤ 8) (hd : decode (q_cc M) pc = .ok (.invokestatic idx, 3))
    (h : q_Wc G Mc As A K' q_nX) (hk : ∀ v A', K' v A' → q_Wp G M K X (k + (q_rm Mc).cells) (n + (q_rm Mc).slots) (pc + 3) lo (v.toList ++ st) A') : q_Wp G M K X k n pc lo stk A := by
  intro p e s m args below meth c C H locs ls hR hS hlo
  subst hs
  have C0 := C
  obtain ⟨hx, hb, hr, hml, hown, hts, hlk, hnm, htb, hA, hbs⟩ := C
  have hMO := hm
  obtain ⟨w1, w2, w3, w4, w5, w6⟩ := hm
  refine q_back C0 hS hlo (vx_runSW (As := As) ⟨hx, hb, hml, hown, hts⟩ h.met (vx_cwSW z hts (q_goodIn fun w hw => ?_) (q_wsH hh) rfl rfl ⟨w3, w4, w5⟩ hrm) ⟨q_blind, fun U hU hW => q_pre hR hS hA U hU hW⟩ rfl hz hlo.1 rfl (lv_room hcat) hd hf) hk
  unfold va_wsS at hw
  rcases List.mem_append.mp hw with hw | hw
  · simp only [List.mem_cons, List.not_mem_nil, or_false] at hw
    rcases hw with rfl | rfl | rfl
    · exact hl
    · exact hi
    · exact w2
  · exact q_wsU hMO w hw
theorem q_fcI {U : State} (h : va_K (q_Dg G) vwCl (q_tys G) U) : U.vm.findClass "[I" = some (q_tA G 50) := (h.2 0 _ rfl).2
/-- a clone of a static row, and the cast behind it -/
theorem q_cloneS {idx i : Nat} (hi : i < 3) (hl : Cond.methodLink M.1.cls idx ⟨"[I", "clone", "()Ljava/lang/Object;"⟩ ∈ q_UW) (hw1 : Cond.sameMethod "[I" "java/lang/Object" "clone" "()Ljava/lang/Object;" ∈ q_UW) (hw2 : Cond.native ⟨"java/lang/Object", "clone", "()Ljava/lang/Object;"⟩ ∈ q_UW) (hw3 : Cond.instanceMethod ⟨"java/lang/Object", "clone", "()Ljava/lang/Object;"⟩ ∈ q_UW) (hw4 : Cond.selects "[I" ⟨"[I", "clone", "()Ljava/lang/Object;"⟩ ⟨"java/lang/Object", "clone", "()Ljava/lang/Object;"⟩ ∈ q_UW) (hw5 : Cond.castable "[I" "java/lang/Cloneable" ∈ q_NW)
    (hfr : 1 ≤ (q_rm M).frames) (hlo2 : (st.map fun v => v.category).sum + 14 ≤ (q_rm M).locals) (h1 : k + 1 ≤ (q_rm M).cells) (h2 : n + 8 ≤ (q_rm M).slots) (hd : decode (q_cc M) pc = .ok (.invokevirtual idx, 3)) (h : q_Wp G M K X (k + 1) (n + 8) (pc + 3) lo (.ref (q_sz A) :: st) (q_rowI (q_new A 50 8) (q_sz A) (fun j => (q_sval i).getD j 0))) : q_Wp G M K X k n pc lo (.ref (q_st G i) :: st) A := by
  intro p e s m args below meth c C H locs ls hR hS hl2
  have k2 := h p e s m args below meth c C
  obtain ⟨hx, hb, hr, hml, hown, hts, hlk, hnm, htb, hA, hbs⟩ := C
  have hcs : H[q_st G i]? = some (vp_cell (q_tA G 50) (8, .inl (fun j => (q_sval i).getD j 0))) := (hA.2.2.2.2.1 i hi).now hS 0 _ rfl
  generalize hff : (fun j => (q_sval i).getD j 0) = ff at hcs k2
  have hfc := q_fcI hR.2.1
  obtain ⟨c0, t0', f1, f2, f3⟩ := Cond.castable_spec (va_Nw.use (A := args) (by rfl) (hA.2.1 _ hw5))
  cases hfc.symm.trans f1
  intro T hT XX
  have hcellT : T.heap[q_st G i]? = some (vp_cell (q_tA G 50) (8, .inl ff)) := by rw [hT]; exact hcs
  obtain ⟨-, kA, hkA, comp, hkind⟩ := State.isArrayOf_alike XX.warmed.alike ((hR.2.1.2 0 _ rfl).1 0 (fun _ => .null))
  obtain ⟨-, kS, hkS, compS, hkindS⟩ := (hR.2.1.2 0 _ rfl).1 0 (fun _ => .null)
  have hsz : (vp_cell (q_tA G 50) (8, .inl ff)).slots.size = 8 := arrV_size _ _ _
  obtain ⟨vm', X', stp⟩ := XX.cloneArray hx hown (hts _ hl) (hts _ hw1) (hts _ hw2) (hts _ hw3) (hts _ hw4) (a := q_st G i) (cell := vp_cell (q_tA G 50) (8, .inl ff)) hcellT (fun k h => by cases h) (fun h => by cases h) hfc f2 f3
    (fun j v hv => by
      have hk' : T.vm.classes[q_tA G 50]? = some kA := hkA
      have hjl : j < 8 := by rw [← hsz]; exact (Array.getElem?_eq_some_iff.mp hv).1
      have hv2 : v = .int (ff j) := by
        have := arrV_read (q_tA G 50) (fun j => .int (ff j)) hjl
        exact Option.some.inj (hv.symm.trans this)
      subst hv2
      have e9 : (vp_cell (q_tA G 50) (8, .inl ff)).cls = q_tA G 50 := rfl
      simp [State.fitsSlot, State.slotType?, e9, hk', hkind, fits])
    (g := F0 m pc ls (.ref (q_st G i) :: st)) rfl (by rw [hml]; exact hl2.1) rfl (by rw [hb]; exact hd) hfr (by show 2 * 0 + _ + 14 ≤ _; omega) h1 (by rw [hsz]; exact h2) (hloader := Vm.clonesLoader_of_array hkS hkindS)
  have hcellE : ({ cls := (vp_cell (q_tA G 50) (8, .inl ff)).cls, slots := (vp_cell (q_tA G 50) (8, .inl ff)).slots } : Cell) = vp_cell (q_tA G 50) (8, .inl ff) := rfl
  rw [hcellE, hsz] at X'
  generalize hH1 : H.push (vp_cell (q_tA G 50) (8, .inl ff)) = H1
  have z1 : H1.size = H.size + 1 := by rw [← hH1, Array.size_push]
  have e1 : H1[H.size]? = some (vp_cell (q_tA G 50) (8, .inl ff)) := by rw [← hH1, Array.getElem?_push_size]
  have o1 : ∀ q : Nat, q < H.size → H1[q]? = H[q]? := fun q hq => by rw [← hH1, Array.getElem?_push, if_neg (Nat.ne_of_lt hq)]
  have hnew : q_Rep G (q_rowI (q_new A 50 8) (q_sz A) ff) s H1 := by
    refine ⟨by rw [z1, hR.1]; rfl, hR.2.1, fun b ee hb2 => ?_, by rw [z1]; exact Nat.le_succ_of_le hR.2.2.2⟩
    by_cases hba : b = q_sz A
    · subst hba
      have hh : q_ent G (q_rowI (q_new A 50 8) (q_sz A) ff) (q_sz A) = some (.inl (q_tA G 50, 8, .inl ff)) := by
        rw [q_ent_i (A := q_rowI (q_new A 50 8) (q_sz A) ff) (q_shn A 50 8), q_I_rowI, q_rw_s]
      cases hh.symm.trans hb2
      exact ⟨by rw [← hR.1]; exact hR.2.2.2, by rw [← hR.1]; exact e1⟩
    · have hx2 : q_ent G (q_rowI (q_new A 50 8) (q_sz A) ff) b = q_ent G A b := by
        rw [q_ent_rowI hba]
        exact q_ent_cg (by rw [q_sh_new, if_neg hba]) (by rw [q_I_new, q_rw_a _ _ _ hba]) (by rw [q_R_new, q_rw_a _ _ _ hba]) (by rw [q_L_new, q_rw_a _ _ _ hba]) (by rw [q_D_new, q_rw_a _ _ _ hba])
      rw [hx2] at hb2
      exact ⟨(hR.2.2.1 b ee hb2).1, ((hR.2.2.1 b ee hb2).2).kept (o1 b (hR.lt hb2))⟩
  obtain ⟨t, b1, b2⟩ := k2 H1 _ ls hnew ⟨Nat.le_trans hS.1 (by omega), fun y g1 g2 => (o1 y (Nat.lt_of_lt_of_le g1 hS.1)).trans (hS.2.1 y g1 g2), hS.2.2⟩ hl2 ((T.setVm vm').pushCell (vp_cell (q_tA G 50) (8, .inl ff))) (by rw [← hH1, ← hT]; rfl) X'
  refine ⟨t, stp t ?_, b2⟩
  rw [hcellE, hT, hR.1]
  exact b1
theorem q_castI {idx a z : Nat} (hl : Cond.classLink M.1.cls idx "[I" ∈ q_UW) (hd : decode (q_cc M) pc = .ok (.checkcast idx, 3)) (hsh : q_sh A a = (50, z)) (h : q_Wp G M K X k n (pc + 3) lo (.ref a :: st) A) : q_Wp G M K X k n pc lo (.ref a :: st) A := by
  intro p e s m args below meth c C H locs ls hR hS hl2
  have k2 := h p e s m args below meth c C H locs ls hR hS hl2
  obtain ⟨hx, hb, hr, hml, hown, hts, hlk, hnm, htb, hA, hbs⟩ := C
  exact va_castA hx hb hown (hts _ hl) (hR.P (q_ent_i hsh)) 0 rfl (q_fcI hR.2.1) hd k2
/-- a text's own members -/
theorem q_strV {idx i : Nat} {q : String × Nat × String × List Int32} (hq : q_txt[i]? = some q) (hw : Cond.fieldLink M.1.cls idx "java/lang/String" "value" "[B" ∈ q_UW) (hd : decode (q_cc M) pc = .ok (.getfield idx, 3)) (h : q_Wp G M K X k n (pc + 3) lo (.ref (q_aV G i) :: st) A) : q_Wp G M K X k n pc lo (.ref (q_aK G i) :: st) A := by
  intro p e s m args below meth c C H locs ls hR hS hl
  have k2 := h p e s m args below meth c C H locs ls hR hS hl
  obtain ⟨hx, hb, hr, hml, hown, hts, hlk, hnm, htb, hA, hbs⟩ := C
  exact vk_getf hx hb (hA.2.2.2.2.2.1 i q hq).2.2.2.1 hS hown (hts _ hw) (fun _ h9 => h9) hd k2
theorem q_strC {idx i : Nat} {q : String × Nat × String × List Int32} (hq : q_txt[i]? = some q) (hw : Cond.fieldLink M.1.cls idx "java/lang/String" "coder" "B" ∈ q_UW) (hd : decode (q_cc M) pc = .ok (.getfield idx, 3)) (h : q_Wp G M K X k n (pc + 3) lo (.int 0 :: st) A) : q_Wp G M K X k n pc lo (.ref (q_aK G i) :: st) A := by
  intro p e s m args below meth c C H locs ls hR hS hl
  have k2 := h p e s m args below meth c C H locs ls hR hS hl
  obtain ⟨hx, hb, hr, hml, hown, hts, hlk, hnm, htb, hA, hbs⟩ := C
  exact vk_getf hx hb (hA.2.2.2.2.2.1 i q hq).2.2.1 hS hown (hts _ hw) (fun _ h9 => h9) hd k2
theorem q_strL {i : Nat} {q : String × Nat × String × List Int32} (hq : q_txt[i]? = some q) (hd : decode (q_cc M) pc = .ok (.arraylength, 1)) (h : q_Wp G M K X k n (pc + 1) lo (.int (nI q.2.2.2.length) :: st) A) : q_Wp G M K X k n pc lo (.ref (q_aV G i) :: st) A := by
  intro p e s m args below meth c C H locs ls hR hS hl
  have k2 := h p e s m args below meth c C H locs ls hR hS hl
  obtain ⟨hx, hb, hr, hml, hown, hts, hlk, hnm, htb, hA, hbs⟩ := C
  exact va_tlen hx hb (hA.2.2.2.2.2.1 i q hq).2.2.2.2 hS rfl hd k2
theorem q_strB {i j : Nat} {x : Int32} {q : String × Nat × String × List Int32} (hq : q_txt[i]? = some q) (e : x = nI j) (hj : j < q.2.2.2.length) (hj2 : q.2.2.2.length < 2147483648) (hd : decode (q_cc M) pc = .ok (.baload, 1)) (h : q_Wp G M K X k n (pc + 1) lo (.int (q.2.2.2.getD j 0) :: st) A) : q_Wp G M K X k n pc lo (.int x :: .ref (q_aV G i) :: st) A := by
  intro p ee s m args below meth c C H locs ls hR hS hl
  have k2 := h p ee s m args below meth c C H locs ls hR hS hl
  obtain ⟨hx, hb, hr, hml, hown, hts, hlk, hnm, htb, hA, hbs⟩ := C
  subst e
  exact va_tb hx hb (hA.2.2.2.2.2.1 i q hq).2.2.2.2 hS (vp_in_nI hj hj2) (by rw [nI_clamp (Nat.lt_trans hj hj2)]) hd k2
theorem q_getCS {idx : Nat} (hw : Cond.fieldLink M.1.cls idx RJ0 "COMPACT_STRINGS" "Z" ∈ q_UW) (hd : decode (q_cc M) pc = .ok (.getstatic idx, 3)) (h : q_Wp G M K X k n (pc + 3) lo (.int 1 :: st) A) : q_Wp G M K X k n pc lo st A := by
  intro p e s m args below meth c C H locs ls hR hS hl2
  have k2 := h p e s m args below meth c C H locs ls hR hS hl2
  obtain ⟨hx, hb, hr, hml, hown, hts, hlk, hnm, htb, hA, hbs⟩ := C
  exact va_gets hx hb hA.2.2.2.2.2.2.2.2.2.2.1 hS hown (hts _ hw) (fun _ h9 => h9) hd k2
theorem q_getFo {idx : Nat} (hw : Cond.fieldLink M.1.cls idx RJ3 "SIOOBE_FORMATTER" "Ljava/util/function/BiFunction;" ∈ q_UW) (hd : decode (q_cc M) pc = .ok (.getstatic idx, 3)) (h : ∀ t : Nat, q_Wp G M K X k n (pc + 3) lo (.ref t :: st) A) : q_Wp G M K X k n pc lo st A := by
  intro p e s m args below meth c C H locs ls hR hS hl2
  have k2 := fun t => h t p e s m args below meth c C H locs ls hR hS hl2
  obtain ⟨hx, hb, hr, hml, hown, hts, hlk, hnm, htb, hA, hbs⟩ := C
  obtain ⟨t, ht⟩ := hA.2.2.2.2.2.2.2.2.2.2.2
  exact va_gets hx hb ht hS hown (hts _ hw) (fun _ h9 => h9) hd (k2 t)
/-- a call upon a text -/
theorem q_callVS {idx z i : Nat} {q : String × Nat × String × List Int32} {As stk : List Value} (hq : q_txt[i]? = some q) (hm : q_MO Mc z) (hi : q_MI Mc) (hl : q_CL M.1.cls idx Mc) (hh : q_hh Mc = []) (hcls : Mc.1.cls = "java/lang/String") (hz : As.length = z)
    (hrm : (q_rm Mc).frames + 1 ≤ (q_rm M).frames ∧ 8 + (q_ml Mc + 11) + (q_rm Mc).locals ≤ (q_rm M).locals) (hf : k + (q_rm Mc).cells ≤ (q_rm M).cells ∧ n + (q_rm Mc).slots ≤ (q_rm M).slots) (hs : stk = As.reverse ++ .ref (q_aK G i) :: st) (hcat : (st.map fun v => v.category).sum ≤ 8) (hd : decode (q_cc M) pc = .ok (.invokevirtual idx, 3))
    (h : q_Wc G Mc (.ref (q_aK G i) :: As) A K' q_nX) (hk : ∀ v A', K' v A' → q_Wp G M K X (k + (q_rm Mc).cells) (n + (q_rm Mc).slots) (pc + 3) lo (v.toList ++ st) A') : q_Wp G M K X k n pc lo stk A := by
  intro p e s m args below meth c C H locs ls hR hS hlo
  subst hs
  have C0 := C
  obtain ⟨hx, hb, hr, hml, hown, hts, hlk, hnm, htb, hA, hbs⟩ := C
  have hMO := hm
  obtain ⟨w1, w2, w3, w4, w5, w6⟩ := hm
  refine q_back C0 hS hlo (va_runV (As := As) (b := q_aK G i) ⟨hx, hb, hml, hown, hts⟩ h.met (cwV z hts (q_goodIn fun w hw => ?_) (q_wsE hh) rfl rfl ⟨rfl, w3, w4, w5⟩ hrm) ⟨q_blind, ?_, fun U hU hW => q_pre hR hS hA U hU hW⟩ rfl hz hlo.1 rfl (lv_room hcat) hd hf) hk
  · unfold wsV at hw
    rcases List.mem_append.mp hw with hw | hw
    · simp only [List.mem_cons, List.not_mem_nil, or_false] at hw
      rcases hw with rfl | rfl | rfl | rfl
      · exact hl
      · exact hi.1
      · exact hi.2
      · exact w2
    · exact q_wsU hMO w hw
  · obtain ⟨cell, h1, h2, h3, -⟩ := ((hA.2.2.2.2.2.1 i q hq).2.1).kept hS.2.1
    exact ⟨cell, h1, h2, by rw [hcls]; exact h3⟩
end QO
end
section
/-! SWITCHES, TRUTH VALUES, the wide throw -/
section QP
variable {G : q_G} {M : q_M} {K K' : Option Value → q_H → Prop} {X X' : String → q_H → Prop} {k n pc : Nat} {lo lo' : List (Option Value)} {st st' : List Value} {A : q_H}
def q_all : List Nat → Nat → (Nat → Nat → Prop) → Prop
  | [], _, _ => True
  | t :: r, j, P => P j t ∧ q_all r (j + 1) P
theorem q_all_at {P : Nat → Nat → Prop} : ∀ (l : List Nat) (j i t : Nat), q_all l j P → l[i]? = some t → P (j + i) t
  | [], j, i, t, _, h => by simp at h
  | t0 :: r, j, 0, t, h, e => by simp at e; subst e; exact h.1
  | t0 :: r, j, i + 1, t, h, e => by
    have := q_all_at r (j + 1) i t h.2 (by simpa using e)
    rw [show j + (i + 1) = j + 1 + i by omega]
    exact this
def q_tgs (pc : Nat) (offs : Array Int) (tg : List Nat) : Bool := decide (offs.toList = tg.map fun (t : Nat) => (t : Int) - (pc : Int))
theorem q_tsw {x : Int32} {dflt hi : Int} {offs : Array Int} {len : Nat} (tg : List Nat) (dt : Nat) (hd : decode (q_cc M) pc = .ok (.tableswitch dflt 0 hi offs, len)) (hhi : hi = (tg.length : Int) - 1) (hlen : tg.length < 1000) (ho : q_tgs pc offs tg = true) (ht : (pc : Int) + dflt = (dt : Int))
    (h1 : q_all tg 0 fun j t => x = nI j → q_Wp G M K X k n t lo st A) (h2 : (∀ j, j < tg.length → ¬ x = nI j) → q_Wp G M K X k n dt lo st A) : q_Wp G M K X k n pc lo (.int x :: st) A := by
  intro p e s m args below meth c C H locs ls hR hS hl
  by_cases hin : 0 ≤ x.toInt ∧ x.toInt ≤ hi
  · obtain ⟨j, hj⟩ : ∃ j : Nat, x.toInt = (j : Int) := ⟨x.toInt.toNat, by omega⟩
    have hjl : j < tg.length := by omega
    have hx : x = nI j := Int32.toInt_inj.mp (by rw [hj, nI_toInt (by omega)])
    obtain ⟨t, ht2⟩ : ∃ t, tg[j]? = some t := ⟨tg[j], List.getElem?_eq_getElem hjl⟩
    have hk := q_all_at tg 0 j t h1 ht2
    rw [Nat.zero_add] at hk
    unfold q_tgs at ho
    rw [decide_eq_true_eq] at ho
    have ho2 : offs[(x.toInt - 0).toNat]? = some ((t : Int) - (pc : Int)) := by
      rw [hj, show ((j : Int) - 0).toNat = j by omega, ← Array.getElem?_toList, ho]
      simp [ht2]
    exact lv_tableIn C.1 C.2.1 hd (by omega) (by omega) ho2 (by omega) (hk hx p e s m args below meth c C H locs ls hR hS hl)
  · refine lv_tableOut C.1 C.2.1 hd (by omega) ht (h2 (fun j hj hx => hin ?_) p e s m args below meth c C H locs ls hR hS hl)
    rw [hx, nI_toInt (by omega)]
    omega
/-- worthOf's own -/
theorem q_lsw {x : Int32} {dflt o0 o1 : Int} {len : Nat} (t0 t1 dt : Nat) (hd : decode (q_cc M) pc = .ok (.lookupswitch dflt #[(0, o0), (1, o1)], len)) (h0 : (pc : Int) + o0 = (t0 : Int)) (h1 : (pc : Int) + o1 = (t1 : Int)) (ht : (pc : Int) + dflt = (dt : Int))
    (k0 : x = nI 0 → q_Wp G M K X k n t0 lo st A) (k1 : x = nI 1 → q_Wp G M K X k n t1 lo st A) (k2 : ¬ x = nI 0 → ¬ x = nI 1 → q_Wp G M K X k n dt lo st A) : q_Wp G M K X k n pc lo (.int x :: st) A := by
  intro p e s m args below meth c C H locs ls hR hS hl
  by_cases c0 : x = nI 0
  · exact lv_lookup C.1 C.2.1 hd (by rfl) (off := o0) (by rw [c0]; show Op.lookupswitch.offset [(0, o0), (1, o1)] dflt (nI 0).toInt = o0; rw [Op.lookupswitch.offset_cons, if_pos (by decide)]) h0 (k0 c0 p e s m args below meth c C H locs ls hR hS hl)
  · by_cases c1 : x = nI 1
    · exact lv_lookup C.1 C.2.1 hd (by rfl) (off := o1) (by rw [c1]; show Op.lookupswitch.offset [(0, o0), (1, o1)] dflt (nI 1).toInt = o1; rw [Op.lookupswitch.offset_cons, if_neg (by decide), Op.lookupswitch.offset_cons, if_pos (by decide)]) h1 (k1 c1 p e s m args below meth c C H locs ls hR hS hl)
    · refine lv_lookup C.1 C.2.1 hd (by rfl) (off := dflt) ?_ ht (k2 c0 c1 p e s m args below meth c C H locs ls hR hS hl)
      show Op.lookupswitch.offset [(0, o0), (1, o1)] dflt x.toInt = dflt
      rw [lv_osw c0 (by decide), lv_osw c1 (by decide)]
      rfl
theorem q_ib0 {b : Bool} : q_i b = 0 ↔ b = false := by cases b <;> decide
theorem q_ifB_eq {b : Bool} {off : Int} (tgt : Nat) (hd : decode (q_cc M) pc = .ok (.ifCond .eq off, 3)) (ht : (pc : Int) + off = (tgt : Int)) (h1 : b = false → q_Wp G M K X k n tgt lo st A) (h2 : b = true → q_Wp G M K X k n (pc + 3) lo st A) : q_Wp G M K X k n pc lo (.int (q_i b) :: st) A :=
  q_if_eq tgt hd ht (fun c => h1 (q_ib0.mp c)) (fun c => h2 (by cases b with | true => rfl | false => exact absurd rfl c))
theorem q_ifB_ne {b : Bool} {off : Int} (tgt : Nat) (hd : decode (q_cc M) pc = .ok (.ifCond .ne off, 3)) (ht : (pc : Int) + off = (tgt : Int)) (h1 : b = true → q_Wp G M K X k n tgt lo st A) (h2 : b = false → q_Wp G M K X k n (pc + 3) lo st A) : q_Wp G M K X k n pc lo (.int (q_i b) :: st) A :=
  q_if_ne tgt hd ht (fun c => h1 (by cases b with | true => rfl | false => exact absurd rfl c)) (fun c => h2 (q_ib0.mp c))
theorem q_throwW {ik is ic i : Nat} {cls : String} {q : String × Nat × String × List Int32} (hcls : Bundle.fit cls = true) (hk : Cond.classLink M.1.cls ik cls ∈ q_UW) (hini : Cond.initialized cls ∈ q_UW) (hq : q_txt[i]? = some q) (hq1 : q.1 = M.1.cls) (hq2 : q.2.1 = is)
    (hg1 : ∀ w ∈ (vx_atS M.1.cls ic cls ["java/lang/RuntimeException", "java/lang/Exception"]).filter goodWord, w ∈ q_UW) (hg2 : ∀ w ∈ (vx_atS M.1.cls ic cls ["java/lang/RuntimeException", "java/lang/Exception"]).filter (fun w => !goodWord w), w ∈ q_NW) (hgood : ∀ w ∈ Cond.classLink M.1.cls ik cls :: Cond.initialized cls :: vx_atS M.1.cls ic cls ["java/lang/RuntimeException", "java/lang/Exception"], vx_ot w = true)
    (hh : q_hh M = []) (hrm : 6 ≤ (q_rm M).frames ∧ (st.map fun v => v.category).sum + 82 ≤ (q_rm M).locals) (hf : k + 1 ≤ (q_rm M).cells ∧ n + 6 ≤ (q_rm M).slots)
    (d0 : decode (q_cc M) pc = .ok (.new ik, 3)) (d3 : decode (q_cc M) (pc + 3) = .ok (.dup, 1)) (d4 : decode (q_cc M) (pc + 4) = .ok (.ldc_w is, 3)) (d7 : decode (q_cc M) (pc + 7) = .ok (.invokespecial ic, 3)) (d10 : decode (q_cc M) (pc + 10) = .ok (.athrow, 1))
    (h : ∀ z, q_sz A ≤ z → X cls (q_grow A z)) : q_Wp G M K X k n pc lo st A := by
  intro p e s m args below meth c C H locs ls hR hS hl
  obtain ⟨hx, hb, hr, hml, hown, hts, hlk, hnm, htb, hA, hbs⟩ := C
  have htbl : ∀ x ∈ c.exceptionTable.toList, covers x (pc + 10) = false := by
    rw [htb, show q_hh M = [] from hh]
    intro x hx
    cases hx
  have hstr := (hA.2.2.2.2.2.1 i q hq).1
  rw [hq1, hq2] at hstr
  refine vx_throwSW hx hb hA.1 (names := ["java/lang/RuntimeException", "java/lang/Exception"]) hown hcls (by decide +kernel) (hts _ hk) (hts _ hini) hstr ?_ hgood hA.2.2.2.2.2.2.1 hA.2.2.2.2.2.2.2.1 hS (hl.1.trans hml.symm) d0 d3 d4 d7 d10 htbl (by show 2 + 3 < _; omega) (by show _ + (13 * (2 + 1) + 43) ≤ _; omega) hf.1 hf.2 hlk (fun t hW hz ho => ?_) hS.2.2 hf.1 hf.2
  · exact vx_hat (B := (vx_atS M.1.cls ic cls ["java/lang/RuntimeException", "java/lang/Exception"]).filter (fun w => !goodWord w)) (fun w hw => hts _ (hg1 w hw)) (fun w hw => hw) (fun w hw => va_Nw.use (by have := q_NW_nw (hg2 w hw); cases w <;> first | rfl | (simp [q_nw] at this)) (hA.2.1 _ (hg2 w hw)))
  · have hz2 : q_sz A ≤ t.heap.size := by rw [← hR.1]; exact hz
    refine ⟨q_grow A t.heap.size, (hR.gr hz ho).moved hW, ?_, h _ hz2⟩
    exact ⟨Nat.le_trans hS.1 hz, fun q g1 g2 => (ho q (Nat.lt_of_lt_of_le g1 hS.1)).trans (hS.2.1 q g1 g2)⟩
end QP
section QZ
variable {G : q_G} {M : q_M} {K : Option Value → q_H → Prop} {X : String → q_H → Prop} {k n pc : Nat} {lo lo' : List (Option Value)} {st st' : List Value} {A : q_H}
theorem q_aaldS {a j z cc r : Nat} {i : Int32} (hc : q_Rk G cc) (e : i = nI j) (hd : decode (q_cc M) pc = .ok (.aaload, 1)) (hsh : q_sh A a = (60 + cc, z)) (hj : j < z) (hz : z < 2147483648) (hr : q_R A a j = some r) (h : q_Wp G M K X k n (pc + 1) lo (.ref r :: st) A) : q_Wp G M K X k n pc lo (.int i :: .ref a :: st) A :=
  q_aald hc e hd hsh hj hz (by rw [hr]; exact h)
theorem q_aaldN {a j z cc : Nat} {i : Int32} (hc : q_Rk G cc) (e : i = nI j) (hd : decode (q_cc M) pc = .ok (.aaload, 1)) (hsh : q_sh A a = (60 + cc, z)) (hj : j < z) (hz : z < 2147483648) (hr : q_R A a j = none) (h : q_Wp G M K X k n (pc + 1) lo (.null :: st) A) : q_Wp G M K X k n pc lo (.int i :: .ref a :: st) A :=
  q_aald hc e hd hsh hj hz (by rw [hr]; exact h)
end QZ
end
section
/-! WORDS -/
set_option maxRecDepth 50000
theorem q_ckw {C : String} {T : u_T} {N : Nat} (h : ∀ k, k < N → u_lay C T k ∈ q_UW) : ∀ w ∈ u_ws C T N, w ∈ q_UW := by
  intro w hw
  obtain ⟨k, hk, rfl⟩ := List.mem_map.mp hw
  exact h k (List.mem_range.mp hk)
theorem q_inU {L : List Cond} (h : (L.all fun w => q_UW.contains w) = true) : ∀ w ∈ L, w ∈ q_UW := fun w hw => by
  have := List.all_eq_true.mp h w hw
  simpa using this
theorem q_inN {L : List Cond} (h : (L.all fun w => q_NW.contains w) = true) : ∀ w ∈ L, w ∈ q_NW := fun w hw => by
  have := List.all_eq_true.mp h w hw
  simpa using this
theorem q_nz (b : Bool) : narrow .boolean (.int (q_i b)) = .int (q_i b) := by cases b <;> rfl
theorem q_kdI0 : ∀ k, (q_kd 0)[k]? = some false → tyX0 k = .int := fun k h => match k, h with
  | 0, h => rfl
  | 1, h => rfl
  | 2, h => rfl
  | 3, h => rfl
  | 4, h => by cases h
  | _ + 5, h => absurd h (by simp [q_kd])
theorem q_kdR0 : ∀ k, (q_kd 0)[k]? = some true → (∃ n, tyX0 k = .object n) ∨ ∃ t, tyX0 k = .array t := fun k h => match k, h with
  | 0, h => by cases h
  | 1, h => by cases h
  | 2, h => by cases h
  | 3, h => by cases h
  | 4, h => Or.inl ⟨_, rfl⟩
  | _ + 5, h => absurd h (by simp [q_kd])
theorem q_kdI1 : ∀ k, (q_kd 1)[k]? = some false → tyX1 k = .int := fun k h => match k, h with
  | 0, h => rfl
  | 1, h => rfl
  | 2, h => rfl
  | 3, h => rfl
  | 4, h => rfl
  | 5, h => rfl
  | 6, h => rfl
  | _ + 7, h => absurd h (by simp [q_kd])
theorem q_kdR1 : ∀ k, (q_kd 1)[k]? = some true → (∃ n, tyX1 k = .object n) ∨ ∃ t, tyX1 k = .array t := fun k h => match k, h with
  | 0, h => by cases h
  | 1, h => by cases h
  | 2, h => by cases h
  | 3, h => by cases h
  | 4, h => by cases h
  | 5, h => by cases h
  | 6, h => by cases h
  | _ + 7, h => absurd h (by simp [q_kd])
theorem q_kdI2 : ∀ k, (q_kd 2)[k]? = some false → tyX2 k = .int := fun k h => match k, h with
  | 0, h => by cases h
  | 1, h => rfl
  | _ + 2, h => absurd h (by simp [q_kd])
theorem q_kdR2 : ∀ k, (q_kd 2)[k]? = some true → (∃ n, tyX2 k = .object n) ∨ ∃ t, tyX2 k = .array t := fun k h => match k, h with
  | 0, h => Or.inr ⟨_, rfl⟩
  | 1, h => by cases h
  | _ + 2, h => absurd h (by simp [q_kd])
theorem q_kdI3 : ∀ k, (q_kd 3)[k]? = some false → tyX3 k = .int := fun k h => match k, h with
  | 0, h => by cases h
  | 1, h => rfl
  | 2, h => rfl
  | _ + 3, h => absurd h (by simp [q_kd])
theorem q_kdR3 : ∀ k, (q_kd 3)[k]? = some true → (∃ n, tyX3 k = .object n) ∨ ∃ t, tyX3 k = .array t := fun k h => match k, h with
  | 0, h => Or.inr ⟨_, rfl⟩
  | 1, h => by cases h
  | 2, h => by cases h
  | _ + 3, h => absurd h (by simp [q_kd])
theorem q_kdI4 : ∀ k, (q_kd 4)[k]? = some false → tyX4 k = .int := fun k h => match k, h with
  | 0, h => rfl
  | 1, h => by cases h
  | 2, h => by cases h
  | 3, h => rfl
  | 4, h => by cases h
  | 5, h => rfl
  | 6, h => by cases h
  | 7, h => by cases h
  | 8, h => by cases h
  | 9, h => by cases h
  | 10, h => by cases h
  | 11, h => by cases h
  | _ + 12, h => absurd h (by simp [q_kd])
theorem q_kdR4 : ∀ k, (q_kd 4)[k]? = some true → (∃ n, tyX4 k = .object n) ∨ ∃ t, tyX4 k = .array t := fun k h => match k, h with
  | 0, h => by cases h
  | 1, h => Or.inr ⟨_, rfl⟩
  | 2, h => Or.inr ⟨_, rfl⟩
  | 3, h => by cases h
  | 4, h => Or.inr ⟨_, rfl⟩
  | 5, h => by cases h
  | 6, h => Or.inl ⟨_, rfl⟩
  | 7, h => Or.inl ⟨_, rfl⟩
  | 8, h => Or.inl ⟨_, rfl⟩
  | 9, h => Or.inl ⟨_, rfl⟩
  | 10, h => Or.inl ⟨_, rfl⟩
  | 11, h => Or.inl ⟨_, rfl⟩
  | _ + 12, h => absurd h (by simp [q_kd])
theorem q_kdI5 : ∀ k, (q_kd 5)[k]? = some false → tyX5 k = .int := fun k h => match k, h with
  | 0, h => by cases h
  | 1, h => rfl
  | _ + 2, h => absurd h (by simp [q_kd])
theorem q_kdR5 : ∀ k, (q_kd 5)[k]? = some true → (∃ n, tyX5 k = .object n) ∨ ∃ t, tyX5 k = .array t := fun k h => match k, h with
  | 0, h => Or.inl ⟨_, rfl⟩
  | 1, h => by cases h
  | _ + 2, h => absurd h (by simp [q_kd])
theorem q_kdI6 : ∀ k, (q_kd 6)[k]? = some false → tyX6 k = .int := fun k h => match k, h with
  | 0, h => rfl
  | 1, h => rfl
  | 2, h => rfl
  | 3, h => rfl
  | 4, h => rfl
  | 5, h => rfl
  | 6, h => rfl
  | 7, h => by cases h
  | 8, h => by cases h
  | _ + 9, h => absurd h (by simp [q_kd])
theorem q_kdR6 : ∀ k, (q_kd 6)[k]? = some true → (∃ n, tyX6 k = .object n) ∨ ∃ t, tyX6 k = .array t := fun k h => match k, h with
  | 0, h => by cases h
  | 1, h => by cases h
  | 2, h => by cases h
  | 3, h => by cases h
  | 4, h => by cases h
  | 5, h => by cases h
  | 6, h => by cases h
  | 7, h => Or.inl ⟨_, rfl⟩
  | 8, h => Or.inl ⟨_, rfl⟩
  | _ + 9, h => absurd h (by simp [q_kd])
theorem q_kdI7 : ∀ k, (q_kd 7)[k]? = some false → tyX7 k = .int := fun k h => match k, h with
  | 0, h => by cases h
  | 1, h => rfl
  | _ + 2, h => absurd h (by simp [q_kd])
theorem q_kdR7 : ∀ k, (q_kd 7)[k]? = some true → (∃ n, tyX7 k = .object n) ∨ ∃ t, tyX7 k = .array t := fun k h => match k, h with
  | 0, h => Or.inr ⟨_, rfl⟩
  | 1, h => by cases h
  | _ + 2, h => absurd h (by simp [q_kd])
theorem q_kdI8 : ∀ k, (q_kd 8)[k]? = some false → tyX8 k = .int := fun k h => match k, h with
  | 0, h => rfl
  | 1, h => rfl
  | 2, h => rfl
  | 3, h => rfl
  | 4, h => rfl
  | 5, h => rfl
  | 6, h => rfl
  | 7, h => rfl
  | 8, h => rfl
  | 9, h => rfl
  | _ + 10, h => absurd h (by simp [q_kd])
theorem q_kdR8 : ∀ k, (q_kd 8)[k]? = some true → (∃ n, tyX8 k = .object n) ∨ ∃ t, tyX8 k = .array t := fun k h => match k, h with
  | 0, h => by cases h
  | 1, h => by cases h
  | 2, h => by cases h
  | 3, h => by cases h
  | 4, h => by cases h
  | 5, h => by cases h
  | 6, h => by cases h
  | 7, h => by cases h
  | 8, h => by cases h
  | 9, h => by cases h
  | _ + 10, h => absurd h (by simp [q_kd])
theorem q_kdI9 : ∀ k, (q_kd 9)[k]? = some false → tyX9 k = .int := fun k h => match k, h with
  | 0, h => by cases h
  | 1, h => rfl
  | 2, h => by cases h
  | 3, h => rfl
  | 4, h => rfl
  | 5, h => rfl
  | 6, h => rfl
  | 7, h => rfl
  | _ + 8, h => absurd h (by simp [q_kd])
theorem q_kdR9 : ∀ k, (q_kd 9)[k]? = some true → (∃ n, tyX9 k = .object n) ∨ ∃ t, tyX9 k = .array t := fun k h => match k, h with
  | 0, h => Or.inr ⟨_, rfl⟩
  | 1, h => by cases h
  | 2, h => Or.inl ⟨_, rfl⟩
  | 3, h => by cases h
  | 4, h => by cases h
  | 5, h => by cases h
  | 6, h => by cases h
  | 7, h => by cases h
  | _ + 8, h => absurd h (by simp [q_kd])
theorem q_kdI10 : ∀ k, (q_kd 10)[k]? = some false → tyX10 k = .int := fun k h => match k, h with
  | 0, h => by cases h
  | 1, h => rfl
  | 2, h => by cases h
  | 3, h => by cases h
  | 4, h => by cases h
  | 5, h => rfl
  | 6, h => rfl
  | _ + 7, h => absurd h (by simp [q_kd])
theorem q_kdR10 : ∀ k, (q_kd 10)[k]? = some true → (∃ n, tyX10 k = .object n) ∨ ∃ t, tyX10 k = .array t := fun k h => match k, h with
  | 0, h => Or.inr ⟨_, rfl⟩
  | 1, h => by cases h
  | 2, h => Or.inl ⟨_, rfl⟩
  | 3, h => Or.inl ⟨_, rfl⟩
  | 4, h => Or.inr ⟨_, rfl⟩
  | 5, h => by cases h
  | 6, h => by cases h
  | _ + 7, h => absurd h (by simp [q_kd])
theorem q_kdI11 : ∀ k, (q_kd 11)[k]? = some false → tyX11 k = .int := fun k h => match k, h with
  | 0, h => rfl
  | 1, h => by cases h
  | 2, h => by cases h
  | 3, h => by cases h
  | 4, h => by cases h
  | 5, h => by cases h
  | 6, h => by cases h
  | 7, h => by cases h
  | 8, h => by cases h
  | 9, h => by cases h
  | 10, h => rfl
  | 11, h => by cases h
  | 12, h => rfl
  | 13, h => rfl
  | 14, h => rfl
  | 15, h => rfl
  | 16, h => rfl
  | 17, h => rfl
  | 18, h => rfl
  | 19, h => rfl
  | 20, h => by cases h
  | 21, h => by cases h
  | 22, h => rfl
  | _ + 23, h => absurd h (by simp [q_kd])
theorem q_kdR11 : ∀ k, (q_kd 11)[k]? = some true → (∃ n, tyX11 k = .object n) ∨ ∃ t, tyX11 k = .array t := fun k h => match k, h with
  | 0, h => by cases h
  | 1, h => Or.inr ⟨_, rfl⟩
  | 2, h => Or.inr ⟨_, rfl⟩
  | 3, h => Or.inr ⟨_, rfl⟩
  | 4, h => Or.inr ⟨_, rfl⟩
  | 5, h => Or.inr ⟨_, rfl⟩
  | 6, h => Or.inr ⟨_, rfl⟩
  | 7, h => Or.inr ⟨_, rfl⟩
  | 8, h => Or.inr ⟨_, rfl⟩
  | 9, h => Or.inr ⟨_, rfl⟩
  | 10, h => by cases h
  | 11, h => Or.inr ⟨_, rfl⟩
  | 12, h => by cases h
  | 13, h => by cases h
  | 14, h => by cases h
  | 15, h => by cases h
  | 16, h => by cases h
  | 17, h => by cases h
  | 18, h => by cases h
  | 19, h => by cases h
  | 20, h => Or.inr ⟨_, rfl⟩
  | 21, h => Or.inr ⟨_, rfl⟩
  | 22, h => by cases h
  | _ + 23, h => absurd h (by simp [q_kd])
theorem ck0 : q_CK 0 RX0 TX0 5 := ⟨rfl, q_ckw (fun k hk => match k, hk with
  | 0, _ => (q_uw 225 rfl rfl)
  | 1, _ => (q_uw 227 rfl rfl)
  | 2, _ => (q_uw 229 rfl rfl)
  | 3, _ => (q_uw 231 rfl rfl)
  | 4, _ => (q_uw 233 rfl rfl)
  | _ + 5, hk => absurd hk (by omega)), rfl, nmX0, tyX0, tyX0_ok, q_kdI0, q_kdR0⟩
theorem ck1 : q_CK 1 RX1 TX1 7 := ⟨rfl, q_ckw (fun k hk => match k, hk with
  | 0, _ => (q_uw 384 rfl rfl)
  | 1, _ => (q_uw 386 rfl rfl)
  | 2, _ => (q_uw 388 rfl rfl)
  | 3, _ => (q_uw 390 rfl rfl)
  | 4, _ => (q_uw 392 rfl rfl)
  | 5, _ => (q_uw 394 rfl rfl)
  | 6, _ => (q_uw 396 rfl rfl)
  | _ + 7, hk => absurd hk (by omega)), rfl, nmX1, tyX1, tyX1_ok, q_kdI1, q_kdR1⟩
theorem ck2 : q_CK 2 RX2 TX2 2 := ⟨rfl, q_ckw (fun k hk => match k, hk with
  | 0, _ => (q_uw 158 rfl rfl)
  | 1, _ => (q_uw 160 rfl rfl)
  | _ + 2, hk => absurd hk (by omega)), rfl, nmX2, tyX2, tyX2_ok, q_kdI2, q_kdR2⟩
theorem ck3 : q_CK 3 RX3 TX3 3 := ⟨rfl, q_ckw (fun k hk => match k, hk with
  | 0, _ => (q_uw 185 rfl rfl)
  | 1, _ => (q_uw 187 rfl rfl)
  | 2, _ => (q_uw 189 rfl rfl)
  | _ + 3, hk => absurd hk (by omega)), rfl, nmX3, tyX3, tyX3_ok, q_kdI3, q_kdR3⟩
theorem ck4 : q_CK 4 RX4 TX4 12 := ⟨rfl, q_ckw (fun k hk => match k, hk with
  | 0, _ => (q_uw 429 rfl rfl)
  | 1, _ => (q_uw 431 rfl rfl)
  | 2, _ => (q_uw 433 rfl rfl)
  | 3, _ => (q_uw 435 rfl rfl)
  | 4, _ => (q_uw 437 rfl rfl)
  | 5, _ => (q_uw 439 rfl rfl)
  | 6, _ => (q_uw 441 rfl rfl)
  | 7, _ => (q_uw 443 rfl rfl)
  | 8, _ => (q_uw 445 rfl rfl)
  | 9, _ => (q_uw 447 rfl rfl)
  | 10, _ => (q_uw 449 rfl rfl)
  | 11, _ => (q_uw 451 rfl rfl)
  | _ + 12, hk => absurd hk (by omega)), rfl, nmX4, tyX4, tyX4_ok, q_kdI4, q_kdR4⟩
theorem ck5 : q_CK 5 RX5 TX5 2 := ⟨rfl, q_ckw (fun k hk => match k, hk with
  | 0, _ => (q_uw 175 rfl rfl)
  | 1, _ => (q_uw 177 rfl rfl)
  | _ + 2, hk => absurd hk (by omega)), rfl, nmX5, tyX5, tyX5_ok, q_kdI5, q_kdR5⟩
theorem ck6 : q_CK 6 RX6 TX6 9 := ⟨rfl, q_ckw (fun k hk => match k, hk with
  | 0, _ => (q_uw 338 rfl rfl)
  | 1, _ => (q_uw 340 rfl rfl)
  | 2, _ => (q_uw 342 rfl rfl)
  | 3, _ => (q_uw 344 rfl rfl)
  | 4, _ => (q_uw 346 rfl rfl)
  | 5, _ => (q_uw 348 rfl rfl)
  | 6, _ => (q_uw 350 rfl rfl)
  | 7, _ => (q_uw 352 rfl rfl)
  | 8, _ => (q_uw 354 rfl rfl)
  | _ + 9, hk => absurd hk (by omega)), rfl, nmX6, tyX6, tyX6_ok, q_kdI6, q_kdR6⟩
theorem ck7 : q_CK 7 RX7 TX7 2 := ⟨rfl, q_ckw (fun k hk => match k, hk with
  | 0, _ => (q_uw 240 rfl rfl)
  | 1, _ => (q_uw 242 rfl rfl)
  | _ + 2, hk => absurd hk (by omega)), rfl, nmX7, tyX7, tyX7_ok, q_kdI7, q_kdR7⟩
theorem ck8 : q_CK 8 RX8 TX8 10 := ⟨rfl, q_ckw (fun k hk => match k, hk with
  | 0, _ => (q_uw 282 rfl rfl)
  | 1, _ => (q_uw 284 rfl rfl)
  | 2, _ => (q_uw 286 rfl rfl)
  | 3, _ => (q_uw 288 rfl rfl)
  | 4, _ => (q_uw 290 rfl rfl)
  | 5, _ => (q_uw 292 rfl rfl)
  | 6, _ => (q_uw 294 rfl rfl)
  | 7, _ => (q_uw 296 rfl rfl)
  | 8, _ => (q_uw 298 rfl rfl)
  | 9, _ => (q_uw 300 rfl rfl)
  | _ + 10, hk => absurd hk (by omega)), rfl, nmX8, tyX8, tyX8_ok, q_kdI8, q_kdR8⟩
theorem ck9 : q_CK 9 RX9 TX9 8 := ⟨rfl, q_ckw (fun k hk => match k, hk with
  | 0, _ => (q_uw 530 rfl rfl)
  | 1, _ => (q_uw 532 rfl rfl)
  | 2, _ => (q_uw 534 rfl rfl)
  | 3, _ => (q_uw 536 rfl rfl)
  | 4, _ => (q_uw 538 rfl rfl)
  | 5, _ => (q_uw 540 rfl rfl)
  | 6, _ => (q_uw 542 rfl rfl)
  | 7, _ => (q_uw 544 rfl rfl)
  | _ + 8, hk => absurd hk (by omega)), rfl, nmX9, tyX9, tyX9_ok, q_kdI9, q_kdR9⟩
theorem ck10 : q_CK 10 RX10 TX10 7 := ⟨rfl, q_ckw (fun k hk => match k, hk with
  | 0, _ => (q_uw 477 rfl rfl)
  | 1, _ => (q_uw 479 rfl rfl)
  | 2, _ => (q_uw 481 rfl rfl)
  | 3, _ => (q_uw 483 rfl rfl)
  | 4, _ => (q_uw 485 rfl rfl)
  | 5, _ => (q_uw 487 rfl rfl)
  | 6, _ => (q_uw 489 rfl rfl)
  | _ + 7, hk => absurd hk (by omega)), rfl, nmX10, tyX10, tyX10_ok, q_kdI10, q_kdR10⟩
theorem ck11 : q_CK 11 RX11 TX11 23 := ⟨rfl, q_ckw (fun k hk => match k, hk with
  | 0, _ => (q_uw 1234 rfl rfl)
  | 1, _ => (q_uw 1236 rfl rfl)
  | 2, _ => (q_uw 1238 rfl rfl)
  | 3, _ => (q_uw 1240 rfl rfl)
  | 4, _ => (q_uw 1242 rfl rfl)
  | 5, _ => (q_uw 1244 rfl rfl)
  | 6, _ => (q_uw 1246 rfl rfl)
  | 7, _ => (q_uw 1248 rfl rfl)
  | 8, _ => (q_uw 1250 rfl rfl)
  | 9, _ => (q_uw 1252 rfl rfl)
  | 10, _ => (q_uw 1254 rfl rfl)
  | 11, _ => (q_uw 1256 rfl rfl)
  | 12, _ => (q_uw 1258 rfl rfl)
  | 13, _ => (q_uw 1260 rfl rfl)
  | 14, _ => (q_uw 1262 rfl rfl)
  | 15, _ => (q_uw 1264 rfl rfl)
  | 16, _ => (q_uw 1266 rfl rfl)
  | 17, _ => (q_uw 1268 rfl rfl)
  | 18, _ => (q_uw 1270 rfl rfl)
  | 19, _ => (q_uw 1272 rfl rfl)
  | 20, _ => (q_uw 1274 rfl rfl)
  | 21, _ => (q_uw 1276 rfl rfl)
  | 22, _ => (q_uw 1278 rfl rfl)
  | _ + 23, hk => absurd hk (by omega)), rfl, nmX11, tyX11, tyX11_ok, q_kdI11, q_kdR11⟩
def M_J0_charAt_5068e : q_M := (yJ0_charAt_5068e, cJ0_charAt_5068e, 2, (some .char), [], { frames := 3, cells := 0, slots := 0, locals := 64 })
theorem mo_J0_charAt_5068e : q_MO M_J0_charAt_5068e 1 := ⟨(q_uw 593 rfl rfl), (q_uw 92 rfl rfl), by decide +kernel, by decide +kernel, by decide +kernel, by decide +kernel⟩
def M_J0_checkIndex_df160 : q_M := (yJ0_checkIndex_df160, cJ0_checkIndex_df160, 2, none, [], { frames := 1, cells := 0, slots := 0, locals := 22 })
theorem mo_J0_checkIndex_df160 : q_MO M_J0_checkIndex_df160 2 := ⟨(q_uw 603 rfl rfl), (q_uw 92 rfl rfl), by decide +kernel, by decide +kernel, by decide +kernel, by decide +kernel⟩
def M_J0_coder_7d493 : q_M := (yJ0_coder_7d493, cJ0_coder_7d493, 1, (some .byte), [], { frames := 0, cells := 0, slots := 0, locals := 0 })
theorem mo_J0_coder_7d493 : q_MO M_J0_coder_7d493 0 := ⟨(q_uw 587 rfl rfl), (q_uw 92 rfl rfl), by decide +kernel, by decide +kernel, by decide +kernel, by decide +kernel⟩
def M_J0_isLatin1_aae02 : q_M := (yJ0_isLatin1_aae02, cJ0_isLatin1_aae02, 1, (some .boolean), [], { frames := 0, cells := 0, slots := 0, locals := 0 })
theorem mo_J0_isLatin1_aae02 : q_MO M_J0_isLatin1_aae02 0 := ⟨(q_uw 597 rfl rfl), (q_uw 92 rfl rfl), by decide +kernel, by decide +kernel, by decide +kernel, by decide +kernel⟩
def M_J0_length_8abf5 : q_M := (yJ0_length_8abf5, cJ0_length_8abf5, 1, (some .int), [], { frames := 1, cells := 0, slots := 0, locals := 20 })
theorem mo_J0_length_8abf5 : q_MO M_J0_length_8abf5 0 := ⟨(q_uw 583 rfl rfl), (q_uw 92 rfl rfl), by decide +kernel, by decide +kernel, by decide +kernel, by decide +kernel⟩
def M_J1_charAt_3b067 : q_M := (yJ1_charAt_3b067, cJ1_charAt_3b067, 2, (some .char), [], { frames := 2, cells := 0, slots := 0, locals := 43 })
theorem mo_J1_charAt_3b067 : q_MO M_J1_charAt_3b067 2 := ⟨(q_uw 600 rfl rfl), (q_uw 93 rfl rfl), by decide +kernel, by decide +kernel, by decide +kernel, by decide +kernel⟩
def M_J3_checkIndex_8e157 : q_M := (yJ3_checkIndex_8e157, cJ3_checkIndex_8e157, 3, (some .int), [], { frames := 0, cells := 0, slots := 0, locals := 0 })
theorem mo_J3_checkIndex_8e157 : q_MO M_J3_checkIndex_8e157 3 := ⟨(q_uw 608 rfl rfl), (q_uw 94 rfl rfl), by decide +kernel, by decide +kernel, by decide +kernel, by decide +kernel⟩
def M_J7_fill_53178 : q_M := (yJ7_fill_53178, cJ7_fill_53178, 4, none, [], { frames := 0, cells := 0, slots := 0, locals := 0 })
theorem mo_J7_fill_53178 : q_MO M_J7_fill_53178 2 := ⟨(q_uw 469 rfl rfl), (q_uw 88 rfl rfl), by decide +kernel, by decide +kernel, by decide +kernel, by decide +kernel⟩
def M_L_bale : q_M := (yL_bale, cL_bale, 5, (some .int), [(0, 10, 13, 13), (0, 10, 17, 19)], { frames := 7, cells := 2, slots := 12, locals := 123 })
theorem mo_L_bale : q_MO M_L_bale 4 := ⟨(q_uw 1017 rfl rfl), (q_uw 77 rfl rfl), by decide +kernel, by decide +kernel, by decide +kernel, by decide +kernel⟩
def M_L_bestBuyer : q_M := (yL_bestBuyer, cL_bestBuyer, 4, (some .int), [(0, 9, 12, 13)], { frames := 7, cells := 1, slots := 6, locals := 127 })
theorem mo_L_bestBuyer : q_MO M_L_bestBuyer 3 := ⟨(q_uw 1163 rfl rfl), (q_uw 77 rfl rfl), by decide +kernel, by decide +kernel, by decide +kernel, by decide +kernel⟩
def M_L_bestStaff : q_M := (yL_bestStaff, cL_bestStaff, 5, (some .int), [(0, 10, 13, 13), (0, 10, 17, 19)], { frames := 9, cells := 279, slots := 1217, locals := 240 })
theorem mo_L_bestStaff : q_MO M_L_bestStaff 4 := ⟨(q_uw 1184 rfl rfl), (q_uw 77 rfl rfl), by decide +kernel, by decide +kernel, by decide +kernel, by decide +kernel⟩
def M_L_buyer : q_M := (yL_buyer, cL_buyer, 5, (some .int), [(0, 10, 13, 13), (0, 10, 17, 19)], { frames := 7, cells := 2, slots := 12, locals := 123 })
theorem mo_L_buyer : q_MO M_L_buyer 4 := ⟨(q_uw 1030 rfl rfl), (q_uw 77 rfl rfl), by decide +kernel, by decide +kernel, by decide +kernel, by decide +kernel⟩
def M_L_clean : q_M := (yL_clean, cL_clean, 4, (some .int), [(0, 9, 12, 13)], { frames := 7, cells := 278, slots := 1211, locals := 210 })
theorem mo_L_clean : q_MO M_L_clean 3 := ⟨(q_uw 1155 rfl rfl), (q_uw 77 rfl rfl), by decide +kernel, by decide +kernel, by decide +kernel, by decide +kernel⟩
def M_L_law : q_M := (yL_law, cL_law, 10, (some .boolean), [], { frames := 14, cells := 735865, slots := 6888508, locals := 510 })
def M_L_load : q_M := (yL_load, cL_load, 5, (some .int), [(0, 10, 13, 13), (0, 10, 17, 19), (0, 10, 21, 37)], { frames := 7, cells := 280, slots := 1223, locals := 210 })
theorem mo_L_load : q_MO M_L_load 4 := ⟨(q_uw 1050 rfl rfl), (q_uw 77 rfl rfl), by decide +kernel, by decide +kernel, by decide +kernel, by decide +kernel⟩
def M_L_mass : q_M := (yL_mass, cL_mass, 5, (some .int), [(0, 10, 13, 19), (0, 10, 17, 13)], { frames := 7, cells := 2, slots := 12, locals := 123 })
theorem mo_L_mass : q_MO M_L_mass 4 := ⟨(q_uw 999 rfl rfl), (q_uw 77 rfl rfl), by decide +kernel, by decide +kernel, by decide +kernel, by decide +kernel⟩
def M_L_outlook : q_M := (yL_outlook, cL_outlook, 5, (some .int), [(0, 10, 13, 19)], { frames := 8, cells := 278, slots := 1211, locals := 210 })
theorem mo_L_outlook : q_MO M_L_outlook 4 := ⟨(q_uw 1171 rfl rfl), (q_uw 77 rfl rfl), by decide +kernel, by decide +kernel, by decide +kernel, by decide +kernel⟩
def M_L_purity : q_M := (yL_purity, cL_purity, 4, (some .int), [(0, 8, 11, 13)], { frames := 7, cells := 1, slots := 6, locals := 123 })
theorem mo_L_purity : q_MO M_L_purity 3 := ⟨(q_uw 1043 rfl rfl), (q_uw 77 rfl rfl), by decide +kernel, by decide +kernel, by decide +kernel, by decide +kernel⟩
def M_L_run : q_M := (yL_run, cL_run, 4, (some .int), [(0, 9, 12, 19), (0, 9, 15, 37)], { frames := 7, cells := 279, slots := 1217, locals := 209 })
theorem mo_L_run : q_MO M_L_run 3 := ⟨(q_uw 1102 rfl rfl), (q_uw 77 rfl rfl), by decide +kernel, by decide +kernel, by decide +kernel, by decide +kernel⟩
def M_L_sell : q_M := (yL_sell, cL_sell, 5, (some .int), [(0, 10, 13, 13), (0, 10, 17, 19), (0, 10, 21, 37)], { frames := 7, cells := 280, slots := 1223, locals := 211 })
theorem mo_L_sell : q_MO M_L_sell 4 := ⟨(q_uw 1111 rfl rfl), (q_uw 77 rfl rfl), by decide +kernel, by decide +kernel, by decide +kernel, by decide +kernel⟩
def M_L_set : q_M := (yL_set, cL_set, 5, (some .int), [(0, 10, 13, 13), (0, 10, 17, 19)], { frames := 7, cells := 279, slots := 1217, locals := 210 })
theorem mo_L_set : q_MO M_L_set 4 := ⟨(q_uw 1083 rfl rfl), (q_uw 77 rfl rfl), by decide +kernel, by decide +kernel, by decide +kernel, by decide +kernel⟩
def M_L_setting : q_M := (yL_setting, cL_setting, 4, (some .int), [(0, 9, 12, 13)], { frames := 7, cells := 1, slots := 6, locals := 121 })
theorem mo_L_setting : q_MO M_L_setting 3 := ⟨(q_uw 896 rfl rfl), (q_uw 77 rfl rfl), by decide +kernel, by decide +kernel, by decide +kernel, by decide +kernel⟩
def M_L_staff : q_M := (yL_staff, cL_staff, 5, (some .int), [(0, 10, 13, 13), (0, 10, 17, 19)], { frames := 7, cells := 279, slots := 1217, locals := 211 })
theorem mo_L_staff : q_MO M_L_staff 4 := ⟨(q_uw 1093 rfl rfl), (q_uw 77 rfl rfl), by decide +kernel, by decide +kernel, by decide +kernel, by decide +kernel⟩
def M_L_station : q_M := (yL_station, cL_station, 5, (some .int), [(0, 10, 13, 13), (0, 10, 17, 19)], { frames := 7, cells := 2, slots := 12, locals := 123 })
theorem mo_L_station : q_MO M_L_station 4 := ⟨(q_uw 971 rfl rfl), (q_uw 77 rfl rfl), by decide +kernel, by decide +kernel, by decide +kernel, by decide +kernel⟩
def M_X0_copyFrom : q_M := (yX0_copyFrom, cX0_copyFrom, 2, none, [], { frames := 2, cells := 0, slots := 0, locals := 101 })
theorem mo_X0_copyFrom : q_MO M_X0_copyFrom 1 := ⟨(q_uw 790 rfl rfl), (q_uw 84 rfl rfl), by decide +kernel, by decide +kernel, by decide +kernel, by decide +kernel⟩
def M_X0_init : q_M := (yX0_init, cX0_init, 1, none, [], { frames := 2, cells := 2, slots := 8, locals := 60 })
theorem mo_X0_init : q_MO M_X0_init 0 := ⟨(q_uw 203 rfl rfl), (q_uw 84 rfl rfl), by decide +kernel, by decide +kernel, by decide +kernel, by decide +kernel⟩
def M_X0_judge : q_M := (yX0_judge, cX0_judge, 3, none, [], { frames := 1, cells := 0, slots := 0, locals := 21 })
theorem mo_X0_judge : q_MO M_X0_judge 2 := ⟨(q_uw 891 rfl rfl), (q_uw 84 rfl rfl), by decide +kernel, by decide +kernel, by decide +kernel, by decide +kernel⟩
def M_X10_append : q_M := (yX10_append, cX10_append, 6, (some .int), [], { frames := 1, cells := 0, slots := 0, locals := 22 })
theorem mo_X10_append : q_MO M_X10_append 5 := ⟨(q_uw 495 rfl rfl), (q_uw 78 rfl rfl), by decide +kernel, by decide +kernel, by decide +kernel, by decide +kernel⟩
def M_X10_appendBytes : q_M := (yX10_appendBytes, cX10_appendBytes, 3, none, [], { frames := 0, cells := 0, slots := 0, locals := 0 })
theorem mo_X10_appendBytes : q_MO M_X10_appendBytes 1 := ⟨(q_uw 499 rfl rfl), (q_uw 78 rfl rfl), by decide +kernel, by decide +kernel, by decide +kernel, by decide +kernel⟩
def M_X10_balance : q_M := (yX10_balance, cX10_balance, 2, (some .long), [], { frames := 1, cells := 0, slots := 0, locals := 22 })
theorem mo_X10_balance : q_MO M_X10_balance 1 := ⟨(q_uw 722 rfl rfl), (q_uw 78 rfl rfl), by decide +kernel, by decide +kernel, by decide +kernel, by decide +kernel⟩
def M_X10_bale : q_M := (yX10_bale, cX10_bale, 4, (some .int), [], { frames := 6, cells := 2, slots := 12, locals := 100 })
theorem mo_X10_bale : q_MO M_X10_bale 2 := ⟨(q_uw 1021 rfl rfl), (q_uw 78 rfl rfl), by decide +kernel, by decide +kernel, by decide +kernel, by decide +kernel⟩
def M_X10_bestBuyer : q_M := (yX10_bestBuyer, cX10_bestBuyer, 8, (some .int), [], { frames := 6, cells := 1, slots := 6, locals := 100 })
theorem mo_X10_bestBuyer : q_MO M_X10_bestBuyer 1 := ⟨(q_uw 1167 rfl rfl), (q_uw 78 rfl rfl), by decide +kernel, by decide +kernel, by decide +kernel, by decide +kernel⟩
def M_X10_bestStaff : q_M := (yX10_bestStaff, cX10_bestStaff, 8, (some .int), [], { frames := 8, cells := 279, slots := 1217, locals := 213 })
theorem mo_X10_bestStaff : q_MO M_X10_bestStaff 2 := ⟨(q_uw 1188 rfl rfl), (q_uw 78 rfl rfl), by decide +kernel, by decide +kernel, by decide +kernel, by decide +kernel⟩
def M_X10_bufferLength : q_M := (yX10_bufferLength, cX10_bufferLength, 1, (some .int), [], { frames := 0, cells := 0, slots := 0, locals := 0 })
theorem mo_X10_bufferLength : q_MO M_X10_bufferLength 0 := ⟨(q_uw 507 rfl rfl), (q_uw 78 rfl rfl), by decide +kernel, by decide +kernel, by decide +kernel, by decide +kernel⟩
def M_X10_buyer : q_M := (yX10_buyer, cX10_buyer, 4, (some .int), [], { frames := 6, cells := 2, slots := 12, locals := 100 })
theorem mo_X10_buyer : q_MO M_X10_buyer 2 := ⟨(q_uw 1034 rfl rfl), (q_uw 78 rfl rfl), by decide +kernel, by decide +kernel, by decide +kernel, by decide +kernel⟩
def M_X10_clean : q_M := (yX10_clean, cX10_clean, 4, (some .int), [], { frames := 6, cells := 278, slots := 1211, locals := 187 })
theorem mo_X10_clean : q_MO M_X10_clean 1 := ⟨(q_uw 1159 rfl rfl), (q_uw 78 rfl rfl), by decide +kernel, by decide +kernel, by decide +kernel, by decide +kernel⟩
def M_X10_copyOfLine : q_M := (yX10_copyOfLine, cX10_copyOfLine, 2, (some (.object "RecyclingLine$Line")), [], { frames := 6, cells := 277, slots := 1205, locals := 166 })
theorem mo_X10_copyOfLine : q_MO M_X10_copyOfLine 0 := ⟨(q_uw 755 rfl rfl), (q_uw 78 rfl rfl), by decide +kernel, by decide +kernel, by decide +kernel, by decide +kernel⟩
def M_X10_copyOfLine0 : q_M := (yX10_copyOfLine, cX10_copyOfLine, 2, (some (.object "RecyclingLine$Line")), [], { frames := 6, cells := 0, slots := 0, locals := 166 })
theorem mo_X10_copyOfLine0 : q_MO M_X10_copyOfLine0 0 := ⟨(q_uw 755 rfl rfl), (q_uw 78 rfl rfl), by decide +kernel, by decide +kernel, by decide +kernel, by decide +kernel⟩
def M_X10_emptied : q_M := (yX10_emptied, cX10_emptied, 3, (some .int), [], { frames := 7, cells := 277, slots := 1205, locals := 187 })
theorem mo_X10_emptied : q_MO M_X10_emptied 0 := ⟨(q_uw 751 rfl rfl), (q_uw 78 rfl rfl), by decide +kernel, by decide +kernel, by decide +kernel, by decide +kernel⟩
def M_X10_find : q_M := (yX10_find, cX10_find, 2, (some .int), [], { frames := 2, cells := 0, slots := 0, locals := 44 })
theorem mo_X10_find : q_MO M_X10_find 0 := ⟨(q_uw 704 rfl rfl), (q_uw 78 rfl rfl), by decide +kernel, by decide +kernel, by decide +kernel, by decide +kernel⟩
def M_X10_init : q_M := (yX10_init, cX10_init, 1, none, [], { frames := 5, cells := 279, slots := 1911, locals := 122 })
theorem mo_X10_init : q_MO M_X10_init 0 := ⟨(q_uw 107 rfl rfl), (q_uw 78 rfl rfl), by decide +kernel, by decide +kernel, by decide +kernel, by decide +kernel⟩
def M_X10_line : q_M := (yX10_line, cX10_line, 2, (some .int), [], { frames := 2, cells := 0, slots := 0, locals := 42 })
theorem mo_X10_line : q_MO M_X10_line 1 := ⟨(q_uw 710 rfl rfl), (q_uw 78 rfl rfl), by decide +kernel, by decide +kernel, by decide +kernel, by decide +kernel⟩
def M_X10_load : q_M := (yX10_load, cX10_load, 4, (some .int), [], { frames := 6, cells := 280, slots := 1223, locals := 187 })
theorem mo_X10_load : q_MO M_X10_load 2 := ⟨(q_uw 1055 rfl rfl), (q_uw 78 rfl rfl), by decide +kernel, by decide +kernel, by decide +kernel, by decide +kernel⟩
def M_X10_loss : q_M := (yX10_loss, cX10_loss, 3, (some .float), [], { frames := 0, cells := 0, slots := 0, locals := 0 })
theorem mo_X10_loss : q_MO M_X10_loss 0 := ⟨(q_uw 743 rfl rfl), (q_uw 78 rfl rfl), by decide +kernel, by decide +kernel, by decide +kernel, by decide +kernel⟩
def M_X10_mass : q_M := (yX10_mass, cX10_mass, 4, (some .int), [], { frames := 6, cells := 2, slots := 12, locals := 100 })
theorem mo_X10_mass : q_MO M_X10_mass 2 := ⟨(q_uw 1003 rfl rfl), (q_uw 78 rfl rfl), by decide +kernel, by decide +kernel, by decide +kernel, by decide +kernel⟩
def M_X10_outlook : q_M := (yX10_outlook, cX10_outlook, 4, (some .int), [], { frames := 7, cells := 278, slots := 1211, locals := 187 })
theorem mo_X10_outlook : q_MO M_X10_outlook 2 := ⟨(q_uw 1175 rfl rfl), (q_uw 78 rfl rfl), by decide +kernel, by decide +kernel, by decide +kernel, by decide +kernel⟩
def M_X10_pickedWith : q_M := (yX10_pickedWith, cX10_pickedWith, 7, (some .int), [], { frames := 7, cells := 277, slots := 1205, locals := 187 })
theorem mo_X10_pickedWith : q_MO M_X10_pickedWith 3 := ⟨(q_uw 1192 rfl rfl), (q_uw 78 rfl rfl), by decide +kernel, by decide +kernel, by decide +kernel, by decide +kernel⟩
def M_X10_pickedWith0 : q_M := (yX10_pickedWith, cX10_pickedWith, 7, (some .int), [], { frames := 7, cells := 0, slots := 0, locals := 187 })
theorem mo_X10_pickedWith0 : q_MO M_X10_pickedWith0 3 := ⟨(q_uw 1192 rfl rfl), (q_uw 78 rfl rfl), by decide +kernel, by decide +kernel, by decide +kernel, by decide +kernel⟩
def M_X10_purity : q_M := (yX10_purity, cX10_purity, 4, (some .double), [], { frames := 6, cells := 1, slots := 6, locals := 100 })
theorem mo_X10_purity : q_MO M_X10_purity 1 := ⟨(q_uw 1047 rfl rfl), (q_uw 78 rfl rfl), by decide +kernel, by decide +kernel, by decide +kernel, by decide +kernel⟩
def M_X10_read : q_M := (yX10_read, cX10_read, 4, (some .int), [], { frames := 10, cells := 279, slots := 1223, locals := 210 })
theorem mo_X10_read : q_MO M_X10_read 0 := ⟨(q_uw 511 rfl rfl), (q_uw 78 rfl rfl), by decide +kernel, by decide +kernel, by decide +kernel, by decide +kernel⟩
def M_X10_remember : q_M := (yX10_remember, cX10_remember, 2, none, [], { frames := 5, cells := 277, slots := 1205, locals := 166 })
theorem mo_X10_remember : q_MO M_X10_remember 0 := ⟨(q_uw 1077 rfl rfl), (q_uw 78 rfl rfl), by decide +kernel, by decide +kernel, by decide +kernel, by decide +kernel⟩
def M_X10_run : q_M := (yX10_run, cX10_run, 3, (some .int), [], { frames := 6, cells := 279, slots := 1217, locals := 187 })
theorem mo_X10_run : q_MO M_X10_run 1 := ⟨(q_uw 1106 rfl rfl), (q_uw 78 rfl rfl), by decide +kernel, by decide +kernel, by decide +kernel, by decide +kernel⟩
def M_X10_sell : q_M := (yX10_sell, cX10_sell, 5, (some .int), [], { frames := 6, cells := 280, slots := 1223, locals := 187 })
theorem mo_X10_sell : q_MO M_X10_sell 2 := ⟨(q_uw 1115 rfl rfl), (q_uw 78 rfl rfl), by decide +kernel, by decide +kernel, by decide +kernel, by decide +kernel⟩
def M_X10_set : q_M := (yX10_set, cX10_set, 4, (some .int), [], { frames := 6, cells := 279, slots := 1217, locals := 187 })
theorem mo_X10_set : q_MO M_X10_set 2 := ⟨(q_uw 1087 rfl rfl), (q_uw 78 rfl rfl), by decide +kernel, by decide +kernel, by decide +kernel, by decide +kernel⟩
def M_X10_setting : q_M := (yX10_setting, cX10_setting, 2, (some .int), [], { frames := 6, cells := 1, slots := 6, locals := 100 })
theorem mo_X10_setting : q_MO M_X10_setting 1 := ⟨(q_uw 901 rfl rfl), (q_uw 78 rfl rfl), by decide +kernel, by decide +kernel, by decide +kernel, by decide +kernel⟩
def M_X10_spareLine : q_M := (yX10_spareLine, cX10_spareLine, 1, (some (.object "RecyclingLine$Line")), [], { frames := 5, cells := 277, slots := 1205, locals := 122 })
theorem mo_X10_spareLine : q_MO M_X10_spareLine 0 := ⟨(q_uw 515 rfl rfl), (q_uw 78 rfl rfl), by decide +kernel, by decide +kernel, by decide +kernel, by decide +kernel⟩
def M_X10_spareLine0 : q_M := (yX10_spareLine, cX10_spareLine, 1, (some (.object "RecyclingLine$Line")), [], { frames := 5, cells := 0, slots := 0, locals := 122 })
theorem mo_X10_spareLine0 : q_MO M_X10_spareLine0 0 := ⟨(q_uw 515 rfl rfl), (q_uw 78 rfl rfl), by decide +kernel, by decide +kernel, by decide +kernel, by decide +kernel⟩
def M_X10_staff : q_M := (yX10_staff, cX10_staff, 5, (some .int), [], { frames := 6, cells := 279, slots := 1217, locals := 187 })
theorem mo_X10_staff : q_MO M_X10_staff 2 := ⟨(q_uw 1097 rfl rfl), (q_uw 78 rfl rfl), by decide +kernel, by decide +kernel, by decide +kernel, by decide +kernel⟩
def M_X10_station : q_M := (yX10_station, cX10_station, 4, (some .int), [], { frames := 6, cells := 2, slots := 12, locals := 100 })
theorem mo_X10_station : q_MO M_X10_station 2 := ⟨(q_uw 976 rfl rfl), (q_uw 78 rfl rfl), by decide +kernel, by decide +kernel, by decide +kernel, by decide +kernel⟩
def M_X10_truncate : q_M := (yX10_truncate, cX10_truncate, 2, (some .boolean), [], { frames := 0, cells := 0, slots := 0, locals := 0 })
theorem mo_X10_truncate : q_MO M_X10_truncate 1 := ⟨(q_uw 503 rfl rfl), (q_uw 78 rfl rfl), by decide +kernel, by decide +kernel, by decide +kernel, by decide +kernel⟩
def M_X10_undo : q_M := (yX10_undo, cX10_undo, 2, (some .int), [], { frames := 0, cells := 0, slots := 0, locals := 0 })
theorem mo_X10_undo : q_MO M_X10_undo 0 := ⟨(q_uw 747 rfl rfl), (q_uw 78 rfl rfl), by decide +kernel, by decide +kernel, by decide +kernel, by decide +kernel⟩
def M_X11_adds : q_M := (yX11_adds, cX11_adds, 3, none, [], { frames := 0, cells := 0, slots := 0, locals := 0 })
theorem mo_X11_adds : q_MO M_X11_adds 1 := ⟨(q_uw 1293 rfl rfl), (q_uw 89 rfl rfl), by decide +kernel, by decide +kernel, by decide +kernel, by decide +kernel⟩
def M_X11_append : q_M := (yX11_append, cX11_append, 6, (some .int), [], { frames := 1, cells := 0, slots := 0, locals := 22 })
theorem mo_X11_append : q_MO M_X11_append 5 := ⟨(q_uw 1289 rfl rfl), (q_uw 89 rfl rfl), by decide +kernel, by decide +kernel, by decide +kernel, by decide +kernel⟩
def M_X11_bad : q_M := (yX11_bad, cX11_bad, 2, (some .boolean), [], { frames := 0, cells := 0, slots := 0, locals := 0 })
theorem mo_X11_bad : q_MO M_X11_bad 1 := ⟨(q_uw 1337 rfl rfl), (q_uw 89 rfl rfl), by decide +kernel, by decide +kernel, by decide +kernel, by decide +kernel⟩
def M_X11_balance : q_M := (yX11_balance, cX11_balance, 5, (some .long), [], { frames := 2, cells := 0, slots := 0, locals := 44 })
theorem mo_X11_balance : q_MO M_X11_balance 1 := ⟨(q_uw 1478 rfl rfl), (q_uw 89 rfl rfl), by decide +kernel, by decide +kernel, by decide +kernel, by decide +kernel⟩
def M_X11_bale : q_M := (yX11_bale, cX11_bale, 4, (some .int), [], { frames := 2, cells := 0, slots := 0, locals := 46 })
theorem mo_X11_bale : q_MO M_X11_bale 2 := ⟨(q_uw 1458 rfl rfl), (q_uw 89 rfl rfl), by decide +kernel, by decide +kernel, by decide +kernel, by decide +kernel⟩
def M_X11_becomes : q_M := (yX11_becomes, cX11_becomes, 2, none, [], { frames := 0, cells := 0, slots := 0, locals := 0 })
theorem mo_X11_becomes : q_MO M_X11_becomes 0 := ⟨(q_uw 1210 rfl rfl), (q_uw 89 rfl rfl), by decide +kernel, by decide +kernel, by decide +kernel, by decide +kernel⟩
def M_X11_bestBuyer : q_M := (yX11_bestBuyer, cX11_bestBuyer, 4, (some .int), [], { frames := 3, cells := 0, slots := 0, locals := 68 })
theorem mo_X11_bestBuyer : q_MO M_X11_bestBuyer 1 := ⟨(q_uw 1603 rfl rfl), (q_uw 89 rfl rfl), by decide +kernel, by decide +kernel, by decide +kernel, by decide +kernel⟩
def M_X11_bestStaff : q_M := (yX11_bestStaff, cX11_bestStaff, 9, (some .int), [], { frames := 5, cells := 0, slots := 0, locals := 118 })
theorem mo_X11_bestStaff : q_MO M_X11_bestStaff 2 := ⟨(q_uw 1620 rfl rfl), (q_uw 89 rfl rfl), by decide +kernel, by decide +kernel, by decide +kernel, by decide +kernel⟩
def M_X11_bufferLength : q_M := (yX11_bufferLength, cX11_bufferLength, 1, (some .int), [], { frames := 0, cells := 0, slots := 0, locals := 0 })
theorem mo_X11_bufferLength : q_MO M_X11_bufferLength 0 := ⟨(q_uw 1304 rfl rfl), (q_uw 89 rfl rfl), by decide +kernel, by decide +kernel, by decide +kernel, by decide +kernel⟩
def M_X11_buyer : q_M := (yX11_buyer, cX11_buyer, 4, (some .int), [], { frames := 2, cells := 0, slots := 0, locals := 46 })
theorem mo_X11_buyer : q_MO M_X11_buyer 2 := ⟨(q_uw 1469 rfl rfl), (q_uw 89 rfl rfl), by decide +kernel, by decide +kernel, by decide +kernel, by decide +kernel⟩
def M_X11_buyerWith : q_M := (yX11_buyerWith, cX11_buyerWith, 5, (some .int), [], { frames := 0, cells := 0, slots := 0, locals := 0 })
theorem mo_X11_buyerWith : q_MO M_X11_buyerWith 3 := ⟨(q_uw 1387 rfl rfl), (q_uw 89 rfl rfl), by decide +kernel, by decide +kernel, by decide +kernel, by decide +kernel⟩
def M_X11_byteAt : q_M := (yX11_byteAt, cX11_byteAt, 2, (some .int), [], { frames := 0, cells := 0, slots := 0, locals := 0 })
theorem mo_X11_byteAt : q_MO M_X11_byteAt 1 := ⟨(q_uw 1320 rfl rfl), (q_uw 89 rfl rfl), by decide +kernel, by decide +kernel, by decide +kernel, by decide +kernel⟩
def M_X11_capacity : q_M := (yX11_capacity, cX11_capacity, 2, (some .int), [], { frames := 1, cells := 0, slots := 0, locals := 21 })
theorem mo_X11_capacity : q_MO M_X11_capacity 1 := ⟨(q_uw 1437 rfl rfl), (q_uw 89 rfl rfl), by decide +kernel, by decide +kernel, by decide +kernel, by decide +kernel⟩
def M_X11_clean : q_M := (yX11_clean, cX11_clean, 5, (some .int), [], { frames := 2, cells := 0, slots := 0, locals := 46 })
theorem mo_X11_clean : q_MO M_X11_clean 1 := ⟨(q_uw 1599 rfl rfl), (q_uw 89 rfl rfl), by decide +kernel, by decide +kernel, by decide +kernel, by decide +kernel⟩
def M_X11_comesBack : q_M := (yX11_comesBack, cX11_comesBack, 2, none, [], { frames := 0, cells := 0, slots := 0, locals := 0 })
theorem mo_X11_comesBack : q_MO M_X11_comesBack 0 := ⟨(q_uw 1616 rfl rfl), (q_uw 89 rfl rfl), by decide +kernel, by decide +kernel, by decide +kernel, by decide +kernel⟩
def M_X11_emptied : q_M := (yX11_emptied, cX11_emptied, 3, (some .int), [], { frames := 5, cells := 0, slots := 0, locals := 118 })
theorem mo_X11_emptied : q_MO M_X11_emptied 0 := ⟨(q_uw 1625 rfl rfl), (q_uw 89 rfl rfl), by decide +kernel, by decide +kernel, by decide +kernel, by decide +kernel⟩
def M_X11_ends : q_M := (yX11_ends, cX11_ends, 1, (some .boolean), [], { frames := 2, cells := 0, slots := 0, locals := 42 })
theorem mo_X11_ends : q_MO M_X11_ends 0 := ⟨(q_uw 1345 rfl rfl), (q_uw 89 rfl rfl), by decide +kernel, by decide +kernel, by decide +kernel, by decide +kernel⟩
def M_X11_fails : q_M := (yX11_fails, cX11_fails, 4, (some .boolean), [], { frames := 0, cells := 0, slots := 0, locals := 0 })
theorem mo_X11_fails : q_MO M_X11_fails 3 := ⟨(q_uw 1420 rfl rfl), (q_uw 89 rfl rfl), by decide +kernel, by decide +kernel, by decide +kernel, by decide +kernel⟩
def M_X11_find : q_M := (yX11_find, cX11_find, 4, (some .int), [], { frames := 1, cells := 0, slots := 0, locals := 25 })
theorem mo_X11_find : q_MO M_X11_find 0 := ⟨(q_uw 1395 rfl rfl), (q_uw 89 rfl rfl), by decide +kernel, by decide +kernel, by decide +kernel, by decide +kernel⟩
def M_X11_go : q_M := (yX11_go, cX11_go, 2, none, [], { frames := 1, cells := 0, slots := 0, locals := 21 })
theorem mo_X11_go : q_MO M_X11_go 0 := ⟨(q_uw 1316 rfl rfl), (q_uw 89 rfl rfl), by decide +kernel, by decide +kernel, by decide +kernel, by decide +kernel⟩
def M_X11_goes : q_M := (yX11_goes, cX11_goes, 4, none, [], { frames := 1, cells := 0, slots := 0, locals := 21 })
theorem mo_X11_goes : q_MO M_X11_goes 3 := ⟨(q_uw 1562 rfl rfl), (q_uw 89 rfl rfl), by decide +kernel, by decide +kernel, by decide +kernel, by decide +kernel⟩
def M_X11_goesAside : q_M := (yX11_goesAside, cX11_goesAside, 2, none, [], { frames := 0, cells := 0, slots := 0, locals := 0 })
theorem mo_X11_goesAside : q_MO M_X11_goesAside 0 := ⟨(q_uw 1612 rfl rfl), (q_uw 89 rfl rfl), by decide +kernel, by decide +kernel, by decide +kernel, by decide +kernel⟩
def M_X11_gradeOf : q_M := (yX11_gradeOf, cX11_gradeOf, 2, (some .int), [], { frames := 0, cells := 0, slots := 0, locals := 0 })
theorem mo_X11_gradeOf : q_MO M_X11_gradeOf 1 := ⟨(q_uw 1571 rfl rfl), (q_uw 89 rfl rfl), by decide +kernel, by decide +kernel, by decide +kernel, by decide +kernel⟩
def M_X11_hasParcel : q_M := (yX11_hasParcel, cX11_hasParcel, 2, (some .boolean), [], { frames := 1, cells := 0, slots := 0, locals := 20 })
theorem mo_X11_hasParcel : q_MO M_X11_hasParcel 1 := ⟨(q_uw 1445 rfl rfl), (q_uw 89 rfl rfl), by decide +kernel, by decide +kernel, by decide +kernel, by decide +kernel⟩
def M_X11_impurity : q_M := (yX11_impurity, cX11_impurity, 2, (some .int), [], { frames := 1, cells := 0, slots := 0, locals := 21 })
theorem mo_X11_impurity : q_MO M_X11_impurity 1 := ⟨(q_uw 1591 rfl rfl), (q_uw 89 rfl rfl), by decide +kernel, by decide +kernel, by decide +kernel, by decide +kernel⟩
def M_X11_init : q_M := (yX11_init, cX11_init, 1, none, [], { frames := 1, cells := 12, slots := 7925, locals := 40 })
theorem mo_X11_init : q_MO M_X11_init 0 := ⟨(q_uw 1201 rfl rfl), (q_uw 89 rfl rfl), by decide +kernel, by decide +kernel, by decide +kernel, by decide +kernel⟩
def M_X11_isBale : q_M := (yX11_isBale, cX11_isBale, 2, (some .boolean), [], { frames := 1, cells := 0, slots := 0, locals := 25 })
theorem mo_X11_isBale : q_MO M_X11_isBale 1 := ⟨(q_uw 1462 rfl rfl), (q_uw 89 rfl rfl), by decide +kernel, by decide +kernel, by decide +kernel, by decide +kernel⟩
def M_X11_isBuyer : q_M := (yX11_isBuyer, cX11_isBuyer, 2, (some .boolean), [], { frames := 1, cells := 0, slots := 0, locals := 25 })
theorem mo_X11_isBuyer : q_MO M_X11_isBuyer 1 := ⟨(q_uw 1473 rfl rfl), (q_uw 89 rfl rfl), by decide +kernel, by decide +kernel, by decide +kernel, by decide +kernel⟩
def M_X11_isDigit : q_M := (yX11_isDigit, cX11_isDigit, 1, (some .boolean), [], { frames := 0, cells := 0, slots := 0, locals := 0 })
theorem mo_X11_isDigit : q_MO M_X11_isDigit 1 := ⟨(q_uw 1326 rfl rfl), (q_uw 89 rfl rfl), by decide +kernel, by decide +kernel, by decide +kernel, by decide +kernel⟩
def M_X11_isEmpty : q_M := (yX11_isEmpty, cX11_isEmpty, 1, (some .boolean), [], { frames := 2, cells := 0, slots := 0, locals := 42 })
theorem mo_X11_isEmpty : q_MO M_X11_isEmpty 0 := ⟨(q_uw 1629 rfl rfl), (q_uw 89 rfl rfl), by decide +kernel, by decide +kernel, by decide +kernel, by decide +kernel⟩
def M_X11_isIn : q_M := (yX11_isIn, cX11_isIn, 6, (some .boolean), [], { frames := 0, cells := 0, slots := 0, locals := 0 })
theorem mo_X11_isIn : q_MO M_X11_isIn 3 := ⟨(q_uw 1300 rfl rfl), (q_uw 89 rfl rfl), by decide +kernel, by decide +kernel, by decide +kernel, by decide +kernel⟩
def M_X11_isMaterial : q_M := (yX11_isMaterial, cX11_isMaterial, 2, (some .boolean), [], { frames := 1, cells := 0, slots := 0, locals := 25 })
theorem mo_X11_isMaterial : q_MO M_X11_isMaterial 1 := ⟨(q_uw 1454 rfl rfl), (q_uw 89 rfl rfl), by decide +kernel, by decide +kernel, by decide +kernel, by decide +kernel⟩
def M_X11_isName : q_M := (yX11_isName, cX11_isName, 1, (some .boolean), [], { frames := 5, cells := 0, slots := 0, locals := 107 })
theorem mo_X11_isName : q_MO M_X11_isName 0 := ⟨(q_uw 1378 rfl rfl), (q_uw 89 rfl rfl), by decide +kernel, by decide +kernel, by decide +kernel, by decide +kernel⟩
def M_X11_isSmall : q_M := (yX11_isSmall, cX11_isSmall, 1, (some .boolean), [], { frames := 0, cells := 0, slots := 0, locals := 0 })
theorem mo_X11_isSmall : q_MO M_X11_isSmall 1 := ⟨(q_uw 1323 rfl rfl), (q_uw 89 rfl rfl), by decide +kernel, by decide +kernel, by decide +kernel, by decide +kernel⟩
def M_X11_isStation : q_M := (yX11_isStation, cX11_isStation, 2, (some .boolean), [], { frames := 1, cells := 0, slots := 0, locals := 25 })
theorem mo_X11_isStation : q_MO M_X11_isStation 1 := ⟨(q_uw 1428 rfl rfl), (q_uw 89 rfl rfl), by decide +kernel, by decide +kernel, by decide +kernel, by decide +kernel⟩
def M_X11_isTarget : q_M := (yX11_isTarget, cX11_isTarget, 3, (some .boolean), [], { frames := 1, cells := 0, slots := 0, locals := 21 })
theorem mo_X11_isTarget : q_MO M_X11_isTarget 1 := ⟨(q_uw 1526 rfl rfl), (q_uw 89 rfl rfl), by decide +kernel, by decide +kernel, by decide +kernel, by decide +kernel⟩
def M_X11_isWord : q_M := (yX11_isWord, cX11_isWord, 3, (some .boolean), [], { frames := 4, cells := 0, slots := 0, locals := 85 })
theorem mo_X11_isWord : q_MO M_X11_isWord 1 := ⟨(q_uw 1331 rfl rfl), (q_uw 89 rfl rfl), by decide +kernel, by decide +kernel, by decide +kernel, by decide +kernel⟩
def M_X11_joins : q_M := (yX11_joins, cX11_joins, 4, none, [], { frames := 0, cells := 0, slots := 0, locals := 0 })
theorem mo_X11_joins : q_MO M_X11_joins 2 := ⟨(q_uw 1534 rfl rfl), (q_uw 89 rfl rfl), by decide +kernel, by decide +kernel, by decide +kernel, by decide +kernel⟩
def M_X11_lays : q_M := (yX11_lays, cX11_lays, 2, none, [], { frames := 0, cells := 0, slots := 0, locals := 0 })
theorem mo_X11_lays : q_MO M_X11_lays 0 := ⟨(q_uw 1206 rfl rfl), (q_uw 89 rfl rfl), by decide +kernel, by decide +kernel, by decide +kernel, by decide +kernel⟩
def M_X11_lays_ : q_M := (yX11_lays_, cX11_lays_, 3, none, [], { frames := 0, cells := 0, slots := 0, locals := 0 })
theorem mo_X11_lays_ : q_MO M_X11_lays_ 1 := ⟨(q_uw 1553 rfl rfl), (q_uw 89 rfl rfl), by decide +kernel, by decide +kernel, by decide +kernel, by decide +kernel⟩
def M_X11_leaves : q_M := (yX11_leaves, cX11_leaves, 4, none, [], { frames := 2, cells := 0, slots := 0, locals := 44 })
theorem mo_X11_leaves : q_MO M_X11_leaves 0 := ⟨(q_uw 1522 rfl rfl), (q_uw 89 rfl rfl), by decide +kernel, by decide +kernel, by decide +kernel, by decide +kernel⟩
def M_X11_letters : q_M := (yX11_letters, cX11_letters, 6, (some .long), [], { frames := 0, cells := 0, slots := 0, locals := 0 })
theorem mo_X11_letters : q_MO M_X11_letters 2 := ⟨(q_uw 1382 rfl rfl), (q_uw 89 rfl rfl), by decide +kernel, by decide +kernel, by decide +kernel, by decide +kernel⟩
def M_X11_line : q_M := (yX11_line, cX11_line, 2, (some .int), [], { frames := 2, cells := 0, slots := 0, locals := 42 })
theorem mo_X11_line : q_MO M_X11_line 1 := ⟨(q_uw 1400 rfl rfl), (q_uw 89 rfl rfl), by decide +kernel, by decide +kernel, by decide +kernel, by decide +kernel⟩
def M_X11_load : q_M := (yX11_load, cX11_load, 7, (some .int), [], { frames := 2, cells := 0, slots := 0, locals := 46 })
theorem mo_X11_load : q_MO M_X11_load 2 := ⟨(q_uw 1491 rfl rfl), (q_uw 89 rfl rfl), by decide +kernel, by decide +kernel, by decide +kernel, by decide +kernel⟩
def M_X11_loss : q_M := (yX11_loss, cX11_loss, 2, (some .float), [], { frames := 2, cells := 0, slots := 0, locals := 44 })
theorem mo_X11_loss : q_MO M_X11_loss 0 := ⟨(q_uw 1487 rfl rfl), (q_uw 89 rfl rfl), by decide +kernel, by decide +kernel, by decide +kernel, by decide +kernel⟩
def M_X11_mass : q_M := (yX11_mass, cX11_mass, 4, (some .int), [], { frames := 2, cells := 0, slots := 0, locals := 46 })
theorem mo_X11_mass : q_MO M_X11_mass 2 := ⟨(q_uw 1449 rfl rfl), (q_uw 89 rfl rfl), by decide +kernel, by decide +kernel, by decide +kernel, by decide +kernel⟩
def M_X11_materials : q_M := (yX11_materials, cX11_materials, 1, (some .int), [], { frames := 0, cells := 0, slots := 0, locals := 0 })
theorem mo_X11_materials : q_MO M_X11_materials 0 := ⟨(q_uw 1404 rfl rfl), (q_uw 89 rfl rfl), by decide +kernel, by decide +kernel, by decide +kernel, by decide +kernel⟩
def M_X11_mostOf : q_M := (yX11_mostOf, cX11_mostOf, 5, (some .int), [], { frames := 1, cells := 0, slots := 0, locals := 20 })
theorem mo_X11_mostOf : q_MO M_X11_mostOf 2 := ⟨(q_uw 1549 rfl rfl), (q_uw 89 rfl rfl), by decide +kernel, by decide +kernel, by decide +kernel, by decide +kernel⟩
def M_X11_moves : q_M := (yX11_moves, cX11_moves, 3, none, [], { frames := 3, cells := 0, slots := 0, locals := 70 })
theorem mo_X11_moves : q_MO M_X11_moves 0 := ⟨(q_uw 1538 rfl rfl), (q_uw 89 rfl rfl), by decide +kernel, by decide +kernel, by decide +kernel, by decide +kernel⟩
def M_X11_ofBuyer : q_M := (yX11_ofBuyer, cX11_ofBuyer, 3, (some .int), [], { frames := 0, cells := 0, slots := 0, locals := 0 })
theorem mo_X11_ofBuyer : q_MO M_X11_ofBuyer 2 := ⟨(q_uw 1583 rfl rfl), (q_uw 89 rfl rfl), by decide +kernel, by decide +kernel, by decide +kernel, by decide +kernel⟩
def M_X11_onBelt : q_M := (yX11_onBelt, cX11_onBelt, 3, (some .int), [], { frames := 1, cells := 0, slots := 0, locals := 20 })
theorem mo_X11_onBelt : q_MO M_X11_onBelt 0 := ⟨(q_uw 1408 rfl rfl), (q_uw 89 rfl rfl), by decide +kernel, by decide +kernel, by decide +kernel, by decide +kernel⟩
def M_X11_outlook : q_M := (yX11_outlook, cX11_outlook, 5, (some .int), [], { frames := 5, cells := 0, slots := 0, locals := 118 })
theorem mo_X11_outlook : q_MO M_X11_outlook 2 := ⟨(q_uw 1607 rfl rfl), (q_uw 89 rfl rfl), by decide +kernel, by decide +kernel, by decide +kernel, by decide +kernel⟩
def M_X11_parcelAt : q_M := (yX11_parcelAt, cX11_parcelAt, 1, (some .int), [], { frames := 0, cells := 0, slots := 0, locals := 0 })
theorem mo_X11_parcelAt : q_MO M_X11_parcelAt 1 := ⟨(q_uw 1366 rfl rfl), (q_uw 89 rfl rfl), by decide +kernel, by decide +kernel, by decide +kernel, by decide +kernel⟩
def M_X11_pays : q_M := (yX11_pays, cX11_pays, 7, (some .int), [], { frames := 2, cells := 0, slots := 0, locals := 42 })
theorem mo_X11_pays : q_MO M_X11_pays 2 := ⟨(q_uw 1595 rfl rfl), (q_uw 89 rfl rfl), by decide +kernel, by decide +kernel, by decide +kernel, by decide +kernel⟩
def M_X11_picks : q_M := (yX11_picks, cX11_picks, 5, none, [], { frames := 2, cells := 0, slots := 0, locals := 44 })
theorem mo_X11_picks : q_MO M_X11_picks 1 := ⟨(q_uw 1557 rfl rfl), (q_uw 89 rfl rfl), by decide +kernel, by decide +kernel, by decide +kernel, by decide +kernel⟩
def M_X11_placeAt : q_M := (yX11_placeAt, cX11_placeAt, 2, (some .int), [], { frames := 0, cells := 0, slots := 0, locals := 0 })
theorem mo_X11_placeAt : q_MO M_X11_placeAt 2 := ⟨(q_uw 1353 rfl rfl), (q_uw 89 rfl rfl), by decide +kernel, by decide +kernel, by decide +kernel, by decide +kernel⟩
def M_X11_presses : q_M := (yX11_presses, cX11_presses, 6, none, [], { frames := 3, cells := 0, slots := 0, locals := 70 })
theorem mo_X11_presses : q_MO M_X11_presses 1 := ⟨(q_uw 1567 rfl rfl), (q_uw 89 rfl rfl), by decide +kernel, by decide +kernel, by decide +kernel, by decide +kernel⟩
def M_X11_purity : q_M := (yX11_purity, cX11_purity, 2, (some .double), [], { frames := 2, cells := 0, slots := 0, locals := 46 })
theorem mo_X11_purity : q_MO M_X11_purity 1 := ⟨(q_uw 1483 rfl rfl), (q_uw 89 rfl rfl), by decide +kernel, by decide +kernel, by decide +kernel, by decide +kernel⟩
def M_X11_read : q_M := (yX11_read, cX11_read, 1, (some .int), [], { frames := 8, cells := 0, slots := 0, locals := 172 })
theorem mo_X11_read : q_MO M_X11_read 0 := ⟨(q_uw 1308 rfl rfl), (q_uw 89 rfl rfl), by decide +kernel, by decide +kernel, by decide +kernel, by decide +kernel⟩
def M_X11_reads : q_M := (yX11_reads, cX11_reads, 5, (some .boolean), [], { frames := 2, cells := 0, slots := 0, locals := 42 })
theorem mo_X11_reads : q_MO M_X11_reads 4 := ⟨(q_uw 1341 rfl rfl), (q_uw 89 rfl rfl), by decide +kernel, by decide +kernel, by decide +kernel, by decide +kernel⟩
def M_X11_readsAll : q_M := (yX11_readsAll, cX11_readsAll, 2, (some .boolean), [], { frames := 7, cells := 0, slots := 0, locals := 151 })
theorem mo_X11_readsAll : q_MO M_X11_readsAll 0 := ⟨(q_uw 1312 rfl rfl), (q_uw 89 rfl rfl), by decide +kernel, by decide +kernel, by decide +kernel, by decide +kernel⟩
def M_X11_readsBuyer : q_M := (yX11_readsBuyer, cX11_readsBuyer, 5, (some .boolean), [], { frames := 6, cells := 0, slots := 0, locals := 127 })
theorem mo_X11_readsBuyer : q_MO M_X11_readsBuyer 0 := ⟨(q_uw 1374 rfl rfl), (q_uw 89 rfl rfl), by decide +kernel, by decide +kernel, by decide +kernel, by decide +kernel⟩
def M_X11_readsLoad : q_M := (yX11_readsLoad, cX11_readsLoad, 4, (some .boolean), [], { frames := 3, cells := 0, slots := 0, locals := 66 })
theorem mo_X11_readsLoad : q_MO M_X11_readsLoad 0 := ⟨(q_uw 1363 rfl rfl), (q_uw 89 rfl rfl), by decide +kernel, by decide +kernel, by decide +kernel, by decide +kernel⟩
def M_X11_readsSetting : q_M := (yX11_readsSetting, cX11_readsSetting, 2, (some .boolean), [], { frames := 3, cells := 0, slots := 0, locals := 66 })
theorem mo_X11_readsSetting : q_MO M_X11_readsSetting 0 := ⟨(q_uw 1358 rfl rfl), (q_uw 89 rfl rfl), by decide +kernel, by decide +kernel, by decide +kernel, by decide +kernel⟩
def M_X11_readsStation : q_M := (yX11_readsStation, cX11_readsStation, 3, (some .boolean), [], { frames := 3, cells := 0, slots := 0, locals := 66 })
theorem mo_X11_readsStation : q_MO M_X11_readsStation 0 := ⟨(q_uw 1350 rfl rfl), (q_uw 89 rfl rfl), by decide +kernel, by decide +kernel, by decide +kernel, by decide +kernel⟩
def M_X11_remembers : q_M := (yX11_remembers, cX11_remembers, 2, none, [], { frames := 0, cells := 0, slots := 0, locals := 0 })
theorem mo_X11_remembers : q_MO M_X11_remembers 0 := ⟨(q_uw 1496 rfl rfl), (q_uw 89 rfl rfl), by decide +kernel, by decide +kernel, by decide +kernel, by decide +kernel⟩
def M_X11_run : q_M := (yX11_run, cX11_run, 4, (some .int), [], { frames := 5, cells := 0, slots := 0, locals := 118 })
theorem mo_X11_run : q_MO M_X11_run 1 := ⟨(q_uw 1513 rfl rfl), (q_uw 89 rfl rfl), by decide +kernel, by decide +kernel, by decide +kernel, by decide +kernel⟩
def M_X11_sell : q_M := (yX11_sell, cX11_sell, 8, (some .int), [], { frames := 3, cells := 0, slots := 0, locals := 68 })
theorem mo_X11_sell : q_MO M_X11_sell 2 := ⟨(q_uw 1575 rfl rfl), (q_uw 89 rfl rfl), by decide +kernel, by decide +kernel, by decide +kernel, by decide +kernel⟩
def M_X11_sendsBack : q_M := (yX11_sendsBack, cX11_sendsBack, 3, (some .boolean), [], { frames := 2, cells := 0, slots := 0, locals := 42 })
theorem mo_X11_sendsBack : q_MO M_X11_sendsBack 2 := ⟨(q_uw 1587 rfl rfl), (q_uw 89 rfl rfl), by decide +kernel, by decide +kernel, by decide +kernel, by decide +kernel⟩
def M_X11_set : q_M := (yX11_set, cX11_set, 5, (some .int), [], { frames := 1, cells := 0, slots := 0, locals := 25 })
theorem mo_X11_set : q_MO M_X11_set 2 := ⟨(q_uw 1500 rfl rfl), (q_uw 89 rfl rfl), by decide +kernel, by decide +kernel, by decide +kernel, by decide +kernel⟩
def M_X11_setting : q_M := (yX11_setting, cX11_setting, 2, (some .int), [], { frames := 1, cells := 0, slots := 0, locals := 25 })
theorem mo_X11_setting : q_MO M_X11_setting 1 := ⟨(q_uw 1415 rfl rfl), (q_uw 89 rfl rfl), by decide +kernel, by decide +kernel, by decide +kernel, by decide +kernel⟩
def M_X11_slotAt : q_M := (yX11_slotAt, cX11_slotAt, 1, (some .int), [], { frames := 0, cells := 0, slots := 0, locals := 0 })
theorem mo_X11_slotAt : q_MO M_X11_slotAt 1 := ⟨(q_uw 1411 rfl rfl), (q_uw 89 rfl rfl), by decide +kernel, by decide +kernel, by decide +kernel, by decide +kernel⟩
def M_X11_staff : q_M := (yX11_staff, cX11_staff, 4, (some .int), [], { frames := 2, cells := 0, slots := 0, locals := 46 })
theorem mo_X11_staff : q_MO M_X11_staff 2 := ⟨(q_uw 1504 rfl rfl), (q_uw 89 rfl rfl), by decide +kernel, by decide +kernel, by decide +kernel, by decide +kernel⟩
def M_X11_staffs : q_M := (yX11_staffs, cX11_staffs, 4, (some .int), [], { frames := 1, cells := 0, slots := 0, locals := 21 })
theorem mo_X11_staffs : q_MO M_X11_staffs 2 := ⟨(q_uw 1509 rfl rfl), (q_uw 89 rfl rfl), by decide +kernel, by decide +kernel, by decide +kernel, by decide +kernel⟩
def M_X11_station : q_M := (yX11_station, cX11_station, 4, (some .int), [], { frames := 2, cells := 0, slots := 0, locals := 46 })
theorem mo_X11_station : q_MO M_X11_station 2 := ⟨(q_uw 1424 rfl rfl), (q_uw 89 rfl rfl), by decide +kernel, by decide +kernel, by decide +kernel, by decide +kernel⟩
def M_X11_stations : q_M := (yX11_stations, cX11_stations, 1, (some .int), [], { frames := 0, cells := 0, slots := 0, locals := 0 })
theorem mo_X11_stations : q_MO M_X11_stations 0 := ⟨(q_uw 1391 rfl rfl), (q_uw 89 rfl rfl), by decide +kernel, by decide +kernel, by decide +kernel, by decide +kernel⟩
def M_X11_storedAt : q_M := (yX11_storedAt, cX11_storedAt, 2, (some .int), [], { frames := 0, cells := 0, slots := 0, locals := 0 })
theorem mo_X11_storedAt : q_MO M_X11_storedAt 2 := ⟨(q_uw 1465 rfl rfl), (q_uw 89 rfl rfl), by decide +kernel, by decide +kernel, by decide +kernel, by decide +kernel⟩
def M_X11_takes : q_M := (yX11_takes, cX11_takes, 7, none, [], { frames := 2, cells := 0, slots := 0, locals := 44 })
theorem mo_X11_takes : q_MO M_X11_takes 2 := ⟨(q_uw 1542 rfl rfl), (q_uw 89 rfl rfl), by decide +kernel, by decide +kernel, by decide +kernel, by decide +kernel⟩
def M_X11_takesBale : q_M := (yX11_takesBale, cX11_takesBale, 3, (some .boolean), [], { frames := 1, cells := 0, slots := 0, locals := 22 })
theorem mo_X11_takesBale : q_MO M_X11_takesBale 2 := ⟨(q_uw 1579 rfl rfl), (q_uw 89 rfl rfl), by decide +kernel, by decide +kernel, by decide +kernel, by decide +kernel⟩
def M_X11_targetOf : q_M := (yX11_targetOf, cX11_targetOf, 2, (some .int), [], { frames := 0, cells := 0, slots := 0, locals := 0 })
theorem mo_X11_targetOf : q_MO M_X11_targetOf 1 := ⟨(q_uw 1433 rfl rfl), (q_uw 89 rfl rfl), by decide +kernel, by decide +kernel, by decide +kernel, by decide +kernel⟩
def M_X11_thrown : q_M := (yX11_thrown, cX11_thrown, 1, (some .int), [], { frames := 0, cells := 0, slots := 0, locals := 0 })
theorem mo_X11_thrown : q_MO M_X11_thrown 0 := ⟨(q_uw 1196 rfl rfl), (q_uw 89 rfl rfl), by decide +kernel, by decide +kernel, by decide +kernel, by decide +kernel⟩
def M_X11_ticks : q_M := (yX11_ticks, cX11_ticks, 4, none, [], { frames := 4, cells := 0, slots := 0, locals := 95 })
theorem mo_X11_ticks : q_MO M_X11_ticks 1 := ⟨(q_uw 1518 rfl rfl), (q_uw 89 rfl rfl), by decide +kernel, by decide +kernel, by decide +kernel, by decide +kernel⟩
def M_X11_total : q_M := (yX11_total, cX11_total, 2, (some .int), [], { frames := 1, cells := 0, slots := 0, locals := 23 })
theorem mo_X11_total : q_MO M_X11_total 1 := ⟨(q_uw 1441 rfl rfl), (q_uw 89 rfl rfl), by decide +kernel, by decide +kernel, by decide +kernel, by decide +kernel⟩
def M_X11_totalOf : q_M := (yX11_totalOf, cX11_totalOf, 4, (some .int), [], { frames := 0, cells := 0, slots := 0, locals := 0 })
theorem mo_X11_totalOf : q_MO M_X11_totalOf 2 := ⟨(q_uw 1369 rfl rfl), (q_uw 89 rfl rfl), by decide +kernel, by decide +kernel, by decide +kernel, by decide +kernel⟩
def M_X11_truncate : q_M := (yX11_truncate, cX11_truncate, 2, (some .boolean), [], { frames := 1, cells := 0, slots := 0, locals := 25 })
theorem mo_X11_truncate : q_MO M_X11_truncate 1 := ⟨(q_uw 1297 rfl rfl), (q_uw 89 rfl rfl), by decide +kernel, by decide +kernel, by decide +kernel, by decide +kernel⟩
def M_X11_undo : q_M := (yX11_undo, cX11_undo, 2, (some .int), [], { frames := 0, cells := 0, slots := 0, locals := 0 })
theorem mo_X11_undo : q_MO M_X11_undo 0 := ⟨(q_uw 1285 rfl rfl), (q_uw 89 rfl rfl), by decide +kernel, by decide +kernel, by decide +kernel, by decide +kernel⟩
def M_X11_waits : q_M := (yX11_waits, cX11_waits, 5, none, [], { frames := 1, cells := 0, slots := 0, locals := 20 })
theorem mo_X11_waits : q_MO M_X11_waits 2 := ⟨(q_uw 1530 rfl rfl), (q_uw 89 rfl rfl), by decide +kernel, by decide +kernel, by decide +kernel, by decide +kernel⟩
def M_X1_claimsFor : q_M := (yX1_claimsFor, cX1_claimsFor, 2, (some .boolean), [], { frames := 0, cells := 0, slots := 0, locals := 0 })
theorem mo_X1_claimsFor : q_MO M_X1_claimsFor 1 := ⟨(q_uw 1150 rfl rfl), (q_uw 87 rfl rfl), by decide +kernel, by decide +kernel, by decide +kernel, by decide +kernel⟩
def M_X1_copyFrom : q_M := (yX1_copyFrom, cX1_copyFrom, 2, none, [], { frames := 0, cells := 0, slots := 0, locals := 0 })
theorem mo_X1_copyFrom : q_MO M_X1_copyFrom 1 := ⟨(q_uw 777 rfl rfl), (q_uw 87 rfl rfl), by decide +kernel, by decide +kernel, by decide +kernel, by decide +kernel⟩
def M_X1_init : q_M := (yX1_init, cX1_init, 1, none, [], { frames := 1, cells := 0, slots := 0, locals := 40 })
theorem mo_X1_init : q_MO M_X1_init 0 := ⟨(q_uw 360 rfl rfl), (q_uw 87 rfl rfl), by decide +kernel, by decide +kernel, by decide +kernel, by decide +kernel⟩
def M_X1_payFor : q_M := (yX1_payFor, cX1_payFor, 5, (some .int), [], { frames := 1, cells := 0, slots := 0, locals := 40 })
theorem mo_X1_payFor : q_MO M_X1_payFor 2 := ⟨(q_uw 1142 rfl rfl), (q_uw 87 rfl rfl), by decide +kernel, by decide +kernel, by decide +kernel, by decide +kernel⟩
def M_X1_sendsBack : q_M := (yX1_sendsBack, cX1_sendsBack, 2, (some .boolean), [], { frames := 0, cells := 0, slots := 0, locals := 0 })
theorem mo_X1_sendsBack : q_MO M_X1_sendsBack 1 := ⟨(q_uw 1125 rfl rfl), (q_uw 87 rfl rfl), by decide +kernel, by decide +kernel, by decide +kernel, by decide +kernel⟩
def M_X1_takes : q_M := (yX1_takes, cX1_takes, 2, (some .boolean), [], { frames := 0, cells := 0, slots := 0, locals := 0 })
theorem mo_X1_takes : q_MO M_X1_takes 1 := ⟨(q_uw 1120 rfl rfl), (q_uw 87 rfl rfl), by decide +kernel, by decide +kernel, by decide +kernel, by decide +kernel⟩
def M_X1_worthOf : q_M := (yX1_worthOf, cX1_worthOf, 2, (some .int), [], { frames := 0, cells := 0, slots := 0, locals := 0 })
theorem mo_X1_worthOf : q_MO M_X1_worthOf 1 := ⟨(q_uw 1146 rfl rfl), (q_uw 87 rfl rfl), by decide +kernel, by decide +kernel, by decide +kernel, by decide +kernel⟩
def M_X2_clear : q_M := (yX2_clear, cX2_clear, 1, none, [], { frames := 1, cells := 0, slots := 0, locals := 23 })
theorem mo_X2_clear : q_MO M_X2_clear 0 := ⟨(q_uw 466 rfl rfl), (q_uw 82 rfl rfl), by decide +kernel, by decide +kernel, by decide +kernel, by decide +kernel⟩
def M_X2_copyFrom : q_M := (yX2_copyFrom, cX2_copyFrom, 2, none, [], { frames := 1, cells := 0, slots := 0, locals := 80 })
theorem mo_X2_copyFrom : q_MO M_X2_copyFrom 1 := ⟨(q_uw 771 rfl rfl), (q_uw 82 rfl rfl), by decide +kernel, by decide +kernel, by decide +kernel, by decide +kernel⟩
def M_X2_init : q_M := (yX2_init, cX2_init, 1, none, [], { frames := 1, cells := 1, slots := 6, locals := 40 })
theorem mo_X2_init : q_MO M_X2_init 0 := ⟨(q_uw 147 rfl rfl), (q_uw 82 rfl rfl), by decide +kernel, by decide +kernel, by decide +kernel, by decide +kernel⟩
def M_X2_mostBut : q_M := (yX2_mostBut, cX2_mostBut, 5, (some .int), [], { frames := 0, cells := 0, slots := 0, locals := 0 })
theorem mo_X2_mostBut : q_MO M_X2_mostBut 1 := ⟨(q_uw 853 rfl rfl), (q_uw 82 rfl rfl), by decide +kernel, by decide +kernel, by decide +kernel, by decide +kernel⟩
def M_X2_move : q_M := (yX2_move, cX2_move, 4, none, [], { frames := 0, cells := 0, slots := 0, locals := 0 })
theorem mo_X2_move : q_MO M_X2_move 3 := ⟨(q_uw 849 rfl rfl), (q_uw 82 rfl rfl), by decide +kernel, by decide +kernel, by decide +kernel, by decide +kernel⟩
def M_X2_movePortion : q_M := (yX2_movePortion, cX2_movePortion, 7, none, [], { frames := 2, cells := 0, slots := 0, locals := 43 })
theorem mo_X2_movePortion : q_MO M_X2_movePortion 2 := ⟨(q_uw 843 rfl rfl), (q_uw 82 rfl rfl), by decide +kernel, by decide +kernel, by decide +kernel, by decide +kernel⟩
def M_X2_of : q_M := (yX2_of, cX2_of, 2, (some .int), [], { frames := 0, cells := 0, slots := 0, locals := 0 })
theorem mo_X2_of : q_MO M_X2_of 1 := ⟨(q_uw 822 rfl rfl), (q_uw 82 rfl rfl), by decide +kernel, by decide +kernel, by decide +kernel, by decide +kernel⟩
def M_X2_put : q_M := (yX2_put, cX2_put, 3, none, [], { frames := 0, cells := 0, slots := 0, locals := 0 })
theorem mo_X2_put : q_MO M_X2_put 2 := ⟨(q_uw 676 rfl rfl), (q_uw 82 rfl rfl), by decide +kernel, by decide +kernel, by decide +kernel, by decide +kernel⟩
def M_X2_putAll : q_M := (yX2_putAll, cX2_putAll, 3, none, [], { frames := 0, cells := 0, slots := 0, locals := 0 })
theorem mo_X2_putAll : q_MO M_X2_putAll 1 := ⟨(q_uw 827 rfl rfl), (q_uw 82 rfl rfl), by decide +kernel, by decide +kernel, by decide +kernel, by decide +kernel⟩
def M_X3_addLast : q_M := (yX3_addLast, cX3_addLast, 3, (some (.object "RecyclingLine$Parcel")), [], { frames := 2, cells := 0, slots := 0, locals := 43 })
theorem mo_X3_addLast : q_MO M_X3_addLast 1 := ⟨(q_uw 667 rfl rfl), (q_uw 80 rfl rfl), by decide +kernel, by decide +kernel, by decide +kernel, by decide +kernel⟩
def M_X3_copyFrom : q_M := (yX3_copyFrom, cX3_copyFrom, 3, none, [], { frames := 3, cells := 0, slots := 0, locals := 122 })
theorem mo_X3_copyFrom : q_MO M_X3_copyFrom 1 := ⟨(q_uw 781 rfl rfl), (q_uw 80 rfl rfl), by decide +kernel, by decide +kernel, by decide +kernel, by decide +kernel⟩
def M_X3_dropFirst : q_M := (yX3_dropFirst, cX3_dropFirst, 1, none, [], { frames := 0, cells := 0, slots := 0, locals := 0 })
theorem mo_X3_dropFirst : q_MO M_X3_dropFirst 0 := ⟨(q_uw 857 rfl rfl), (q_uw 80 rfl rfl), by decide +kernel, by decide +kernel, by decide +kernel, by decide +kernel⟩
def M_X3_dropLast : q_M := (yX3_dropLast, cX3_dropLast, 1, none, [], { frames := 0, cells := 0, slots := 0, locals := 0 })
theorem mo_X3_dropLast : q_MO M_X3_dropLast 0 := ⟨(q_uw 680 rfl rfl), (q_uw 80 rfl rfl), by decide +kernel, by decide +kernel, by decide +kernel, by decide +kernel⟩
def M_X3_init : q_M := (yX3_init, cX3_init, 2, none, [], { frames := 3, cells := 91, slots := 330, locals := 80 })
theorem mo_X3_init : q_MO M_X3_init 0 := ⟨(q_uw 134 rfl rfl), (q_uw 80 rfl rfl), by decide +kernel, by decide +kernel, by decide +kernel, by decide +kernel⟩
def M_X3_isFull : q_M := (yX3_isFull, cX3_isFull, 1, (some .boolean), [], { frames := 0, cells := 0, slots := 0, locals := 0 })
theorem mo_X3_isFull : q_MO M_X3_isFull 0 := ⟨(q_uw 671 rfl rfl), (q_uw 80 rfl rfl), by decide +kernel, by decide +kernel, by decide +kernel, by decide +kernel⟩
def M_X3_parcelAt : q_M := (yX3_parcelAt, cX3_parcelAt, 2, (some (.object "RecyclingLine$Parcel")), [], { frames := 0, cells := 0, slots := 0, locals := 0 })
theorem mo_X3_parcelAt : q_MO M_X3_parcelAt 1 := ⟨(q_uw 839 rfl rfl), (q_uw 80 rfl rfl), by decide +kernel, by decide +kernel, by decide +kernel, by decide +kernel⟩
def M_X3_totalMass : q_M := (yX3_totalMass, cX3_totalMass, 3, (some .int), [], { frames := 0, cells := 0, slots := 0, locals := 0 })
theorem mo_X3_totalMass : q_MO M_X3_totalMass 0 := ⟨(q_uw 726 rfl rfl), (q_uw 80 rfl rfl), by decide +kernel, by decide +kernel, by decide +kernel, by decide +kernel⟩
def M_X4_addStation : q_M := (yX4_addStation, cX4_addStation, 6, none, [], { frames := 2, cells := 0, slots := 0, locals := 43 })
theorem mo_X4_addStation : q_MO M_X4_addStation 4 := ⟨(q_uw 458 rfl rfl), (q_uw 79 rfl rfl), by decide +kernel, by decide +kernel, by decide +kernel, by decide +kernel⟩
def M_X4_buyerAt : q_M := (yX4_buyerAt, cX4_buyerAt, 2, (some (.object "RecyclingLine$Buyer")), [], { frames := 0, cells := 0, slots := 0, locals := 0 })
theorem mo_X4_buyerAt : q_MO M_X4_buyerAt 1 := ⟨(q_uw 1038 rfl rfl), (q_uw 79 rfl rfl), by decide +kernel, by decide +kernel, by decide +kernel, by decide +kernel⟩
def M_X4_buyerNamed : q_M := (yX4_buyerNamed, cX4_buyerNamed, 3, (some .int), [], { frames := 0, cells := 0, slots := 0, locals := 0 })
theorem mo_X4_buyerNamed : q_MO M_X4_buyerNamed 1 := ⟨(q_uw 700 rfl rfl), (q_uw 79 rfl rfl), by decide +kernel, by decide +kernel, by decide +kernel, by decide +kernel⟩
def M_X4_copyFrom : q_M := (yX4_copyFrom, cX4_copyFrom, 3, none, [], { frames := 4, cells := 0, slots := 0, locals := 144 })
theorem mo_X4_copyFrom : q_MO M_X4_copyFrom 1 := ⟨(q_uw 759 rfl rfl), (q_uw 79 rfl rfl), by decide +kernel, by decide +kernel, by decide +kernel, by decide +kernel⟩
def M_X4_feedBelt : q_M := (yX4_feedBelt, cX4_feedBelt, 3, none, [], { frames := 3, cells := 0, slots := 0, locals := 69 })
theorem mo_X4_feedBelt : q_MO M_X4_feedBelt 0 := ⟨(q_uw 835 rfl rfl), (q_uw 79 rfl rfl), by decide +kernel, by decide +kernel, by decide +kernel, by decide +kernel⟩
def M_X4_goesRound : q_M := (yX4_goesRound, cX4_goesRound, 4, (some .boolean), [], { frames := 1, cells := 0, slots := 0, locals := 22 })
theorem mo_X4_goesRound : q_MO M_X4_goesRound 1 := ⟨(q_uw 813 rfl rfl), (q_uw 79 rfl rfl), by decide +kernel, by decide +kernel, by decide +kernel, by decide +kernel⟩
def M_X4_greatestTiredness : q_M := (yX4_greatestTiredness, cX4_greatestTiredness, 3, (some .int), [], { frames := 1, cells := 0, slots := 0, locals := 40 })
theorem mo_X4_greatestTiredness : q_MO M_X4_greatestTiredness 0 := ⟨(q_uw 1180 rfl rfl), (q_uw 79 rfl rfl), by decide +kernel, by decide +kernel, by decide +kernel, by decide +kernel⟩
def M_X4_handOver : q_M := (yX4_handOver, cX4_handOver, 4, (some .int), [], { frames := 2, cells := 0, slots := 0, locals := 64 })
theorem mo_X4_handOver : q_MO M_X4_handOver 2 := ⟨(q_uw 1138 rfl rfl), (q_uw 79 rfl rfl), by decide +kernel, by decide +kernel, by decide +kernel, by decide +kernel⟩
def M_X4_hasMaterial : q_M := (yX4_hasMaterial, cX4_hasMaterial, 2, (some .boolean), [], { frames := 0, cells := 0, slots := 0, locals := 0 })
theorem mo_X4_hasMaterial : q_MO M_X4_hasMaterial 1 := ⟨(q_uw 1008 rfl rfl), (q_uw 79 rfl rfl), by decide +kernel, by decide +kernel, by decide +kernel, by decide +kernel⟩
def M_X4_heapAt : q_M := (yX4_heapAt, cX4_heapAt, 4, (some (.object "RecyclingLine$Heap")), [], { frames := 1, cells := 0, slots := 0, locals := 21 })
theorem mo_X4_heapAt : q_MO M_X4_heapAt 1 := ⟨(q_uw 1013 rfl rfl), (q_uw 79 rfl rfl), by decide +kernel, by decide +kernel, by decide +kernel, by decide +kernel⟩
def M_X4_init : q_M := (yX4_init, cX4_init, 2, none, [], { frames := 4, cells := 276, slots := 1193, locals := 101 })
theorem mo_X4_init : q_MO M_X4_init 0 := ⟨(q_uw 115 rfl rfl), (q_uw 79 rfl rfl), by decide +kernel, by decide +kernel, by decide +kernel, by decide +kernel⟩
def M_X4_isEmptied : q_M := (yX4_isEmptied, cX4_isEmptied, 1, (some .boolean), [], { frames := 2, cells := 0, slots := 0, locals := 42 })
theorem mo_X4_isEmptied : q_MO M_X4_isEmptied 0 := ⟨(q_uw 796 rfl rfl), (q_uw 79 rfl rfl), by decide +kernel, by decide +kernel, by decide +kernel, by decide +kernel⟩
def M_X4_isTarget : q_M := (yX4_isTarget, cX4_isTarget, 3, (some .boolean), [], { frames := 0, cells := 0, slots := 0, locals := 0 })
theorem mo_X4_isTarget : q_MO M_X4_isTarget 1 := ⟨(q_uw 818 rfl rfl), (q_uw 79 rfl rfl), by decide +kernel, by decide +kernel, by decide +kernel, by decide +kernel⟩
def M_X4_leaveBelt : q_M := (yX4_leaveBelt, cX4_leaveBelt, 4, none, [], { frames := 3, cells := 0, slots := 0, locals := 65 })
theorem mo_X4_leaveBelt : q_MO M_X4_leaveBelt 0 := ⟨(q_uw 805 rfl rfl), (q_uw 79 rfl rfl), by decide +kernel, by decide +kernel, by decide +kernel, by decide +kernel⟩
def M_X4_makeTicks : q_M := (yX4_makeTicks, cX4_makeTicks, 4, none, [], { frames := 5, cells := 0, slots := 0, locals := 113 })
theorem mo_X4_makeTicks : q_MO M_X4_makeTicks 1 := ⟨(q_uw 801 rfl rfl), (q_uw 79 rfl rfl), by decide +kernel, by decide +kernel, by decide +kernel, by decide +kernel⟩
def M_X4_massInBunkers : q_M := (yX4_massInBunkers, cX4_massInBunkers, 3, (some .int), [], { frames := 0, cells := 0, slots := 0, locals := 0 })
theorem mo_X4_massInBunkers : q_MO M_X4_massInBunkers 0 := ⟨(q_uw 734 rfl rfl), (q_uw 79 rfl rfl), by decide +kernel, by decide +kernel, by decide +kernel, by decide +kernel⟩
def M_X4_massOnBelt : q_M := (yX4_massOnBelt, cX4_massOnBelt, 3, (some .int), [], { frames := 0, cells := 0, slots := 0, locals := 0 })
theorem mo_X4_massOnBelt : q_MO M_X4_massOnBelt 0 := ⟨(q_uw 730 rfl rfl), (q_uw 79 rfl rfl), by decide +kernel, by decide +kernel, by decide +kernel, by decide +kernel⟩
def M_X4_moveBelt : q_M := (yX4_moveBelt, cX4_moveBelt, 3, none, [], { frames := 0, cells := 0, slots := 0, locals := 0 })
theorem mo_X4_moveBelt : q_MO M_X4_moveBelt 0 := ⟨(q_uw 831 rfl rfl), (q_uw 79 rfl rfl), by decide +kernel, by decide +kernel, by decide +kernel, by decide +kernel⟩
def M_X4_parcelsOnBelt : q_M := (yX4_parcelsOnBelt, cX4_parcelsOnBelt, 3, (some .int), [], { frames := 1, cells := 0, slots := 0, locals := 20 })
theorem mo_X4_parcelsOnBelt : q_MO M_X4_parcelsOnBelt 0 := ⟨(q_uw 714 rfl rfl), (q_uw 79 rfl rfl), by decide +kernel, by decide +kernel, by decide +kernel, by decide +kernel⟩
def M_X4_pressBale : q_M := (yX4_pressBale, cX4_pressBale, 3, none, [], { frames := 3, cells := 0, slots := 0, locals := 69 })
theorem mo_X4_pressBale : q_MO M_X4_pressBale 1 := ⟨(q_uw 882 rfl rfl), (q_uw 79 rfl rfl), by decide +kernel, by decide +kernel, by decide +kernel, by decide +kernel⟩
def M_X4_pressBales : q_M := (yX4_pressBales, cX4_pressBales, 3, none, [], { frames := 4, cells := 0, slots := 0, locals := 91 })
theorem mo_X4_pressBales : q_MO M_X4_pressBales 1 := ⟨(q_uw 878 rfl rfl), (q_uw 79 rfl rfl), by decide +kernel, by decide +kernel, by decide +kernel, by decide +kernel⟩
def M_X4_reset : q_M := (yX4_reset, cX4_reset, 1, none, [], { frames := 2, cells := 1, slots := 10, locals := 80 })
theorem mo_X4_reset : q_MO M_X4_reset 0 := ⟨(q_uw 554 rfl rfl), (q_uw 79 rfl rfl), by decide +kernel, by decide +kernel, by decide +kernel, by decide +kernel⟩
def M_X4_stationAt : q_M := (yX4_stationAt, cX4_stationAt, 2, (some (.object "RecyclingLine$Station")), [], { frames := 0, cells := 0, slots := 0, locals := 0 })
theorem mo_X4_stationAt : q_MO M_X4_stationAt 1 := ⟨(q_uw 809 rfl rfl), (q_uw 79 rfl rfl), by decide +kernel, by decide +kernel, by decide +kernel, by decide +kernel⟩
def M_X4_takeBack : q_M := (yX4_takeBack, cX4_takeBack, 3, none, [], { frames := 3, cells := 0, slots := 0, locals := 65 })
theorem mo_X4_takeBack : q_MO M_X4_takeBack 1 := ⟨(q_uw 1134 rfl rfl), (q_uw 79 rfl rfl), by decide +kernel, by decide +kernel, by decide +kernel, by decide +kernel⟩
def M_X5_copyFrom : q_M := (yX5_copyFrom, cX5_copyFrom, 2, none, [], { frames := 2, cells := 0, slots := 0, locals := 101 })
theorem mo_X5_copyFrom : q_MO M_X5_copyFrom 1 := ⟨(q_uw 767 rfl rfl), (q_uw 81 rfl rfl), by decide +kernel, by decide +kernel, by decide +kernel, by decide +kernel⟩
def M_X5_init : q_M := (yX5_init, cX5_init, 1, none, [], { frames := 2, cells := 2, slots := 8, locals := 60 })
theorem mo_X5_init : q_MO M_X5_init 0 := ⟨(q_uw 141 rfl rfl), (q_uw 81 rfl rfl), by decide +kernel, by decide +kernel, by decide +kernel, by decide +kernel⟩
def M_X6_capacity : q_M := (yX6_capacity, cX6_capacity, 1, (some .int), [], { frames := 0, cells := 0, slots := 0, locals := 0 })
theorem mo_X6_capacity : q_MO M_X6_capacity 0 := ⟨(q_uw 866 rfl rfl), (q_uw 86 rfl rfl), by decide +kernel, by decide +kernel, by decide +kernel, by decide +kernel⟩
def M_X6_copyFrom : q_M := (yX6_copyFrom, cX6_copyFrom, 2, none, [], { frames := 3, cells := 0, slots := 0, locals := 122 })
theorem mo_X6_copyFrom : q_MO M_X6_copyFrom 1 := ⟨(q_uw 763 rfl rfl), (q_uw 86 rfl rfl), by decide +kernel, by decide +kernel, by decide +kernel, by decide +kernel⟩
def M_X6_init : q_M := (yX6_init, cX6_init, 1, none, [], { frames := 3, cells := 5, slots := 18, locals := 80 })
theorem mo_X6_init : q_MO M_X6_init 0 := ⟨(q_uw 306 rfl rfl), (q_uw 86 rfl rfl), by decide +kernel, by decide +kernel, by decide +kernel, by decide +kernel⟩
def M_X6_isSlotEmpty : q_M := (yX6_isSlotEmpty, cX6_isSlotEmpty, 1, (some .boolean), [], { frames := 0, cells := 0, slots := 0, locals := 0 })
theorem mo_X6_isSlotEmpty : q_MO M_X6_isSlotEmpty 0 := ⟨(q_uw 718 rfl rfl), (q_uw 86 rfl rfl), by decide +kernel, by decide +kernel, by decide +kernel, by decide +kernel⟩
def M_X6_pick : q_M := (yX6_pick, cX6_pick, 6, none, [], { frames := 1, cells := 0, slots := 0, locals := 40 })
theorem mo_X6_pick : q_MO M_X6_pick 1 := ⟨(q_uw 861 rfl rfl), (q_uw 86 rfl rfl), by decide +kernel, by decide +kernel, by decide +kernel, by decide +kernel⟩
def M_X6_relieve : q_M := (yX6_relieve, cX6_relieve, 2, none, [], { frames := 0, cells := 0, slots := 0, locals := 0 })
theorem mo_X6_relieve : q_MO M_X6_relieve 1 := ⟨(q_uw 462 rfl rfl), (q_uw 86 rfl rfl), by decide +kernel, by decide +kernel, by decide +kernel, by decide +kernel⟩
def M_X7_addLast : q_M := (yX7_addLast, cX7_addLast, 2, (some (.object "RecyclingLine$Bale")), [], { frames := 2, cells := 0, slots := 0, locals := 43 })
theorem mo_X7_addLast : q_MO M_X7_addLast 0 := ⟨(q_uw 886 rfl rfl), (q_uw 83 rfl rfl), by decide +kernel, by decide +kernel, by decide +kernel, by decide +kernel⟩
def M_X7_baleAt : q_M := (yX7_baleAt, cX7_baleAt, 2, (some (.object "RecyclingLine$Bale")), [], { frames := 0, cells := 0, slots := 0, locals := 0 })
theorem mo_X7_baleAt : q_MO M_X7_baleAt 1 := ⟨(q_uw 1025 rfl rfl), (q_uw 83 rfl rfl), by decide +kernel, by decide +kernel, by decide +kernel, by decide +kernel⟩
def M_X7_copyFrom : q_M := (yX7_copyFrom, cX7_copyFrom, 3, none, [], { frames := 3, cells := 0, slots := 0, locals := 122 })
theorem mo_X7_copyFrom : q_MO M_X7_copyFrom 1 := ⟨(q_uw 786 rfl rfl), (q_uw 83 rfl rfl), by decide +kernel, by decide +kernel, by decide +kernel, by decide +kernel⟩
def M_X7_dropBale : q_M := (yX7_dropBale, cX7_dropBale, 4, none, [], { frames := 1, cells := 0, slots := 0, locals := 21 })
theorem mo_X7_dropBale : q_MO M_X7_dropBale 1 := ⟨(q_uw 1129 rfl rfl), (q_uw 83 rfl rfl), by decide +kernel, by decide +kernel, by decide +kernel, by decide +kernel⟩
def M_X7_init : q_M := (yX7_init, cX7_init, 2, none, [], { frames := 3, cells := 121, slots := 560, locals := 80 })
theorem mo_X7_init : q_MO M_X7_init 0 := ⟨(q_uw 196 rfl rfl), (q_uw 83 rfl rfl), by decide +kernel, by decide +kernel, by decide +kernel, by decide +kernel⟩
def M_X7_totalMass : q_M := (yX7_totalMass, cX7_totalMass, 3, (some .int), [], { frames := 0, cells := 0, slots := 0, locals := 0 })
theorem mo_X7_totalMass : q_MO M_X7_totalMass 0 := ⟨(q_uw 738 rfl rfl), (q_uw 83 rfl rfl), by decide +kernel, by decide +kernel, by decide +kernel, by decide +kernel⟩
def M_X8_copyFrom : q_M := (yX8_copyFrom, cX8_copyFrom, 2, none, [], { frames := 0, cells := 0, slots := 0, locals := 0 })
theorem mo_X8_copyFrom : q_MO M_X8_copyFrom 1 := ⟨(q_uw 561 rfl rfl), (q_uw 85 rfl rfl), by decide +kernel, by decide +kernel, by decide +kernel, by decide +kernel⟩
def M_X8_init : q_M := (yX8_init, cX8_init, 1, none, [], { frames := 1, cells := 0, slots := 0, locals := 40 })
theorem mo_X8_init : q_MO M_X8_init 0 := ⟨(q_uw 251 rfl rfl), (q_uw 85 rfl rfl), by decide +kernel, by decide +kernel, by decide +kernel, by decide +kernel⟩
def M_X9_fail : q_M := (yX9_fail, cX9_fail, 2, none, [], { frames := 0, cells := 0, slots := 0, locals := 0 })
theorem mo_X9_fail : q_MO M_X9_fail 1 := ⟨(q_uw 635 rfl rfl), (q_uw 90 rfl rfl), by decide +kernel, by decide +kernel, by decide +kernel, by decide +kernel⟩
def M_X9_init : q_M := (yX9_init, cX9_init, 4, none, [], { frames := 1, cells := 0, slots := 0, locals := 40 })
theorem mo_X9_init : q_MO M_X9_init 3 := ⟨(q_uw 520 rfl rfl), (q_uw 90 rfl rfl), by decide +kernel, by decide +kernel, by decide +kernel, by decide +kernel⟩
def M_X9_isBlank : q_M := (yX9_isBlank, cX9_isBlank, 1, (some .boolean), [], { frames := 0, cells := 0, slots := 0, locals := 0 })
theorem mo_X9_isBlank : q_MO M_X9_isBlank 1 := ⟨(q_uw 568 rfl rfl), (q_uw 90 rfl rfl), by decide +kernel, by decide +kernel, by decide +kernel, by decide +kernel⟩
def M_X9_isDigit : q_M := (yX9_isDigit, cX9_isDigit, 1, (some .boolean), [], { frames := 0, cells := 0, slots := 0, locals := 0 })
theorem mo_X9_isDigit : q_MO M_X9_isDigit 1 := ⟨(q_uw 574 rfl rfl), (q_uw 90 rfl rfl), by decide +kernel, by decide +kernel, by decide +kernel, by decide +kernel⟩
def M_X9_isKeyword : q_M := (yX9_isKeyword, cX9_isKeyword, 1, (some .boolean), [], { frames := 5, cells := 0, slots := 0, locals := 107 })
theorem mo_X9_isKeyword : q_MO M_X9_isKeyword 0 := ⟨(q_uw 693 rfl rfl), (q_uw 90 rfl rfl), by decide +kernel, by decide +kernel, by decide +kernel, by decide +kernel⟩
def M_X9_isLetter : q_M := (yX9_isLetter, cX9_isLetter, 1, (some .boolean), [], { frames := 0, cells := 0, slots := 0, locals := 0 })
theorem mo_X9_isLetter : q_MO M_X9_isLetter 1 := ⟨(q_uw 571 rfl rfl), (q_uw 90 rfl rfl), by decide +kernel, by decide +kernel, by decide +kernel, by decide +kernel⟩
def M_X9_isWord : q_M := (yX9_isWord, cX9_isWord, 3, (some .boolean), [], { frames := 4, cells := 0, slots := 0, locals := 85 })
theorem mo_X9_isWord : q_MO M_X9_isWord 1 := ⟨(q_uw 579 rfl rfl), (q_uw 90 rfl rfl), by decide +kernel, by decide +kernel, by decide +kernel, by decide +kernel⟩
def M_X9_nameCode : q_M := (yX9_nameCode, cX9_nameCode, 5, (some .int), [], { frames := 1, cells := 0, slots := 0, locals := 20 })
theorem mo_X9_nameCode : q_MO M_X9_nameCode 3 := ⟨(q_uw 696 rfl rfl), (q_uw 90 rfl rfl), by decide +kernel, by decide +kernel, by decide +kernel, by decide +kernel⟩
def M_X9_nextToken : q_M := (yX9_nextToken, cX9_nextToken, 1, none, [], { frames := 1, cells := 0, slots := 0, locals := 20 })
theorem mo_X9_nextToken : q_MO M_X9_nextToken 0 := ⟨(q_uw 565 rfl rfl), (q_uw 90 rfl rfl), by decide +kernel, by decide +kernel, by decide +kernel, by decide +kernel⟩
def M_X9_readBuyer : q_M := (yX9_readBuyer, cX9_readBuyer, 2, none, [], { frames := 7, cells := 0, slots := 0, locals := 148 })
theorem mo_X9_readBuyer : q_MO M_X9_readBuyer 0 := ⟨(q_uw 685 rfl rfl), (q_uw 90 rfl rfl), by decide +kernel, by decide +kernel, by decide +kernel, by decide +kernel⟩
def M_X9_readLoad : q_M := (yX9_readLoad, cX9_readLoad, 3, none, [], { frames := 3, cells := 0, slots := 0, locals := 65 })
theorem mo_X9_readLoad : q_MO M_X9_readLoad 0 := ⟨(q_uw 663 rfl rfl), (q_uw 90 rfl rfl), by decide +kernel, by decide +kernel, by decide +kernel, by decide +kernel⟩
def M_X9_readName : q_M := (yX9_readName, cX9_readName, 2, (some .int), [], { frames := 6, cells := 0, slots := 0, locals := 127 })
theorem mo_X9_readName : q_MO M_X9_readName 0 := ⟨(q_uw 689 rfl rfl), (q_uw 90 rfl rfl), by decide +kernel, by decide +kernel, by decide +kernel, by decide +kernel⟩
def M_X9_readNumber : q_M := (yX9_readNumber, cX9_readNumber, 4, (some .int), [], { frames := 2, cells := 0, slots := 0, locals := 40 })
theorem mo_X9_readNumber : q_MO M_X9_readNumber 2 := ⟨(q_uw 631 rfl rfl), (q_uw 90 rfl rfl), by decide +kernel, by decide +kernel, by decide +kernel, by decide +kernel⟩
def M_X9_readSemicolon : q_M := (yX9_readSemicolon, cX9_readSemicolon, 1, none, [], { frames := 2, cells := 0, slots := 0, locals := 40 })
theorem mo_X9_readSemicolon : q_MO M_X9_readSemicolon 0 := ⟨(q_uw 639 rfl rfl), (q_uw 90 rfl rfl), by decide +kernel, by decide +kernel, by decide +kernel, by decide +kernel⟩
def M_X9_readSetting : q_M := (yX9_readSetting, cX9_readSetting, 2, none, [], { frames := 3, cells := 0, slots := 0, locals := 63 })
theorem mo_X9_readSetting : q_MO M_X9_readSetting 0 := ⟨(q_uw 654 rfl rfl), (q_uw 90 rfl rfl), by decide +kernel, by decide +kernel, by decide +kernel, by decide +kernel⟩
def M_X9_readStatement : q_M := (yX9_readStatement, cX9_readStatement, 1, none, [], { frames := 8, cells := 0, slots := 0, locals := 169 })
theorem mo_X9_readStatement : q_MO M_X9_readStatement 0 := ⟨(q_uw 643 rfl rfl), (q_uw 90 rfl rfl), by decide +kernel, by decide +kernel, by decide +kernel, by decide +kernel⟩
def M_X9_readStation : q_M := (yX9_readStation, cX9_readStation, 5, none, [], { frames := 3, cells := 0, slots := 0, locals := 68 })
theorem mo_X9_readStation : q_MO M_X9_readStation 0 := ⟨(q_uw 648 rfl rfl), (q_uw 90 rfl rfl), by decide +kernel, by decide +kernel, by decide +kernel, by decide +kernel⟩
def M_X9_readText : q_M := (yX9_readText, cX9_readText, 2, (some .int), [], { frames := 9, cells := 1, slots := 10, locals := 189 })
theorem mo_X9_readText : q_MO M_X9_readText 0 := ⟨(q_uw 550 rfl rfl), (q_uw 90 rfl rfl), by decide +kernel, by decide +kernel, by decide +kernel, by decide +kernel⟩
theorem ac_byte : Cond.arrayClass .byte ∈ q_UW := (q_uw 163 rfl rfl)
theorem ac_double : Cond.arrayClass .double ∈ q_UW := (q_uw 1630 rfl rfl)
theorem ac_int : Cond.arrayClass .int ∈ q_UW := (q_uw 164 rfl rfl)
theorem ac_long : Cond.arrayClass .long ∈ q_UW := (q_uw 1281 rfl rfl)
theorem c2_X10_269 : Cond.constantLong RX10 269 (-1) ∈ q_UW := (q_uw 739 rfl rfl)
theorem c2_X11_127 : Cond.constantLong RX11 127 (27) ∈ q_UW := (q_uw 1383 rfl rfl)
theorem c2_X11_129 : Cond.constantLong RX11 129 (96) ∈ q_UW := (q_uw 1384 rfl rfl)
theorem c2_X11_185 : Cond.constantLong RX11 185 (6) ∈ q_UW := (q_uw 1396 rfl rfl)
theorem c2_X11_258 : Cond.constantLong RX11 258 (7) ∈ q_UW := (q_uw 1416 rfl rfl)
theorem c2_X11_267 : Cond.constantLong RX11 267 (10) ∈ q_UW := (q_uw 1429 rfl rfl)
theorem c2_X11_272 : Cond.constantLong RX11 272 (46) ∈ q_UW := (q_uw 1450 rfl rfl)
theorem c2_X11_283 : Cond.constantLong RX11 283 (5) ∈ q_UW := (q_uw 1474 rfl rfl)
theorem c2_X11_285 : Cond.constantLong RX11 285 (-1) ∈ q_UW := (q_uw 1479 rfl rfl)
theorem c2_X11_287 : Cond.constantLong RX11 287 (999) ∈ q_UW := (q_uw 1492 rfl rfl)
theorem c2_X11_292 : Cond.constantLong RX11 292 (9) ∈ q_UW := (q_uw 1505 rfl rfl)
theorem c2_X11_297 : Cond.constantLong RX11 297 (200) ∈ q_UW := (q_uw 1514 rfl rfl)
theorem c2_X11_318 : Cond.constantLong RX11 318 (4) ∈ q_UW := (q_uw 1608 rfl rfl)
theorem c2_X11_326 : Cond.constantLong RX11 326 (100) ∈ q_UW := (q_uw 1621 rfl rfl)
theorem cn_X4_13 : Cond.methodLink RX4 13 ⟨"[I", "clone", "()Ljava/lang/Object;"⟩ ∈ q_UW ∧ Cond.sameMethod "[I" "java/lang/Object" "clone" "()Ljava/lang/Object;" ∈ q_UW ∧ Cond.native ⟨"java/lang/Object", "clone", "()Ljava/lang/Object;"⟩ ∈ q_UW ∧ Cond.instanceMethod ⟨"java/lang/Object", "clone", "()Ljava/lang/Object;"⟩ ∈ q_UW ∧ Cond.selects "[I" ⟨"[I", "clone", "()Ljava/lang/Object;"⟩ ⟨"java/lang/Object", "clone", "()Ljava/lang/Object;"⟩ ∈ q_UW ∧ Cond.castable "[I" "java/lang/Cloneable" ∈ q_NW := ⟨(q_uw 119 rfl rfl), (q_uw 120 rfl rfl), (q_uw 121 rfl rfl), (q_uw 122 rfl rfl), (q_uw 123 rfl rfl), (q_nwi 124 rfl rfl)⟩
theorem cp_X2_25 : Cond.methodLink RX2 25 arraycopyName ∈ q_UW ∧ Cond.native arraycopyName ∈ q_UW ∧ Cond.static arraycopyName ∈ q_UW ∧ Cond.initialized "java/lang/System" ∈ q_UW := ⟨(q_uw 772 rfl rfl), (q_uw 557 rfl rfl), (q_uw 556 rfl rfl), (q_uw 91 rfl rfl)⟩
theorem cp_X4_256 : Cond.methodLink RX4 256 arraycopyName ∈ q_UW ∧ Cond.native arraycopyName ∈ q_UW ∧ Cond.static arraycopyName ∈ q_UW ∧ Cond.initialized "java/lang/System" ∈ q_UW := ⟨(q_uw 555 rfl rfl), (q_uw 557 rfl rfl), (q_uw 556 rfl rfl), (q_uw 91 rfl rfl)⟩
theorem fl_X0_10 : q_FL RX0 10 0 4 true := ⟨_, _, _, ck0, by decide, rfl, Or.inl (q_uw 221 rfl rfl)⟩
theorem fl_X0_16 : q_FL RX0 16 2 1 false := ⟨_, _, _, ck2, by decide, rfl, Or.inr ⟨_, (q_nwi 150 rfl rfl)⟩⟩
theorem fl_X0_20 : q_FL RX0 20 0 1 false := ⟨_, _, _, ck0, by decide, rfl, Or.inl (q_uw 211 rfl rfl)⟩
theorem fl_X0_27 : q_FL RX0 27 0 2 false := ⟨_, _, _, ck0, by decide, rfl, Or.inl (q_uw 214 rfl rfl)⟩
theorem fl_X0_30 : q_FL RX0 30 0 3 false := ⟨_, _, _, ck0, by decide, rfl, Or.inl (q_uw 218 rfl rfl)⟩
theorem fl_X0_33 : q_FL RX0 33 0 0 false := ⟨_, _, _, ck0, by decide, rfl, Or.inl (q_uw 207 rfl rfl)⟩
theorem fl_X1_13 : q_FL RX1 13 1 1 false := ⟨_, _, _, ck1, by decide, rfl, Or.inl (q_uw 365 rfl rfl)⟩
theorem fl_X1_16 : q_FL RX1 16 0 3 false := ⟨_, _, _, ck0, by decide, rfl, Or.inr ⟨_, (q_nwi 217 rfl rfl)⟩⟩
theorem fl_X1_19 : q_FL RX1 19 1 2 false := ⟨_, _, _, ck1, by decide, rfl, Or.inl (q_uw 368 rfl rfl)⟩
theorem fl_X1_22 : q_FL RX1 22 0 2 false := ⟨_, _, _, ck0, by decide, rfl, Or.inr ⟨_, (q_nwi 215 rfl rfl)⟩⟩
theorem fl_X1_25 : q_FL RX1 25 1 5 false := ⟨_, _, _, ck1, by decide, rfl, Or.inl (q_uw 377 rfl rfl)⟩
theorem fl_X1_28 : q_FL RX1 28 1 4 false := ⟨_, _, _, ck1, by decide, rfl, Or.inl (q_uw 374 rfl rfl)⟩
theorem fl_X1_39 : q_FL RX1 39 1 3 false := ⟨_, _, _, ck1, by decide, rfl, Or.inl (q_uw 371 rfl rfl)⟩
theorem fl_X1_48 : q_FL RX1 48 1 0 false := ⟨_, _, _, ck1, by decide, rfl, Or.inl (q_uw 363 rfl rfl)⟩
theorem fl_X1_51 : q_FL RX1 51 1 6 false := ⟨_, _, _, ck1, by decide, rfl, Or.inl (q_uw 380 rfl rfl)⟩
theorem fl_X1_7 : q_FL RX1 7 0 1 false := ⟨_, _, _, ck0, by decide, rfl, Or.inr ⟨_, (q_nwi 210 rfl rfl)⟩⟩
theorem fl_X10_100 : q_FL RX10 100 8 1 false := ⟨_, _, _, ck8, by decide, rfl, Or.inr ⟨_, (q_nwi 257 rfl rfl)⟩⟩
theorem fl_X10_103 : q_FL RX10 103 8 4 false := ⟨_, _, _, ck8, by decide, rfl, Or.inr ⟨_, (q_nwi 266 rfl rfl)⟩⟩
theorem fl_X10_106 : q_FL RX10 106 8 5 false := ⟨_, _, _, ck8, by decide, rfl, Or.inr ⟨_, (q_nwi 269 rfl rfl)⟩⟩
theorem fl_X10_109 : q_FL RX10 109 8 6 false := ⟨_, _, _, ck8, by decide, rfl, Or.inr ⟨_, (q_nwi 272 rfl rfl)⟩⟩
theorem fl_X10_119 : q_FL RX10 119 4 1 true := ⟨_, _, _, ck4, by decide, rfl, Or.inr ⟨_, (q_nwi 404 rfl rfl)⟩⟩
theorem fl_X10_129 : q_FL RX10 129 6 0 false := ⟨_, _, _, ck6, by decide, rfl, Or.inr ⟨_, (q_nwi 313 rfl rfl)⟩⟩
theorem fl_X10_134 : q_FL RX10 134 6 1 false := ⟨_, _, _, ck6, by decide, rfl, Or.inr ⟨_, (q_nwi 316 rfl rfl)⟩⟩
theorem fl_X10_137 : q_FL RX10 137 6 2 false := ⟨_, _, _, ck6, by decide, rfl, Or.inr ⟨_, (q_nwi 318 rfl rfl)⟩⟩
theorem fl_X10_140 : q_FL RX10 140 6 3 false := ⟨_, _, _, ck6, by decide, rfl, Or.inr ⟨_, (q_nwi 321 rfl rfl)⟩⟩
theorem fl_X10_143 : q_FL RX10 143 6 4 false := ⟨_, _, _, ck6, by decide, rfl, Or.inr ⟨_, (q_nwi 325 rfl rfl)⟩⟩
theorem fl_X10_149 : q_FL RX10 149 6 8 true := ⟨_, _, _, ck6, by decide, rfl, Or.inr ⟨_, (q_nwi 337 rfl rfl)⟩⟩
theorem fl_X10_153 : q_FL RX10 153 2 1 false := ⟨_, _, _, ck2, by decide, rfl, Or.inr ⟨_, (q_nwi 157 rfl rfl)⟩⟩
theorem fl_X10_158 : q_FL RX10 158 6 7 false := ⟨_, _, _, ck6, by decide, rfl, Or.inr ⟨_, (q_nwi 334 rfl rfl)⟩⟩
theorem fl_X10_16 : q_FL RX10 16 10 2 false := ⟨_, _, _, ck10, by decide, rfl, Or.inl (q_uw 472 rfl rfl)⟩
theorem fl_X10_162 : q_FL RX10 162 5 0 true := ⟨_, _, _, ck5, by decide, rfl, Or.inr ⟨_, (q_nwi 170 rfl rfl)⟩⟩
theorem fl_X10_171 : q_FL RX10 171 5 1 false := ⟨_, _, _, ck5, by decide, rfl, Or.inr ⟨_, (q_nwi 173 rfl rfl)⟩⟩
theorem fl_X10_174 : q_FL RX10 174 6 5 false := ⟨_, _, _, ck6, by decide, rfl, Or.inr ⟨_, (q_nwi 327 rfl rfl)⟩⟩
theorem fl_X10_175 : q_FL RX10 175 6 6 false := ⟨_, _, _, ck6, by decide, rfl, Or.inr ⟨_, (q_nwi 330 rfl rfl)⟩⟩
theorem fl_X10_20 : q_FL RX10 20 10 4 true := ⟨_, _, _, ck10, by decide, rfl, Or.inl (q_uw 474 rfl rfl)⟩
theorem fl_X10_204 : q_FL RX10 204 0 0 false := ⟨_, _, _, ck0, by decide, rfl, Or.inr ⟨_, (q_nwi 208 rfl rfl)⟩⟩
theorem fl_X10_209 : q_FL RX10 209 0 1 false := ⟨_, _, _, ck0, by decide, rfl, Or.inr ⟨_, (q_nwi 212 rfl rfl)⟩⟩
theorem fl_X10_212 : q_FL RX10 212 0 4 true := ⟨_, _, _, ck0, by decide, rfl, Or.inr ⟨_, (q_nwi 223 rfl rfl)⟩⟩
theorem fl_X10_213 : q_FL RX10 213 0 2 false := ⟨_, _, _, ck0, by decide, rfl, Or.inr ⟨_, (q_nwi 216 rfl rfl)⟩⟩
theorem fl_X10_216 : q_FL RX10 216 0 3 false := ⟨_, _, _, ck0, by decide, rfl, Or.inr ⟨_, (q_nwi 219 rfl rfl)⟩⟩
theorem fl_X10_227 : q_FL RX10 227 1 1 false := ⟨_, _, _, ck1, by decide, rfl, Or.inr ⟨_, (q_nwi 367 rfl rfl)⟩⟩
theorem fl_X10_230 : q_FL RX10 230 1 2 false := ⟨_, _, _, ck1, by decide, rfl, Or.inr ⟨_, (q_nwi 370 rfl rfl)⟩⟩
theorem fl_X10_233 : q_FL RX10 233 1 3 false := ⟨_, _, _, ck1, by decide, rfl, Or.inr ⟨_, (q_nwi 373 rfl rfl)⟩⟩
theorem fl_X10_236 : q_FL RX10 236 1 4 false := ⟨_, _, _, ck1, by decide, rfl, Or.inr ⟨_, (q_nwi 376 rfl rfl)⟩⟩
theorem fl_X10_239 : q_FL RX10 239 1 5 false := ⟨_, _, _, ck1, by decide, rfl, Or.inr ⟨_, (q_nwi 379 rfl rfl)⟩⟩
theorem fl_X10_24 : q_FL RX10 24 4 0 false := ⟨_, _, _, ck4, by decide, rfl, Or.inr ⟨_, (q_nwi 399 rfl rfl)⟩⟩
theorem fl_X10_242 : q_FL RX10 242 1 6 false := ⟨_, _, _, ck1, by decide, rfl, Or.inr ⟨_, (q_nwi 382 rfl rfl)⟩⟩
theorem fl_X10_247 : q_FL RX10 247 8 7 false := ⟨_, _, _, ck8, by decide, rfl, Or.inr ⟨_, (q_nwi 276 rfl rfl)⟩⟩
theorem fl_X10_260 : q_FL RX10 260 8 8 false := ⟨_, _, _, ck8, by decide, rfl, Or.inr ⟨_, (q_nwi 278 rfl rfl)⟩⟩
theorem fl_X10_263 : q_FL RX10 263 4 8 true := ⟨_, _, _, ck4, by decide, rfl, Or.inr ⟨_, (q_nwi 421 rfl rfl)⟩⟩
theorem fl_X10_266 : q_FL RX10 266 8 9 false := ⟨_, _, _, ck8, by decide, rfl, Or.inr ⟨_, (q_nwi 281 rfl rfl)⟩⟩
theorem fl_X10_271 : q_FL RX10 271 4 10 true := ⟨_, _, _, ck4, by decide, rfl, Or.inr ⟨_, (q_nwi 426 rfl rfl)⟩⟩
theorem fl_X10_274 : q_FL RX10 274 4 11 true := ⟨_, _, _, ck4, by decide, rfl, Or.inr ⟨_, (q_nwi 428 rfl rfl)⟩⟩
theorem fl_X10_32 : q_FL RX10 32 10 1 false := ⟨_, _, _, ck10, by decide, rfl, Or.inl (q_uw 471 rfl rfl)⟩
theorem fl_X10_343 : q_FL RX10 343 10 6 false := ⟨_, _, _, ck10, by decide, rfl, Or.inl (q_uw 476 rfl rfl)⟩
theorem fl_X10_346 : q_FL RX10 346 4 4 true := ⟨_, _, _, ck4, by decide, rfl, Or.inr ⟨_, (q_nwi 411 rfl rfl)⟩⟩
theorem fl_X10_359 : q_FL RX10 359 8 2 false := ⟨_, _, _, ck8, by decide, rfl, Or.inr ⟨_, (q_nwi 261 rfl rfl)⟩⟩
theorem fl_X10_362 : q_FL RX10 362 8 3 false := ⟨_, _, _, ck8, by decide, rfl, Or.inr ⟨_, (q_nwi 264 rfl rfl)⟩⟩
theorem fl_X10_52 : q_FL RX10 52 10 3 false := ⟨_, _, _, ck10, by decide, rfl, Or.inl (q_uw 473 rfl rfl)⟩
theorem fl_X10_55 : q_FL RX10 55 10 5 false := ⟨_, _, _, ck10, by decide, rfl, Or.inl (q_uw 475 rfl rfl)⟩
theorem fl_X10_58 : q_FL RX10 58 4 3 false := ⟨_, _, _, ck4, by decide, rfl, Or.inr ⟨_, (q_nwi 408 rfl rfl)⟩⟩
theorem fl_X10_69 : q_FL RX10 69 4 5 false := ⟨_, _, _, ck4, by decide, rfl, Or.inr ⟨_, (q_nwi 414 rfl rfl)⟩⟩
theorem fl_X10_72 : q_FL RX10 72 4 9 true := ⟨_, _, _, ck4, by decide, rfl, Or.inr ⟨_, (q_nwi 424 rfl rfl)⟩⟩
theorem fl_X10_76 : q_FL RX10 76 8 0 false := ⟨_, _, _, ck8, by decide, rfl, Or.inr ⟨_, (q_nwi 254 rfl rfl)⟩⟩
theorem fl_X10_81 : q_FL RX10 81 4 6 true := ⟨_, _, _, ck4, by decide, rfl, Or.inr ⟨_, (q_nwi 417 rfl rfl)⟩⟩
theorem fl_X10_85 : q_FL RX10 85 3 2 false := ⟨_, _, _, ck3, by decide, rfl, Or.inr ⟨_, (q_nwi 183 rfl rfl)⟩⟩
theorem fl_X10_9 : q_FL RX10 9 10 0 true := ⟨_, _, _, ck10, by decide, rfl, Or.inl (q_uw 470 rfl rfl)⟩
theorem fl_X10_93 : q_FL RX10 93 4 7 true := ⟨_, _, _, ck4, by decide, rfl, Or.inr ⟨_, (q_nwi 419 rfl rfl)⟩⟩
theorem fl_X10_97 : q_FL RX10 97 7 1 false := ⟨_, _, _, ck7, by decide, rfl, Or.inr ⟨_, (q_nwi 238 rfl rfl)⟩⟩
theorem fl_X11_1 : q_FL RX11 1 11 0 false := ⟨_, _, _, ck11, by decide, rfl, Or.inl (q_uw 1211 rfl rfl)⟩
theorem fl_X11_121 : q_FL RX11 121 11 18 false := ⟨_, _, _, ck11, by decide, rfl, Or.inl (q_uw 1229 rfl rfl)⟩
theorem fl_X11_124 : q_FL RX11 124 11 19 false := ⟨_, _, _, ck11, by decide, rfl, Or.inl (q_uw 1230 rfl rfl)⟩
theorem fl_X11_13 : q_FL RX11 13 11 1 true := ⟨_, _, _, ck11, by decide, rfl, Or.inl (q_uw 1212 rfl rfl)⟩
theorem fl_X11_17 : q_FL RX11 17 11 2 true := ⟨_, _, _, ck11, by decide, rfl, Or.inl (q_uw 1213 rfl rfl)⟩
theorem fl_X11_20 : q_FL RX11 20 11 3 true := ⟨_, _, _, ck11, by decide, rfl, Or.inl (q_uw 1214 rfl rfl)⟩
theorem fl_X11_23 : q_FL RX11 23 11 4 true := ⟨_, _, _, ck11, by decide, rfl, Or.inl (q_uw 1215 rfl rfl)⟩
theorem fl_X11_240 : q_FL RX11 240 11 22 false := ⟨_, _, _, ck11, by decide, rfl, Or.inl (q_uw 1233 rfl rfl)⟩
theorem fl_X11_27 : q_FL RX11 27 11 5 true := ⟨_, _, _, ck11, by decide, rfl, Or.inl (q_uw 1216 rfl rfl)⟩
theorem fl_X11_30 : q_FL RX11 30 11 6 true := ⟨_, _, _, ck11, by decide, rfl, Or.inl (q_uw 1217 rfl rfl)⟩
theorem fl_X11_33 : q_FL RX11 33 11 7 true := ⟨_, _, _, ck11, by decide, rfl, Or.inl (q_uw 1218 rfl rfl)⟩
theorem fl_X11_36 : q_FL RX11 36 11 8 true := ⟨_, _, _, ck11, by decide, rfl, Or.inl (q_uw 1219 rfl rfl)⟩
theorem fl_X11_39 : q_FL RX11 39 11 9 true := ⟨_, _, _, ck11, by decide, rfl, Or.inl (q_uw 1220 rfl rfl)⟩
theorem fl_X11_42 : q_FL RX11 42 11 11 true := ⟨_, _, _, ck11, by decide, rfl, Or.inl (q_uw 1222 rfl rfl)⟩
theorem fl_X11_45 : q_FL RX11 45 11 20 true := ⟨_, _, _, ck11, by decide, rfl, Or.inl (q_uw 1231 rfl rfl)⟩
theorem fl_X11_48 : q_FL RX11 48 11 21 true := ⟨_, _, _, ck11, by decide, rfl, Or.inl (q_uw 1232 rfl rfl)⟩
theorem fl_X11_57 : q_FL RX11 57 11 10 false := ⟨_, _, _, ck11, by decide, rfl, Or.inl (q_uw 1221 rfl rfl)⟩
theorem fl_X11_64 : q_FL RX11 64 11 12 false := ⟨_, _, _, ck11, by decide, rfl, Or.inl (q_uw 1223 rfl rfl)⟩
theorem fl_X11_75 : q_FL RX11 75 11 13 false := ⟨_, _, _, ck11, by decide, rfl, Or.inl (q_uw 1224 rfl rfl)⟩
theorem fl_X11_78 : q_FL RX11 78 11 14 false := ⟨_, _, _, ck11, by decide, rfl, Or.inl (q_uw 1225 rfl rfl)⟩
theorem fl_X11_85 : q_FL RX11 85 11 15 false := ⟨_, _, _, ck11, by decide, rfl, Or.inl (q_uw 1226 rfl rfl)⟩
theorem fl_X11_88 : q_FL RX11 88 11 16 false := ⟨_, _, _, ck11, by decide, rfl, Or.inl (q_uw 1227 rfl rfl)⟩
theorem fl_X11_98 : q_FL RX11 98 11 17 false := ⟨_, _, _, ck11, by decide, rfl, Or.inl (q_uw 1228 rfl rfl)⟩
theorem fl_X2_15 : q_FL RX2 15 2 1 false := ⟨_, _, _, ck2, by decide, rfl, Or.inl (q_uw 152 rfl rfl)⟩
theorem fl_X2_9 : q_FL RX2 9 2 0 true := ⟨_, _, _, ck2, by decide, rfl, Or.inl (q_uw 149 rfl rfl)⟩
theorem fl_X3_11 : q_FL RX3 11 3 0 true := ⟨_, _, _, ck3, by decide, rfl, Or.inl (q_uw 180 rfl rfl)⟩
theorem fl_X3_18 : q_FL RX3 18 3 2 false := ⟨_, _, _, ck3, by decide, rfl, Or.inl (q_uw 182 rfl rfl)⟩
theorem fl_X3_22 : q_FL RX3 22 3 1 false := ⟨_, _, _, ck3, by decide, rfl, Or.inl (q_uw 181 rfl rfl)⟩
theorem fl_X3_29 : q_FL RX3 29 5 0 true := ⟨_, _, _, ck5, by decide, rfl, Or.inr ⟨_, (q_nwi 167 rfl rfl)⟩⟩
theorem fl_X3_41 : q_FL RX3 41 2 1 false := ⟨_, _, _, ck2, by decide, rfl, Or.inr ⟨_, (q_nwi 154 rfl rfl)⟩⟩
theorem fl_X4_101 : q_FL RX4 101 6 8 true := ⟨_, _, _, ck6, by decide, rfl, Or.inr ⟨_, (q_nwi 336 rfl rfl)⟩⟩
theorem fl_X4_108 : q_FL RX4 108 2 1 false := ⟨_, _, _, ck2, by decide, rfl, Or.inr ⟨_, (q_nwi 156 rfl rfl)⟩⟩
theorem fl_X4_111 : q_FL RX4 111 6 4 false := ⟨_, _, _, ck6, by decide, rfl, Or.inr ⟨_, (q_nwi 324 rfl rfl)⟩⟩
theorem fl_X4_120 : q_FL RX4 120 3 2 false := ⟨_, _, _, ck3, by decide, rfl, Or.inr ⟨_, (q_nwi 184 rfl rfl)⟩⟩
theorem fl_X4_127 : q_FL RX4 127 6 0 false := ⟨_, _, _, ck6, by decide, rfl, Or.inr ⟨_, (q_nwi 314 rfl rfl)⟩⟩
theorem fl_X4_140 : q_FL RX4 140 6 5 false := ⟨_, _, _, ck6, by decide, rfl, Or.inr ⟨_, (q_nwi 328 rfl rfl)⟩⟩
theorem fl_X4_165 : q_FL RX4 165 8 0 false := ⟨_, _, _, ck8, by decide, rfl, Or.inr ⟨_, (q_nwi 255 rfl rfl)⟩⟩
theorem fl_X4_172 : q_FL RX4 172 5 1 false := ⟨_, _, _, ck5, by decide, rfl, Or.inr ⟨_, (q_nwi 174 rfl rfl)⟩⟩
theorem fl_X4_18 : q_FL RX4 18 4 1 true := ⟨_, _, _, ck4, by decide, rfl, Or.inl (q_uw 402 rfl rfl)⟩
theorem fl_X4_182 : q_FL RX4 182 8 3 false := ⟨_, _, _, ck8, by decide, rfl, Or.inr ⟨_, (q_nwi 263 rfl rfl)⟩⟩
theorem fl_X4_203 : q_FL RX4 203 7 1 false := ⟨_, _, _, ck7, by decide, rfl, Or.inr ⟨_, (q_nwi 239 rfl rfl)⟩⟩
theorem fl_X4_210 : q_FL RX4 210 0 4 true := ⟨_, _, _, ck0, by decide, rfl, Or.inr ⟨_, (q_nwi 224 rfl rfl)⟩⟩
theorem fl_X4_213 : q_FL RX4 213 8 1 false := ⟨_, _, _, ck8, by decide, rfl, Or.inr ⟨_, (q_nwi 258 rfl rfl)⟩⟩
theorem fl_X4_217 : q_FL RX4 217 0 1 false := ⟨_, _, _, ck0, by decide, rfl, Or.inr ⟨_, (q_nwi 213 rfl rfl)⟩⟩
theorem fl_X4_224 : q_FL RX4 224 8 2 false := ⟨_, _, _, ck8, by decide, rfl, Or.inr ⟨_, (q_nwi 260 rfl rfl)⟩⟩
theorem fl_X4_227 : q_FL RX4 227 0 3 false := ⟨_, _, _, ck0, by decide, rfl, Or.inr ⟨_, (q_nwi 220 rfl rfl)⟩⟩
theorem fl_X4_233 : q_FL RX4 233 8 5 false := ⟨_, _, _, ck8, by decide, rfl, Or.inr ⟨_, (q_nwi 270 rfl rfl)⟩⟩
theorem fl_X4_240 : q_FL RX4 240 1 6 false := ⟨_, _, _, ck1, by decide, rfl, Or.inr ⟨_, (q_nwi 383 rfl rfl)⟩⟩
theorem fl_X4_243 : q_FL RX4 243 8 4 false := ⟨_, _, _, ck8, by decide, rfl, Or.inr ⟨_, (q_nwi 267 rfl rfl)⟩⟩
theorem fl_X4_246 : q_FL RX4 246 8 6 false := ⟨_, _, _, ck8, by decide, rfl, Or.inr ⟨_, (q_nwi 273 rfl rfl)⟩⟩
theorem fl_X4_25 : q_FL RX4 25 4 2 true := ⟨_, _, _, ck4, by decide, rfl, Or.inl (q_uw 405 rfl rfl)⟩
theorem fl_X4_253 : q_FL RX4 253 8 8 false := ⟨_, _, _, ck8, by decide, rfl, Or.inr ⟨_, (q_nwi 279 rfl rfl)⟩⟩
theorem fl_X4_31 : q_FL RX4 31 4 4 true := ⟨_, _, _, ck4, by decide, rfl, Or.inl (q_uw 409 rfl rfl)⟩
theorem fl_X4_38 : q_FL RX4 38 4 6 true := ⟨_, _, _, ck4, by decide, rfl, Or.inl (q_uw 415 rfl rfl)⟩
theorem fl_X4_45 : q_FL RX4 45 4 7 true := ⟨_, _, _, ck4, by decide, rfl, Or.inl (q_uw 418 rfl rfl)⟩
theorem fl_X4_52 : q_FL RX4 52 4 8 true := ⟨_, _, _, ck4, by decide, rfl, Or.inl (q_uw 420 rfl rfl)⟩
theorem fl_X4_59 : q_FL RX4 59 4 9 true := ⟨_, _, _, ck4, by decide, rfl, Or.inl (q_uw 422 rfl rfl)⟩
theorem fl_X4_63 : q_FL RX4 63 4 10 true := ⟨_, _, _, ck4, by decide, rfl, Or.inl (q_uw 425 rfl rfl)⟩
theorem fl_X4_66 : q_FL RX4 66 4 11 true := ⟨_, _, _, ck4, by decide, rfl, Or.inl (q_uw 427 rfl rfl)⟩
theorem fl_X4_71 : q_FL RX4 71 4 0 false := ⟨_, _, _, ck4, by decide, rfl, Or.inl (q_uw 400 rfl rfl)⟩
theorem fl_X4_75 : q_FL RX4 75 4 3 false := ⟨_, _, _, ck4, by decide, rfl, Or.inl (q_uw 406 rfl rfl)⟩
theorem fl_X4_78 : q_FL RX4 78 4 5 false := ⟨_, _, _, ck4, by decide, rfl, Or.inl (q_uw 412 rfl rfl)⟩
theorem fl_X4_81 : q_FL RX4 81 1 0 false := ⟨_, _, _, ck1, by decide, rfl, Or.inr ⟨_, (q_nwi 362 rfl rfl)⟩⟩
theorem fl_X4_88 : q_FL RX4 88 5 0 true := ⟨_, _, _, ck5, by decide, rfl, Or.inr ⟨_, (q_nwi 168 rfl rfl)⟩⟩
theorem fl_X4_97 : q_FL RX4 97 6 7 false := ⟨_, _, _, ck6, by decide, rfl, Or.inr ⟨_, (q_nwi 333 rfl rfl)⟩⟩
theorem fl_X5_10 : q_FL RX5 10 5 0 true := ⟨_, _, _, ck5, by decide, rfl, Or.inl (q_uw 165 rfl rfl)⟩
theorem fl_X5_20 : q_FL RX5 20 5 1 false := ⟨_, _, _, ck5, by decide, rfl, Or.inl (q_uw 171 rfl rfl)⟩
theorem fl_X6_12 : q_FL RX6 12 6 7 false := ⟨_, _, _, ck6, by decide, rfl, Or.inl (q_uw 332 rfl rfl)⟩
theorem fl_X6_21 : q_FL RX6 21 6 8 true := ⟨_, _, _, ck6, by decide, rfl, Or.inl (q_uw 335 rfl rfl)⟩
theorem fl_X6_25 : q_FL RX6 25 6 1 false := ⟨_, _, _, ck6, by decide, rfl, Or.inl (q_uw 315 rfl rfl)⟩
theorem fl_X6_29 : q_FL RX6 29 6 2 false := ⟨_, _, _, ck6, by decide, rfl, Or.inl (q_uw 317 rfl rfl)⟩
theorem fl_X6_32 : q_FL RX6 32 6 4 false := ⟨_, _, _, ck6, by decide, rfl, Or.inl (q_uw 323 rfl rfl)⟩
theorem fl_X6_35 : q_FL RX6 35 5 0 true := ⟨_, _, _, ck5, by decide, rfl, Or.inr ⟨_, (q_nwi 166 rfl rfl)⟩⟩
theorem fl_X6_38 : q_FL RX6 38 2 1 false := ⟨_, _, _, ck2, by decide, rfl, Or.inr ⟨_, (q_nwi 151 rfl rfl)⟩⟩
theorem fl_X6_41 : q_FL RX6 41 6 0 false := ⟨_, _, _, ck6, by decide, rfl, Or.inl (q_uw 312 rfl rfl)⟩
theorem fl_X6_68 : q_FL RX6 68 6 3 false := ⟨_, _, _, ck6, by decide, rfl, Or.inl (q_uw 320 rfl rfl)⟩
theorem fl_X6_71 : q_FL RX6 71 6 6 false := ⟨_, _, _, ck6, by decide, rfl, Or.inl (q_uw 329 rfl rfl)⟩
theorem fl_X6_74 : q_FL RX6 74 6 5 false := ⟨_, _, _, ck6, by decide, rfl, Or.inl (q_uw 326 rfl rfl)⟩
theorem fl_X7_11 : q_FL RX7 11 7 0 true := ⟨_, _, _, ck7, by decide, rfl, Or.inl (q_uw 236 rfl rfl)⟩
theorem fl_X7_18 : q_FL RX7 18 7 1 false := ⟨_, _, _, ck7, by decide, rfl, Or.inl (q_uw 237 rfl rfl)⟩
theorem fl_X7_22 : q_FL RX7 22 0 4 true := ⟨_, _, _, ck0, by decide, rfl, Or.inr ⟨_, (q_nwi 222 rfl rfl)⟩⟩
theorem fl_X7_35 : q_FL RX7 35 2 1 false := ⟨_, _, _, ck2, by decide, rfl, Or.inr ⟨_, (q_nwi 153 rfl rfl)⟩⟩
theorem fl_X8_13 : q_FL RX8 13 8 1 false := ⟨_, _, _, ck8, by decide, rfl, Or.inl (q_uw 256 rfl rfl)⟩
theorem fl_X8_16 : q_FL RX8 16 8 2 false := ⟨_, _, _, ck8, by decide, rfl, Or.inl (q_uw 259 rfl rfl)⟩
theorem fl_X8_19 : q_FL RX8 19 8 3 false := ⟨_, _, _, ck8, by decide, rfl, Or.inl (q_uw 262 rfl rfl)⟩
theorem fl_X8_22 : q_FL RX8 22 8 4 false := ⟨_, _, _, ck8, by decide, rfl, Or.inl (q_uw 265 rfl rfl)⟩
theorem fl_X8_25 : q_FL RX8 25 8 5 false := ⟨_, _, _, ck8, by decide, rfl, Or.inl (q_uw 268 rfl rfl)⟩
theorem fl_X8_28 : q_FL RX8 28 8 6 false := ⟨_, _, _, ck8, by decide, rfl, Or.inl (q_uw 271 rfl rfl)⟩
theorem fl_X8_31 : q_FL RX8 31 8 7 false := ⟨_, _, _, ck8, by decide, rfl, Or.inl (q_uw 274 rfl rfl)⟩
theorem fl_X8_34 : q_FL RX8 34 8 8 false := ⟨_, _, _, ck8, by decide, rfl, Or.inl (q_uw 277 rfl rfl)⟩
theorem fl_X8_37 : q_FL RX8 37 8 9 false := ⟨_, _, _, ck8, by decide, rfl, Or.inl (q_uw 280 rfl rfl)⟩
theorem fl_X8_7 : q_FL RX8 7 8 0 false := ⟨_, _, _, ck8, by decide, rfl, Or.inl (q_uw 253 rfl rfl)⟩
theorem fl_X9_100 : q_FL RX9 100 4 6 true := ⟨_, _, _, ck4, by decide, rfl, Or.inr ⟨_, (q_nwi 416 rfl rfl)⟩⟩
theorem fl_X9_110 : q_FL RX9 110 5 0 true := ⟨_, _, _, ck5, by decide, rfl, Or.inr ⟨_, (q_nwi 169 rfl rfl)⟩⟩
theorem fl_X9_122 : q_FL RX9 122 4 9 true := ⟨_, _, _, ck4, by decide, rfl, Or.inr ⟨_, (q_nwi 423 rfl rfl)⟩⟩
theorem fl_X9_126 : q_FL RX9 126 8 7 false := ⟨_, _, _, ck8, by decide, rfl, Or.inr ⟨_, (q_nwi 275 rfl rfl)⟩⟩
theorem fl_X9_131 : q_FL RX9 131 2 1 false := ⟨_, _, _, ck2, by decide, rfl, Or.inr ⟨_, (q_nwi 155 rfl rfl)⟩⟩
theorem fl_X9_137 : q_FL RX9 137 4 5 false := ⟨_, _, _, ck4, by decide, rfl, Or.inr ⟨_, (q_nwi 413 rfl rfl)⟩⟩
theorem fl_X9_140 : q_FL RX9 140 4 4 true := ⟨_, _, _, ck4, by decide, rfl, Or.inr ⟨_, (q_nwi 410 rfl rfl)⟩⟩
theorem fl_X9_15 : q_FL RX9 15 9 1 true := ⟨_, _, _, ck9, by decide, rfl, Or.inl (q_uw 523 rfl rfl)⟩
theorem fl_X9_175 : q_FL RX9 175 9 4 false := ⟨_, _, _, ck9, by decide, rfl, Or.inl (q_uw 526 rfl rfl)⟩
theorem fl_X9_178 : q_FL RX9 178 9 5 false := ⟨_, _, _, ck9, by decide, rfl, Or.inl (q_uw 527 rfl rfl)⟩
theorem fl_X9_189 : q_FL RX9 189 9 6 false := ⟨_, _, _, ck9, by decide, rfl, Or.inl (q_uw 528 rfl rfl)⟩
theorem fl_X9_19 : q_FL RX9 19 9 2 true := ⟨_, _, _, ck9, by decide, rfl, Or.inl (q_uw 524 rfl rfl)⟩
theorem fl_X9_45 : q_FL RX9 45 4 0 false := ⟨_, _, _, ck4, by decide, rfl, Or.inr ⟨_, (q_nwi 401 rfl rfl)⟩⟩
theorem fl_X9_54 : q_FL RX9 54 9 7 false := ⟨_, _, _, ck9, by decide, rfl, Or.inl (q_uw 529 rfl rfl)⟩
theorem fl_X9_57 : q_FL RX9 57 9 3 false := ⟨_, _, _, ck9, by decide, rfl, Or.inl (q_uw 525 rfl rfl)⟩
theorem fl_X9_63 : q_FL RX9 63 4 3 false := ⟨_, _, _, ck4, by decide, rfl, Or.inr ⟨_, (q_nwi 407 rfl rfl)⟩⟩
theorem fl_X9_9 : q_FL RX9 9 9 0 true := ⟨_, _, _, ck9, by decide, rfl, Or.inl (q_uw 522 rfl rfl)⟩
theorem fl_X9_90 : q_FL RX9 90 4 1 true := ⟨_, _, _, ck4, by decide, rfl, Or.inr ⟨_, (q_nwi 403 rfl rfl)⟩⟩
theorem fp_X0_10 : q_FP RX0 10 0 4 := ⟨_, _, _, ck0, by decide, rfl, (q_uw 221 rfl rfl), rfl⟩
theorem fp_X10_20 : q_FP RX10 20 10 4 := ⟨_, _, _, ck10, by decide, rfl, (q_uw 474 rfl rfl), rfl⟩
theorem fp_X10_9 : q_FP RX10 9 10 0 := ⟨_, _, _, ck10, by decide, rfl, (q_uw 470 rfl rfl), rfl⟩
theorem fp_X11_13 : q_FP RX11 13 11 1 := ⟨_, _, _, ck11, by decide, rfl, (q_uw 1212 rfl rfl), rfl⟩
theorem fp_X11_17 : q_FP RX11 17 11 2 := ⟨_, _, _, ck11, by decide, rfl, (q_uw 1213 rfl rfl), rfl⟩
theorem fp_X11_20 : q_FP RX11 20 11 3 := ⟨_, _, _, ck11, by decide, rfl, (q_uw 1214 rfl rfl), rfl⟩
theorem fp_X11_23 : q_FP RX11 23 11 4 := ⟨_, _, _, ck11, by decide, rfl, (q_uw 1215 rfl rfl), rfl⟩
theorem fp_X11_27 : q_FP RX11 27 11 5 := ⟨_, _, _, ck11, by decide, rfl, (q_uw 1216 rfl rfl), rfl⟩
theorem fp_X11_30 : q_FP RX11 30 11 6 := ⟨_, _, _, ck11, by decide, rfl, (q_uw 1217 rfl rfl), rfl⟩
theorem fp_X11_33 : q_FP RX11 33 11 7 := ⟨_, _, _, ck11, by decide, rfl, (q_uw 1218 rfl rfl), rfl⟩
theorem fp_X11_36 : q_FP RX11 36 11 8 := ⟨_, _, _, ck11, by decide, rfl, (q_uw 1219 rfl rfl), rfl⟩
theorem fp_X11_39 : q_FP RX11 39 11 9 := ⟨_, _, _, ck11, by decide, rfl, (q_uw 1220 rfl rfl), rfl⟩
theorem fp_X11_42 : q_FP RX11 42 11 11 := ⟨_, _, _, ck11, by decide, rfl, (q_uw 1222 rfl rfl), rfl⟩
theorem fp_X11_45 : q_FP RX11 45 11 20 := ⟨_, _, _, ck11, by decide, rfl, (q_uw 1231 rfl rfl), rfl⟩
theorem fp_X11_48 : q_FP RX11 48 11 21 := ⟨_, _, _, ck11, by decide, rfl, (q_uw 1232 rfl rfl), rfl⟩
theorem fp_X2_9 : q_FP RX2 9 2 0 := ⟨_, _, _, ck2, by decide, rfl, (q_uw 149 rfl rfl), rfl⟩
theorem fp_X3_11 : q_FP RX3 11 3 0 := ⟨_, _, _, ck3, by decide, rfl, (q_uw 180 rfl rfl), rfl⟩
theorem fp_X4_18 : q_FP RX4 18 4 1 := ⟨_, _, _, ck4, by decide, rfl, (q_uw 402 rfl rfl), rfl⟩
theorem fp_X4_25 : q_FP RX4 25 4 2 := ⟨_, _, _, ck4, by decide, rfl, (q_uw 405 rfl rfl), rfl⟩
theorem fp_X4_31 : q_FP RX4 31 4 4 := ⟨_, _, _, ck4, by decide, rfl, (q_uw 409 rfl rfl), rfl⟩
theorem fp_X4_38 : q_FP RX4 38 4 6 := ⟨_, _, _, ck4, by decide, rfl, (q_uw 415 rfl rfl), rfl⟩
theorem fp_X4_45 : q_FP RX4 45 4 7 := ⟨_, _, _, ck4, by decide, rfl, (q_uw 418 rfl rfl), rfl⟩
theorem fp_X4_52 : q_FP RX4 52 4 8 := ⟨_, _, _, ck4, by decide, rfl, (q_uw 420 rfl rfl), rfl⟩
theorem fp_X4_59 : q_FP RX4 59 4 9 := ⟨_, _, _, ck4, by decide, rfl, (q_uw 422 rfl rfl), rfl⟩
theorem fp_X4_63 : q_FP RX4 63 4 10 := ⟨_, _, _, ck4, by decide, rfl, (q_uw 425 rfl rfl), rfl⟩
theorem fp_X4_66 : q_FP RX4 66 4 11 := ⟨_, _, _, ck4, by decide, rfl, (q_uw 427 rfl rfl), rfl⟩
theorem fp_X5_10 : q_FP RX5 10 5 0 := ⟨_, _, _, ck5, by decide, rfl, (q_uw 165 rfl rfl), rfl⟩
theorem fp_X6_21 : q_FP RX6 21 6 8 := ⟨_, _, _, ck6, by decide, rfl, (q_uw 335 rfl rfl), rfl⟩
theorem fp_X7_11 : q_FP RX7 11 7 0 := ⟨_, _, _, ck7, by decide, rfl, (q_uw 236 rfl rfl), rfl⟩
theorem fp_X9_15 : q_FP RX9 15 9 1 := ⟨_, _, _, ck9, by decide, rfl, (q_uw 523 rfl rfl), rfl⟩
theorem fp_X9_19 : q_FP RX9 19 9 2 := ⟨_, _, _, ck9, by decide, rfl, (q_uw 524 rfl rfl), rfl⟩
theorem fp_X9_9 : q_FP RX9 9 9 0 := ⟨_, _, _, ck9, by decide, rfl, (q_uw 522 rfl rfl), rfl⟩
theorem fw_X0_20 : q_FL RX0 20 0 1 false := ⟨_, _, _, ck0, by decide, rfl, Or.inl (q_uw 211 rfl rfl)⟩
theorem fw_X0_27 : q_FL RX0 27 0 2 false := ⟨_, _, _, ck0, by decide, rfl, Or.inl (q_uw 214 rfl rfl)⟩
theorem fw_X0_30 : q_FL RX0 30 0 3 false := ⟨_, _, _, ck0, by decide, rfl, Or.inl (q_uw 218 rfl rfl)⟩
theorem fw_X0_33 : q_FL RX0 33 0 0 false := ⟨_, _, _, ck0, by decide, rfl, Or.inl (q_uw 207 rfl rfl)⟩
theorem fw_X1_13 : q_FL RX1 13 1 1 false := ⟨_, _, _, ck1, by decide, rfl, Or.inl (q_uw 365 rfl rfl)⟩
theorem fw_X1_19 : q_FL RX1 19 1 2 false := ⟨_, _, _, ck1, by decide, rfl, Or.inl (q_uw 368 rfl rfl)⟩
theorem fw_X1_25 : q_FL RX1 25 1 5 false := ⟨_, _, _, ck1, by decide, rfl, Or.inl (q_uw 377 rfl rfl)⟩
theorem fw_X1_28 : q_FL RX1 28 1 4 false := ⟨_, _, _, ck1, by decide, rfl, Or.inl (q_uw 374 rfl rfl)⟩
theorem fw_X1_39 : q_FL RX1 39 1 3 false := ⟨_, _, _, ck1, by decide, rfl, Or.inl (q_uw 371 rfl rfl)⟩
theorem fw_X1_48 : q_FL RX1 48 1 0 false := ⟨_, _, _, ck1, by decide, rfl, Or.inl (q_uw 363 rfl rfl)⟩
theorem fw_X1_51 : q_FL RX1 51 1 6 false := ⟨_, _, _, ck1, by decide, rfl, Or.inl (q_uw 380 rfl rfl)⟩
theorem fw_X10_16 : q_FL RX10 16 10 2 false := ⟨_, _, _, ck10, by decide, rfl, Or.inl (q_uw 472 rfl rfl)⟩
theorem fw_X10_24 : q_FL RX10 24 4 0 false := ⟨_, _, _, ck4, by decide, rfl, Or.inr ⟨_, (q_nwi 399 rfl rfl)⟩⟩
theorem fw_X10_247 : q_FL RX10 247 8 7 false := ⟨_, _, _, ck8, by decide, rfl, Or.inr ⟨_, (q_nwi 276 rfl rfl)⟩⟩
theorem fw_X10_266 : q_FL RX10 266 8 9 false := ⟨_, _, _, ck8, by decide, rfl, Or.inr ⟨_, (q_nwi 281 rfl rfl)⟩⟩
theorem fw_X10_32 : q_FL RX10 32 10 1 false := ⟨_, _, _, ck10, by decide, rfl, Or.inl (q_uw 471 rfl rfl)⟩
theorem fw_X10_343 : q_FL RX10 343 10 6 false := ⟨_, _, _, ck10, by decide, rfl, Or.inl (q_uw 476 rfl rfl)⟩
theorem fw_X10_52 : q_FL RX10 52 10 3 false := ⟨_, _, _, ck10, by decide, rfl, Or.inl (q_uw 473 rfl rfl)⟩
theorem fw_X10_55 : q_FL RX10 55 10 5 false := ⟨_, _, _, ck10, by decide, rfl, Or.inl (q_uw 475 rfl rfl)⟩
theorem fw_X11_1 : q_FL RX11 1 11 0 false := ⟨_, _, _, ck11, by decide, rfl, Or.inl (q_uw 1211 rfl rfl)⟩
theorem fw_X11_121 : q_FL RX11 121 11 18 false := ⟨_, _, _, ck11, by decide, rfl, Or.inl (q_uw 1229 rfl rfl)⟩
theorem fw_X11_124 : q_FL RX11 124 11 19 false := ⟨_, _, _, ck11, by decide, rfl, Or.inl (q_uw 1230 rfl rfl)⟩
theorem fw_X11_240 : q_FL RX11 240 11 22 false := ⟨_, _, _, ck11, by decide, rfl, Or.inl (q_uw 1233 rfl rfl)⟩
theorem fw_X11_57 : q_FL RX11 57 11 10 false := ⟨_, _, _, ck11, by decide, rfl, Or.inl (q_uw 1221 rfl rfl)⟩
theorem fw_X11_64 : q_FL RX11 64 11 12 false := ⟨_, _, _, ck11, by decide, rfl, Or.inl (q_uw 1223 rfl rfl)⟩
theorem fw_X11_75 : q_FL RX11 75 11 13 false := ⟨_, _, _, ck11, by decide, rfl, Or.inl (q_uw 1224 rfl rfl)⟩
theorem fw_X11_78 : q_FL RX11 78 11 14 false := ⟨_, _, _, ck11, by decide, rfl, Or.inl (q_uw 1225 rfl rfl)⟩
theorem fw_X11_85 : q_FL RX11 85 11 15 false := ⟨_, _, _, ck11, by decide, rfl, Or.inl (q_uw 1226 rfl rfl)⟩
theorem fw_X11_88 : q_FL RX11 88 11 16 false := ⟨_, _, _, ck11, by decide, rfl, Or.inl (q_uw 1227 rfl rfl)⟩
theorem fw_X11_98 : q_FL RX11 98 11 17 false := ⟨_, _, _, ck11, by decide, rfl, Or.inl (q_uw 1228 rfl rfl)⟩
theorem fw_X2_15 : q_FL RX2 15 2 1 false := ⟨_, _, _, ck2, by decide, rfl, Or.inl (q_uw 152 rfl rfl)⟩
theorem fw_X3_18 : q_FL RX3 18 3 2 false := ⟨_, _, _, ck3, by decide, rfl, Or.inl (q_uw 182 rfl rfl)⟩
theorem fw_X3_22 : q_FL RX3 22 3 1 false := ⟨_, _, _, ck3, by decide, rfl, Or.inl (q_uw 181 rfl rfl)⟩
theorem fw_X3_38 : q_FL RX3 38 5 1 false := ⟨_, _, _, ck5, by decide, rfl, Or.inr ⟨_, (q_nwi 172 rfl rfl)⟩⟩
theorem fw_X4_120 : q_FL RX4 120 3 2 false := ⟨_, _, _, ck3, by decide, rfl, Or.inr ⟨_, (q_nwi 184 rfl rfl)⟩⟩
theorem fw_X4_127 : q_FL RX4 127 6 0 false := ⟨_, _, _, ck6, by decide, rfl, Or.inr ⟨_, (q_nwi 314 rfl rfl)⟩⟩
theorem fw_X4_130 : q_FL RX4 130 6 2 false := ⟨_, _, _, ck6, by decide, rfl, Or.inr ⟨_, (q_nwi 319 rfl rfl)⟩⟩
theorem fw_X4_133 : q_FL RX4 133 6 3 false := ⟨_, _, _, ck6, by decide, rfl, Or.inr ⟨_, (q_nwi 322 rfl rfl)⟩⟩
theorem fw_X4_140 : q_FL RX4 140 6 5 false := ⟨_, _, _, ck6, by decide, rfl, Or.inr ⟨_, (q_nwi 328 rfl rfl)⟩⟩
theorem fw_X4_143 : q_FL RX4 143 6 6 false := ⟨_, _, _, ck6, by decide, rfl, Or.inr ⟨_, (q_nwi 331 rfl rfl)⟩⟩
theorem fw_X4_165 : q_FL RX4 165 8 0 false := ⟨_, _, _, ck8, by decide, rfl, Or.inr ⟨_, (q_nwi 255 rfl rfl)⟩⟩
theorem fw_X4_172 : q_FL RX4 172 5 1 false := ⟨_, _, _, ck5, by decide, rfl, Or.inr ⟨_, (q_nwi 174 rfl rfl)⟩⟩
theorem fw_X4_182 : q_FL RX4 182 8 3 false := ⟨_, _, _, ck8, by decide, rfl, Or.inr ⟨_, (q_nwi 263 rfl rfl)⟩⟩
theorem fw_X4_203 : q_FL RX4 203 7 1 false := ⟨_, _, _, ck7, by decide, rfl, Or.inr ⟨_, (q_nwi 239 rfl rfl)⟩⟩
theorem fw_X4_213 : q_FL RX4 213 8 1 false := ⟨_, _, _, ck8, by decide, rfl, Or.inr ⟨_, (q_nwi 258 rfl rfl)⟩⟩
theorem fw_X4_214 : q_FL RX4 214 0 0 false := ⟨_, _, _, ck0, by decide, rfl, Or.inr ⟨_, (q_nwi 209 rfl rfl)⟩⟩
theorem fw_X4_217 : q_FL RX4 217 0 1 false := ⟨_, _, _, ck0, by decide, rfl, Or.inr ⟨_, (q_nwi 213 rfl rfl)⟩⟩
theorem fw_X4_224 : q_FL RX4 224 8 2 false := ⟨_, _, _, ck8, by decide, rfl, Or.inr ⟨_, (q_nwi 260 rfl rfl)⟩⟩
theorem fw_X4_233 : q_FL RX4 233 8 5 false := ⟨_, _, _, ck8, by decide, rfl, Or.inr ⟨_, (q_nwi 270 rfl rfl)⟩⟩
theorem fw_X4_240 : q_FL RX4 240 1 6 false := ⟨_, _, _, ck1, by decide, rfl, Or.inr ⟨_, (q_nwi 383 rfl rfl)⟩⟩
theorem fw_X4_243 : q_FL RX4 243 8 4 false := ⟨_, _, _, ck8, by decide, rfl, Or.inr ⟨_, (q_nwi 267 rfl rfl)⟩⟩
theorem fw_X4_246 : q_FL RX4 246 8 6 false := ⟨_, _, _, ck8, by decide, rfl, Or.inr ⟨_, (q_nwi 273 rfl rfl)⟩⟩
theorem fw_X4_253 : q_FL RX4 253 8 8 false := ⟨_, _, _, ck8, by decide, rfl, Or.inr ⟨_, (q_nwi 279 rfl rfl)⟩⟩
theorem fw_X4_71 : q_FL RX4 71 4 0 false := ⟨_, _, _, ck4, by decide, rfl, Or.inl (q_uw 400 rfl rfl)⟩
theorem fw_X4_75 : q_FL RX4 75 4 3 false := ⟨_, _, _, ck4, by decide, rfl, Or.inl (q_uw 406 rfl rfl)⟩
theorem fw_X4_78 : q_FL RX4 78 4 5 false := ⟨_, _, _, ck4, by decide, rfl, Or.inl (q_uw 412 rfl rfl)⟩
theorem fw_X4_97 : q_FL RX4 97 6 7 false := ⟨_, _, _, ck6, by decide, rfl, Or.inr ⟨_, (q_nwi 333 rfl rfl)⟩⟩
theorem fw_X5_20 : q_FL RX5 20 5 1 false := ⟨_, _, _, ck5, by decide, rfl, Or.inl (q_uw 171 rfl rfl)⟩
theorem fw_X6_12 : q_FL RX6 12 6 7 false := ⟨_, _, _, ck6, by decide, rfl, Or.inl (q_uw 332 rfl rfl)⟩
theorem fw_X6_25 : q_FL RX6 25 6 1 false := ⟨_, _, _, ck6, by decide, rfl, Or.inl (q_uw 315 rfl rfl)⟩
theorem fw_X6_29 : q_FL RX6 29 6 2 false := ⟨_, _, _, ck6, by decide, rfl, Or.inl (q_uw 317 rfl rfl)⟩
theorem fw_X6_32 : q_FL RX6 32 6 4 false := ⟨_, _, _, ck6, by decide, rfl, Or.inl (q_uw 323 rfl rfl)⟩
theorem fw_X6_41 : q_FL RX6 41 6 0 false := ⟨_, _, _, ck6, by decide, rfl, Or.inl (q_uw 312 rfl rfl)⟩
theorem fw_X6_68 : q_FL RX6 68 6 3 false := ⟨_, _, _, ck6, by decide, rfl, Or.inl (q_uw 320 rfl rfl)⟩
theorem fw_X6_71 : q_FL RX6 71 6 6 false := ⟨_, _, _, ck6, by decide, rfl, Or.inl (q_uw 329 rfl rfl)⟩
theorem fw_X6_74 : q_FL RX6 74 6 5 false := ⟨_, _, _, ck6, by decide, rfl, Or.inl (q_uw 326 rfl rfl)⟩
theorem fw_X7_18 : q_FL RX7 18 7 1 false := ⟨_, _, _, ck7, by decide, rfl, Or.inl (q_uw 237 rfl rfl)⟩
theorem fw_X8_13 : q_FL RX8 13 8 1 false := ⟨_, _, _, ck8, by decide, rfl, Or.inl (q_uw 256 rfl rfl)⟩
theorem fw_X8_16 : q_FL RX8 16 8 2 false := ⟨_, _, _, ck8, by decide, rfl, Or.inl (q_uw 259 rfl rfl)⟩
theorem fw_X8_19 : q_FL RX8 19 8 3 false := ⟨_, _, _, ck8, by decide, rfl, Or.inl (q_uw 262 rfl rfl)⟩
theorem fw_X8_22 : q_FL RX8 22 8 4 false := ⟨_, _, _, ck8, by decide, rfl, Or.inl (q_uw 265 rfl rfl)⟩
theorem fw_X8_25 : q_FL RX8 25 8 5 false := ⟨_, _, _, ck8, by decide, rfl, Or.inl (q_uw 268 rfl rfl)⟩
theorem fw_X8_28 : q_FL RX8 28 8 6 false := ⟨_, _, _, ck8, by decide, rfl, Or.inl (q_uw 271 rfl rfl)⟩
theorem fw_X8_31 : q_FL RX8 31 8 7 false := ⟨_, _, _, ck8, by decide, rfl, Or.inl (q_uw 274 rfl rfl)⟩
theorem fw_X8_34 : q_FL RX8 34 8 8 false := ⟨_, _, _, ck8, by decide, rfl, Or.inl (q_uw 277 rfl rfl)⟩
theorem fw_X8_37 : q_FL RX8 37 8 9 false := ⟨_, _, _, ck8, by decide, rfl, Or.inl (q_uw 280 rfl rfl)⟩
theorem fw_X8_7 : q_FL RX8 7 8 0 false := ⟨_, _, _, ck8, by decide, rfl, Or.inl (q_uw 253 rfl rfl)⟩
theorem fw_X9_126 : q_FL RX9 126 8 7 false := ⟨_, _, _, ck8, by decide, rfl, Or.inr ⟨_, (q_nwi 275 rfl rfl)⟩⟩
theorem fw_X9_137 : q_FL RX9 137 4 5 false := ⟨_, _, _, ck4, by decide, rfl, Or.inr ⟨_, (q_nwi 413 rfl rfl)⟩⟩
theorem fw_X9_148 : q_FL RX9 148 1 0 false := ⟨_, _, _, ck1, by decide, rfl, Or.inr ⟨_, (q_nwi 364 rfl rfl)⟩⟩
theorem fw_X9_153 : q_FL RX9 153 1 1 false := ⟨_, _, _, ck1, by decide, rfl, Or.inr ⟨_, (q_nwi 366 rfl rfl)⟩⟩
theorem fw_X9_156 : q_FL RX9 156 1 2 false := ⟨_, _, _, ck1, by decide, rfl, Or.inr ⟨_, (q_nwi 369 rfl rfl)⟩⟩
theorem fw_X9_159 : q_FL RX9 159 1 3 false := ⟨_, _, _, ck1, by decide, rfl, Or.inr ⟨_, (q_nwi 372 rfl rfl)⟩⟩
theorem fw_X9_162 : q_FL RX9 162 1 4 false := ⟨_, _, _, ck1, by decide, rfl, Or.inr ⟨_, (q_nwi 375 rfl rfl)⟩⟩
theorem fw_X9_165 : q_FL RX9 165 1 5 false := ⟨_, _, _, ck1, by decide, rfl, Or.inr ⟨_, (q_nwi 378 rfl rfl)⟩⟩
theorem fw_X9_168 : q_FL RX9 168 1 6 false := ⟨_, _, _, ck1, by decide, rfl, Or.inr ⟨_, (q_nwi 381 rfl rfl)⟩⟩
theorem fw_X9_175 : q_FL RX9 175 9 4 false := ⟨_, _, _, ck9, by decide, rfl, Or.inl (q_uw 526 rfl rfl)⟩
theorem fw_X9_178 : q_FL RX9 178 9 5 false := ⟨_, _, _, ck9, by decide, rfl, Or.inl (q_uw 527 rfl rfl)⟩
theorem fw_X9_189 : q_FL RX9 189 9 6 false := ⟨_, _, _, ck9, by decide, rfl, Or.inl (q_uw 528 rfl rfl)⟩
theorem fw_X9_45 : q_FL RX9 45 4 0 false := ⟨_, _, _, ck4, by decide, rfl, Or.inr ⟨_, (q_nwi 401 rfl rfl)⟩⟩
theorem fw_X9_54 : q_FL RX9 54 9 7 false := ⟨_, _, _, ck9, by decide, rfl, Or.inl (q_uw 529 rfl rfl)⟩
theorem fw_X9_57 : q_FL RX9 57 9 3 false := ⟨_, _, _, ck9, by decide, rfl, Or.inl (q_uw 525 rfl rfl)⟩
theorem gs_X10_298_0 : Cond.fieldLink RX10 298 RX10 (q_sname 0) "[I" ∈ q_UW ∨ ∃ host, Cond.fieldLinkNest RX10 298 RX10 (q_sname 0) "[I" host ∈ q_NW := Or.inl (q_uw 1088 rfl rfl)
theorem gs_X10_301_1 : Cond.fieldLink RX10 301 RX10 (q_sname 1) "[I" ∈ q_UW ∨ ∃ host, Cond.fieldLinkNest RX10 301 RX10 (q_sname 1) "[I" host ∈ q_NW := Or.inl (q_uw 1089 rfl rfl)
theorem gs_X4_9_2 : Cond.fieldLink RX4 9 RX10 (q_sname 2) "[I" ∈ q_UW ∨ ∃ host, Cond.fieldLinkNest RX4 9 RX10 (q_sname 2) "[I" host ∈ q_NW := Or.inr ⟨_, (q_nwi 117 rfl rfl)⟩
theorem gs_X9_94_0 : Cond.fieldLink RX9 94 RX10 (q_sname 0) "[I" ∈ q_UW ∨ ∃ host, Cond.fieldLinkNest RX9 94 RX10 (q_sname 0) "[I" host ∈ q_NW := Or.inr ⟨_, (q_nwi 655 rfl rfl)⟩
theorem gs_X9_97_1 : Cond.fieldLink RX9 97 RX10 (q_sname 1) "[I" ∈ q_UW ∨ ∃ host, Cond.fieldLinkNest RX9 97 RX10 (q_sname 1) "[I" host ∈ q_NW := Or.inr ⟨_, (q_nwi 657 rfl rfl)⟩
theorem hn_L_bale_5_0 : q_hnd M_L_bale 5 "java/lang/IndexOutOfBoundsException" 13 := ⟨(tableOf (q_hh M_L_bale)).take 0, (tableOf (q_hh M_L_bale)).getD 0 default, (tableOf (q_hh M_L_bale)).drop 1, "java/lang/IndexOutOfBoundsException", rfl, rfl, by decide +kernel, by decide +kernel, (q_uw 897 rfl rfl), (q_nwi 904 rfl rfl), fun z hz => by cases hz⟩
theorem hn_L_bale_5_1 : q_hnd M_L_bale 5 "java/lang/IllegalArgumentException" 17 := ⟨(tableOf (q_hh M_L_bale)).take 1, (tableOf (q_hh M_L_bale)).getD 1 default, (tableOf (q_hh M_L_bale)).drop 2, "java/lang/IllegalArgumentException", rfl, rfl, by decide +kernel, by decide +kernel, (q_uw 972 rfl rfl), (q_nwi 983 rfl rfl), fun z hz => by
    rcases List.mem_cons.mp hz with hz | hz
    · subst hz; exact Or.inr ⟨by decide, _, (q_uw 897 rfl rfl), by decide⟩
    · cases hz⟩
theorem hn_L_bestBuyer_4_0 : q_hnd M_L_bestBuyer 4 "java/lang/IndexOutOfBoundsException" 12 := ⟨(tableOf (q_hh M_L_bestBuyer)).take 0, (tableOf (q_hh M_L_bestBuyer)).getD 0 default, (tableOf (q_hh M_L_bestBuyer)).drop 1, "java/lang/IndexOutOfBoundsException", rfl, rfl, by decide +kernel, by decide +kernel, (q_uw 897 rfl rfl), (q_nwi 904 rfl rfl), fun z hz => by cases hz⟩
theorem hn_L_bestStaff_5_0 : q_hnd M_L_bestStaff 5 "java/lang/IndexOutOfBoundsException" 13 := ⟨(tableOf (q_hh M_L_bestStaff)).take 0, (tableOf (q_hh M_L_bestStaff)).getD 0 default, (tableOf (q_hh M_L_bestStaff)).drop 1, "java/lang/IndexOutOfBoundsException", rfl, rfl, by decide +kernel, by decide +kernel, (q_uw 897 rfl rfl), (q_nwi 904 rfl rfl), fun z hz => by cases hz⟩
theorem hn_L_bestStaff_5_1 : q_hnd M_L_bestStaff 5 "java/lang/IllegalArgumentException" 17 := ⟨(tableOf (q_hh M_L_bestStaff)).take 1, (tableOf (q_hh M_L_bestStaff)).getD 1 default, (tableOf (q_hh M_L_bestStaff)).drop 2, "java/lang/IllegalArgumentException", rfl, rfl, by decide +kernel, by decide +kernel, (q_uw 972 rfl rfl), (q_nwi 983 rfl rfl), fun z hz => by
    rcases List.mem_cons.mp hz with hz | hz
    · subst hz; exact Or.inr ⟨by decide, _, (q_uw 897 rfl rfl), by decide⟩
    · cases hz⟩
theorem hn_L_buyer_5_0 : q_hnd M_L_buyer 5 "java/lang/IndexOutOfBoundsException" 13 := ⟨(tableOf (q_hh M_L_buyer)).take 0, (tableOf (q_hh M_L_buyer)).getD 0 default, (tableOf (q_hh M_L_buyer)).drop 1, "java/lang/IndexOutOfBoundsException", rfl, rfl, by decide +kernel, by decide +kernel, (q_uw 897 rfl rfl), (q_nwi 904 rfl rfl), fun z hz => by cases hz⟩
theorem hn_L_buyer_5_1 : q_hnd M_L_buyer 5 "java/lang/IllegalArgumentException" 17 := ⟨(tableOf (q_hh M_L_buyer)).take 1, (tableOf (q_hh M_L_buyer)).getD 1 default, (tableOf (q_hh M_L_buyer)).drop 2, "java/lang/IllegalArgumentException", rfl, rfl, by decide +kernel, by decide +kernel, (q_uw 972 rfl rfl), (q_nwi 983 rfl rfl), fun z hz => by
    rcases List.mem_cons.mp hz with hz | hz
    · subst hz; exact Or.inr ⟨by decide, _, (q_uw 897 rfl rfl), by decide⟩
    · cases hz⟩
theorem hn_L_clean_4_0 : q_hnd M_L_clean 4 "java/lang/IndexOutOfBoundsException" 12 := ⟨(tableOf (q_hh M_L_clean)).take 0, (tableOf (q_hh M_L_clean)).getD 0 default, (tableOf (q_hh M_L_clean)).drop 1, "java/lang/IndexOutOfBoundsException", rfl, rfl, by decide +kernel, by decide +kernel, (q_uw 897 rfl rfl), (q_nwi 904 rfl rfl), fun z hz => by cases hz⟩
theorem hn_L_load_5_0 : q_hnd M_L_load 5 "java/lang/IndexOutOfBoundsException" 13 := ⟨(tableOf (q_hh M_L_load)).take 0, (tableOf (q_hh M_L_load)).getD 0 default, (tableOf (q_hh M_L_load)).drop 1, "java/lang/IndexOutOfBoundsException", rfl, rfl, by decide +kernel, by decide +kernel, (q_uw 897 rfl rfl), (q_nwi 904 rfl rfl), fun z hz => by cases hz⟩
theorem hn_L_load_5_1 : q_hnd M_L_load 5 "java/lang/IllegalArgumentException" 17 := ⟨(tableOf (q_hh M_L_load)).take 1, (tableOf (q_hh M_L_load)).getD 1 default, (tableOf (q_hh M_L_load)).drop 2, "java/lang/IllegalArgumentException", rfl, rfl, by decide +kernel, by decide +kernel, (q_uw 972 rfl rfl), (q_nwi 983 rfl rfl), fun z hz => by
    rcases List.mem_cons.mp hz with hz | hz
    · subst hz; exact Or.inr ⟨by decide, _, (q_uw 897 rfl rfl), by decide⟩
    · cases hz⟩
theorem hn_L_load_5_2 : q_hnd M_L_load 5 "java/lang/IllegalStateException" 21 := ⟨(tableOf (q_hh M_L_load)).take 2, (tableOf (q_hh M_L_load)).getD 2 default, (tableOf (q_hh M_L_load)).drop 3, "java/lang/IllegalStateException", rfl, rfl, by decide +kernel, by decide +kernel, (q_uw 1051 rfl rfl), (q_nwi 1060 rfl rfl), fun z hz => by
    rcases List.mem_cons.mp hz with hz | hz
    · subst hz; exact Or.inr ⟨by decide, _, (q_uw 897 rfl rfl), by decide⟩
    rcases List.mem_cons.mp hz with hz | hz
    · subst hz; exact Or.inr ⟨by decide, _, (q_uw 972 rfl rfl), by decide⟩
    · cases hz⟩
theorem hn_L_mass_5_0 : q_hnd M_L_mass 5 "java/lang/IllegalArgumentException" 13 := ⟨(tableOf (q_hh M_L_mass)).take 0, (tableOf (q_hh M_L_mass)).getD 0 default, (tableOf (q_hh M_L_mass)).drop 1, "java/lang/IllegalArgumentException", rfl, rfl, by decide +kernel, by decide +kernel, (q_uw 972 rfl rfl), (q_nwi 983 rfl rfl), fun z hz => by cases hz⟩
theorem hn_L_mass_5_1 : q_hnd M_L_mass 5 "java/lang/IndexOutOfBoundsException" 17 := ⟨(tableOf (q_hh M_L_mass)).take 1, (tableOf (q_hh M_L_mass)).getD 1 default, (tableOf (q_hh M_L_mass)).drop 2, "java/lang/IndexOutOfBoundsException", rfl, rfl, by decide +kernel, by decide +kernel, (q_uw 897 rfl rfl), (q_nwi 904 rfl rfl), fun z hz => by
    rcases List.mem_cons.mp hz with hz | hz
    · subst hz; exact Or.inr ⟨by decide, _, (q_uw 972 rfl rfl), by decide⟩
    · cases hz⟩
theorem hn_L_outlook_5_0 : q_hnd M_L_outlook 5 "java/lang/IllegalArgumentException" 13 := ⟨(tableOf (q_hh M_L_outlook)).take 0, (tableOf (q_hh M_L_outlook)).getD 0 default, (tableOf (q_hh M_L_outlook)).drop 1, "java/lang/IllegalArgumentException", rfl, rfl, by decide +kernel, by decide +kernel, (q_uw 972 rfl rfl), (q_nwi 983 rfl rfl), fun z hz => by cases hz⟩
theorem hn_L_purity_4_0 : q_hnd M_L_purity 4 "java/lang/IndexOutOfBoundsException" 11 := ⟨(tableOf (q_hh M_L_purity)).take 0, (tableOf (q_hh M_L_purity)).getD 0 default, (tableOf (q_hh M_L_purity)).drop 1, "java/lang/IndexOutOfBoundsException", rfl, rfl, by decide +kernel, by decide +kernel, (q_uw 897 rfl rfl), (q_nwi 904 rfl rfl), fun z hz => by cases hz⟩
theorem hn_L_run_4_0 : q_hnd M_L_run 4 "java/lang/IllegalArgumentException" 12 := ⟨(tableOf (q_hh M_L_run)).take 0, (tableOf (q_hh M_L_run)).getD 0 default, (tableOf (q_hh M_L_run)).drop 1, "java/lang/IllegalArgumentException", rfl, rfl, by decide +kernel, by decide +kernel, (q_uw 972 rfl rfl), (q_nwi 983 rfl rfl), fun z hz => by cases hz⟩
theorem hn_L_run_4_1 : q_hnd M_L_run 4 "java/lang/IllegalStateException" 15 := ⟨(tableOf (q_hh M_L_run)).take 1, (tableOf (q_hh M_L_run)).getD 1 default, (tableOf (q_hh M_L_run)).drop 2, "java/lang/IllegalStateException", rfl, rfl, by decide +kernel, by decide +kernel, (q_uw 1051 rfl rfl), (q_nwi 1060 rfl rfl), fun z hz => by
    rcases List.mem_cons.mp hz with hz | hz
    · subst hz; exact Or.inr ⟨by decide, _, (q_uw 972 rfl rfl), by decide⟩
    · cases hz⟩
theorem hn_L_sell_5_0 : q_hnd M_L_sell 5 "java/lang/IndexOutOfBoundsException" 13 := ⟨(tableOf (q_hh M_L_sell)).take 0, (tableOf (q_hh M_L_sell)).getD 0 default, (tableOf (q_hh M_L_sell)).drop 1, "java/lang/IndexOutOfBoundsException", rfl, rfl, by decide +kernel, by decide +kernel, (q_uw 897 rfl rfl), (q_nwi 904 rfl rfl), fun z hz => by cases hz⟩
theorem hn_L_sell_5_1 : q_hnd M_L_sell 5 "java/lang/IllegalArgumentException" 17 := ⟨(tableOf (q_hh M_L_sell)).take 1, (tableOf (q_hh M_L_sell)).getD 1 default, (tableOf (q_hh M_L_sell)).drop 2, "java/lang/IllegalArgumentException", rfl, rfl, by decide +kernel, by decide +kernel, (q_uw 972 rfl rfl), (q_nwi 983 rfl rfl), fun z hz => by
    rcases List.mem_cons.mp hz with hz | hz
    · subst hz; exact Or.inr ⟨by decide, _, (q_uw 897 rfl rfl), by decide⟩
    · cases hz⟩
theorem hn_L_sell_5_2 : q_hnd M_L_sell 5 "java/lang/IllegalStateException" 21 := ⟨(tableOf (q_hh M_L_sell)).take 2, (tableOf (q_hh M_L_sell)).getD 2 default, (tableOf (q_hh M_L_sell)).drop 3, "java/lang/IllegalStateException", rfl, rfl, by decide +kernel, by decide +kernel, (q_uw 1051 rfl rfl), (q_nwi 1060 rfl rfl), fun z hz => by
    rcases List.mem_cons.mp hz with hz | hz
    · subst hz; exact Or.inr ⟨by decide, _, (q_uw 897 rfl rfl), by decide⟩
    rcases List.mem_cons.mp hz with hz | hz
    · subst hz; exact Or.inr ⟨by decide, _, (q_uw 972 rfl rfl), by decide⟩
    · cases hz⟩
theorem hn_L_set_5_0 : q_hnd M_L_set 5 "java/lang/IndexOutOfBoundsException" 13 := ⟨(tableOf (q_hh M_L_set)).take 0, (tableOf (q_hh M_L_set)).getD 0 default, (tableOf (q_hh M_L_set)).drop 1, "java/lang/IndexOutOfBoundsException", rfl, rfl, by decide +kernel, by decide +kernel, (q_uw 897 rfl rfl), (q_nwi 904 rfl rfl), fun z hz => by cases hz⟩
theorem hn_L_set_5_1 : q_hnd M_L_set 5 "java/lang/IllegalArgumentException" 17 := ⟨(tableOf (q_hh M_L_set)).take 1, (tableOf (q_hh M_L_set)).getD 1 default, (tableOf (q_hh M_L_set)).drop 2, "java/lang/IllegalArgumentException", rfl, rfl, by decide +kernel, by decide +kernel, (q_uw 972 rfl rfl), (q_nwi 983 rfl rfl), fun z hz => by
    rcases List.mem_cons.mp hz with hz | hz
    · subst hz; exact Or.inr ⟨by decide, _, (q_uw 897 rfl rfl), by decide⟩
    · cases hz⟩
theorem hn_L_setting_4_0 : q_hnd M_L_setting 4 "java/lang/IndexOutOfBoundsException" 12 := ⟨(tableOf (q_hh M_L_setting)).take 0, (tableOf (q_hh M_L_setting)).getD 0 default, (tableOf (q_hh M_L_setting)).drop 1, "java/lang/IndexOutOfBoundsException", rfl, rfl, by decide +kernel, by decide +kernel, (q_uw 897 rfl rfl), (q_nwi 904 rfl rfl), fun z hz => by cases hz⟩
theorem hn_L_staff_5_0 : q_hnd M_L_staff 5 "java/lang/IndexOutOfBoundsException" 13 := ⟨(tableOf (q_hh M_L_staff)).take 0, (tableOf (q_hh M_L_staff)).getD 0 default, (tableOf (q_hh M_L_staff)).drop 1, "java/lang/IndexOutOfBoundsException", rfl, rfl, by decide +kernel, by decide +kernel, (q_uw 897 rfl rfl), (q_nwi 904 rfl rfl), fun z hz => by cases hz⟩
theorem hn_L_staff_5_1 : q_hnd M_L_staff 5 "java/lang/IllegalArgumentException" 17 := ⟨(tableOf (q_hh M_L_staff)).take 1, (tableOf (q_hh M_L_staff)).getD 1 default, (tableOf (q_hh M_L_staff)).drop 2, "java/lang/IllegalArgumentException", rfl, rfl, by decide +kernel, by decide +kernel, (q_uw 972 rfl rfl), (q_nwi 983 rfl rfl), fun z hz => by
    rcases List.mem_cons.mp hz with hz | hz
    · subst hz; exact Or.inr ⟨by decide, _, (q_uw 897 rfl rfl), by decide⟩
    · cases hz⟩
theorem hn_L_station_5_0 : q_hnd M_L_station 5 "java/lang/IndexOutOfBoundsException" 13 := ⟨(tableOf (q_hh M_L_station)).take 0, (tableOf (q_hh M_L_station)).getD 0 default, (tableOf (q_hh M_L_station)).drop 1, "java/lang/IndexOutOfBoundsException", rfl, rfl, by decide +kernel, by decide +kernel, (q_uw 897 rfl rfl), (q_nwi 904 rfl rfl), fun z hz => by cases hz⟩
theorem hn_L_station_5_1 : q_hnd M_L_station 5 "java/lang/IllegalArgumentException" 17 := ⟨(tableOf (q_hh M_L_station)).take 1, (tableOf (q_hh M_L_station)).getD 1 default, (tableOf (q_hh M_L_station)).drop 2, "java/lang/IllegalArgumentException", rfl, rfl, by decide +kernel, by decide +kernel, (q_uw 972 rfl rfl), (q_nwi 983 rfl rfl), fun z hz => by
    rcases List.mem_cons.mp hz with hz | hz
    · subst hz; exact Or.inr ⟨by decide, _, (q_uw 897 rfl rfl), by decide⟩
    · cases hz⟩
theorem kl_L_64 : Cond.classLink RL 64 "RecyclingLineModel" ∈ q_UW := (q_uw 1197 rfl rfl)
theorem kl_L_8 : Cond.classLink RL 8 "RecyclingLine" ∈ q_UW := (q_uw 103 rfl rfl)
theorem kl_X0_7 : Cond.classLink RX0 7 "RecyclingLine$Heap" ∈ q_UW := (q_uw 205 rfl rfl)
theorem kl_X10_13 : Cond.classLink RX10 13 "RecyclingLine$Line" ∈ q_UW := (q_uw 111 rfl rfl)
theorem kl_X10_43 : Cond.classLink RX10 43 "RecyclingLine$TextReader" ∈ q_UW := (q_uw 516 rfl rfl)
theorem kl_X3_9 : Cond.classLink RX3 9 "RecyclingLine$Parcel" ∈ q_UW := (q_uw 136 rfl rfl)
theorem kl_X4_14 : Cond.classLink RX4 14 "[I" ∈ q_UW := (q_uw 125 rfl rfl)
theorem kl_X4_23 : Cond.classLink RX4 23 "RecyclingLine$Station" ∈ q_UW := (q_uw 126 rfl rfl)
theorem kl_X4_29 : Cond.classLink RX4 29 "RecyclingLine$Buyer" ∈ q_UW := (q_uw 128 rfl rfl)
theorem kl_X4_35 : Cond.classLink RX4 35 "RecyclingLine$Hopper" ∈ q_UW := (q_uw 130 rfl rfl)
theorem kl_X4_42 : Cond.classLink RX4 42 "RecyclingLine$Stock" ∈ q_UW := (q_uw 192 rfl rfl)
theorem kl_X4_49 : Cond.classLink RX4 49 "RecyclingLine$Heap" ∈ q_UW := (q_uw 245 rfl rfl)
theorem kl_X4_56 : Cond.classLink RX4 56 "RecyclingLine$Tally" ∈ q_UW := (q_uw 247 rfl rfl)
theorem kl_X5_7 : Cond.classLink RX5 7 "RecyclingLine$Heap" ∈ q_UW := (q_uw 143 rfl rfl)
theorem kl_X6_18 : Cond.classLink RX6 18 "RecyclingLine$Heap" ∈ q_UW := (q_uw 310 rfl rfl)
theorem kl_X6_9 : Cond.classLink RX6 9 "RecyclingLine$Parcel" ∈ q_UW := (q_uw 308 rfl rfl)
theorem kl_X7_9 : Cond.classLink RX7 9 "RecyclingLine$Bale" ∈ q_UW := (q_uw 198 rfl rfl)
theorem mI_L_63_X10_init : q_CL RL 63 M_X10_init ∨ ∃ host, Cond.methodLinkNest RL 63 M_X10_init.1 host ∈ q_NW := Or.inl (q_uw 105 rfl rfl)
theorem mI_L_66_X11_init : q_CL RL 66 M_X11_init ∨ ∃ host, Cond.methodLinkNest RL 66 M_X11_init.1 host ∈ q_NW := Or.inl (q_uw 1199 rfl rfl)
theorem mI_X0_9_X2_init : q_CL RX0 9 M_X2_init ∨ ∃ host, Cond.methodLinkNest RX0 9 M_X2_init.1 host ∈ q_NW := Or.inr ⟨_, (q_nwi 206 rfl rfl)⟩
theorem mI_X10_15_X4_init : q_CL RX10 15 M_X4_init ∨ ∃ host, Cond.methodLinkNest RX10 15 M_X4_init.1 host ∈ q_NW := Or.inl (q_uw 113 rfl rfl)
theorem mI_X10_45_X9_init : q_CL RX10 45 M_X9_init ∨ ∃ host, Cond.methodLinkNest RX10 45 M_X9_init.1 host ∈ q_NW := Or.inl (q_uw 518 rfl rfl)
theorem mI_X3_17_X5_init : q_CL RX3 17 M_X5_init ∨ ∃ host, Cond.methodLinkNest RX3 17 M_X5_init.1 host ∈ q_NW := Or.inr ⟨_, (q_nwi 139 rfl rfl)⟩
theorem mI_X4_37_X3_init : q_CL RX4 37 M_X3_init ∨ ∃ host, Cond.methodLinkNest RX4 37 M_X3_init.1 host ∈ q_NW := Or.inl (q_uw 132 rfl rfl)
theorem mI_X4_44_X7_init : q_CL RX4 44 M_X7_init ∨ ∃ host, Cond.methodLinkNest RX4 44 M_X7_init.1 host ∈ q_NW := Or.inl (q_uw 194 rfl rfl)
theorem mI_X4_51_X2_init : q_CL RX4 51 M_X2_init ∨ ∃ host, Cond.methodLinkNest RX4 51 M_X2_init.1 host ∈ q_NW := Or.inr ⟨_, (q_nwi 246 rfl rfl)⟩
theorem mI_X4_58_X8_init : q_CL RX4 58 M_X8_init ∨ ∃ host, Cond.methodLinkNest RX4 58 M_X8_init.1 host ∈ q_NW := Or.inr ⟨_, (q_nwi 249 rfl rfl)⟩
theorem mI_X4_69_X6_init : q_CL RX4 69 M_X6_init ∨ ∃ host, Cond.methodLinkNest RX4 69 M_X6_init.1 host ∈ q_NW := Or.inr ⟨_, (q_nwi 304 rfl rfl)⟩
theorem mI_X4_70_X1_init : q_CL RX4 70 M_X1_init ∨ ∃ host, Cond.methodLinkNest RX4 70 M_X1_init.1 host ∈ q_NW := Or.inr ⟨_, (q_nwi 358 rfl rfl)⟩
theorem mI_X5_9_X2_init : q_CL RX5 9 M_X2_init ∨ ∃ host, Cond.methodLinkNest RX5 9 M_X2_init.1 host ∈ q_NW := Or.inr ⟨_, (q_nwi 145 rfl rfl)⟩
theorem mI_X6_11_X5_init : q_CL RX6 11 M_X5_init ∨ ∃ host, Cond.methodLinkNest RX6 11 M_X5_init.1 host ∈ q_NW := Or.inr ⟨_, (q_nwi 309 rfl rfl)⟩
theorem mI_X6_20_X2_init : q_CL RX6 20 M_X2_init ∨ ∃ host, Cond.methodLinkNest RX6 20 M_X2_init.1 host ∈ q_NW := Or.inr ⟨_, (q_nwi 311 rfl rfl)⟩
theorem mI_X7_17_X0_init : q_CL RX7 17 M_X0_init ∨ ∃ host, Cond.methodLinkNest RX7 17 M_X0_init.1 host ∈ q_NW := Or.inr ⟨_, (q_nwi 201 rfl rfl)⟩
theorem mi_J0_charAt_5068e : q_MI M_J0_charAt_5068e := ⟨(q_uw 591 rfl rfl), (q_uw 592 rfl rfl)⟩
theorem mi_J0_coder_7d493 : q_MI M_J0_coder_7d493 := ⟨(q_uw 585 rfl rfl), (q_uw 586 rfl rfl)⟩
theorem mi_J0_isLatin1_aae02 : q_MI M_J0_isLatin1_aae02 := ⟨(q_uw 595 rfl rfl), (q_uw 596 rfl rfl)⟩
theorem mi_J0_length_8abf5 : q_MI M_J0_length_8abf5 := ⟨(q_uw 581 rfl rfl), (q_uw 582 rfl rfl)⟩
theorem mi_X0_copyFrom : q_MI M_X0_copyFrom := ⟨(q_uw 788 rfl rfl), (q_uw 789 rfl rfl)⟩
theorem mi_X0_judge : q_MI M_X0_judge := ⟨(q_uw 889 rfl rfl), (q_uw 890 rfl rfl)⟩
theorem mi_X10_append : q_MI M_X10_append := ⟨(q_uw 493 rfl rfl), (q_uw 494 rfl rfl)⟩
theorem mi_X10_appendBytes : q_MI M_X10_appendBytes := ⟨(q_uw 498 rfl rfl), (q_uw 0 rfl rfl)⟩
theorem mi_X10_balance : q_MI M_X10_balance := ⟨(q_uw 720 rfl rfl), (q_uw 721 rfl rfl)⟩
theorem mi_X10_bale : q_MI M_X10_bale := ⟨(q_uw 1019 rfl rfl), (q_uw 1020 rfl rfl)⟩
theorem mi_X10_bestBuyer : q_MI M_X10_bestBuyer := ⟨(q_uw 1165 rfl rfl), (q_uw 1166 rfl rfl)⟩
theorem mi_X10_bestStaff : q_MI M_X10_bestStaff := ⟨(q_uw 1186 rfl rfl), (q_uw 1187 rfl rfl)⟩
theorem mi_X10_bufferLength : q_MI M_X10_bufferLength := ⟨(q_uw 505 rfl rfl), (q_uw 506 rfl rfl)⟩
theorem mi_X10_buyer : q_MI M_X10_buyer := ⟨(q_uw 1032 rfl rfl), (q_uw 1033 rfl rfl)⟩
theorem mi_X10_clean : q_MI M_X10_clean := ⟨(q_uw 1157 rfl rfl), (q_uw 1158 rfl rfl)⟩
theorem mi_X10_copyOfLine : q_MI M_X10_copyOfLine := ⟨(q_uw 754 rfl rfl), (q_uw 14 rfl rfl)⟩
theorem mi_X10_copyOfLine0 : q_MI M_X10_copyOfLine0 := ⟨(q_uw 754 rfl rfl), (q_uw 14 rfl rfl)⟩
theorem mi_X10_emptied : q_MI M_X10_emptied := ⟨(q_uw 749 rfl rfl), (q_uw 750 rfl rfl)⟩
theorem mi_X10_find : q_MI M_X10_find := ⟨(q_uw 702 rfl rfl), (q_uw 703 rfl rfl)⟩
theorem mi_X10_line : q_MI M_X10_line := ⟨(q_uw 708 rfl rfl), (q_uw 709 rfl rfl)⟩
theorem mi_X10_load : q_MI M_X10_load := ⟨(q_uw 1053 rfl rfl), (q_uw 1054 rfl rfl)⟩
theorem mi_X10_loss : q_MI M_X10_loss := ⟨(q_uw 741 rfl rfl), (q_uw 742 rfl rfl)⟩
theorem mi_X10_mass : q_MI M_X10_mass := ⟨(q_uw 1001 rfl rfl), (q_uw 1002 rfl rfl)⟩
theorem mi_X10_outlook : q_MI M_X10_outlook := ⟨(q_uw 1173 rfl rfl), (q_uw 1174 rfl rfl)⟩
theorem mi_X10_pickedWith : q_MI M_X10_pickedWith := ⟨(q_uw 1191 rfl rfl), (q_uw 25 rfl rfl)⟩
theorem mi_X10_pickedWith0 : q_MI M_X10_pickedWith0 := ⟨(q_uw 1191 rfl rfl), (q_uw 25 rfl rfl)⟩
theorem mi_X10_purity : q_MI M_X10_purity := ⟨(q_uw 1045 rfl rfl), (q_uw 1046 rfl rfl)⟩
theorem mi_X10_read : q_MI M_X10_read := ⟨(q_uw 509 rfl rfl), (q_uw 510 rfl rfl)⟩
theorem mi_X10_remember : q_MI M_X10_remember := ⟨(q_uw 1076 rfl rfl), (q_uw 23 rfl rfl)⟩
theorem mi_X10_run : q_MI M_X10_run := ⟨(q_uw 1104 rfl rfl), (q_uw 1105 rfl rfl)⟩
theorem mi_X10_sell : q_MI M_X10_sell := ⟨(q_uw 1113 rfl rfl), (q_uw 1114 rfl rfl)⟩
theorem mi_X10_set : q_MI M_X10_set := ⟨(q_uw 1085 rfl rfl), (q_uw 1086 rfl rfl)⟩
theorem mi_X10_setting : q_MI M_X10_setting := ⟨(q_uw 899 rfl rfl), (q_uw 900 rfl rfl)⟩
theorem mi_X10_spareLine : q_MI M_X10_spareLine := ⟨(q_uw 514 rfl rfl), (q_uw 1 rfl rfl)⟩
theorem mi_X10_spareLine0 : q_MI M_X10_spareLine0 := ⟨(q_uw 514 rfl rfl), (q_uw 1 rfl rfl)⟩
theorem mi_X10_staff : q_MI M_X10_staff := ⟨(q_uw 1095 rfl rfl), (q_uw 1096 rfl rfl)⟩
theorem mi_X10_station : q_MI M_X10_station := ⟨(q_uw 974 rfl rfl), (q_uw 975 rfl rfl)⟩
theorem mi_X10_truncate : q_MI M_X10_truncate := ⟨(q_uw 501 rfl rfl), (q_uw 502 rfl rfl)⟩
theorem mi_X10_undo : q_MI M_X10_undo := ⟨(q_uw 745 rfl rfl), (q_uw 746 rfl rfl)⟩
theorem mi_X11_adds : q_MI M_X11_adds := ⟨(q_uw 1292 rfl rfl), (q_uw 28 rfl rfl)⟩
theorem mi_X11_append : q_MI M_X11_append := ⟨(q_uw 1287 rfl rfl), (q_uw 1288 rfl rfl)⟩
theorem mi_X11_bad : q_MI M_X11_bad := ⟨(q_uw 1336 rfl rfl), (q_uw 33 rfl rfl)⟩
theorem mi_X11_balance : q_MI M_X11_balance := ⟨(q_uw 1476 rfl rfl), (q_uw 1477 rfl rfl)⟩
theorem mi_X11_bale : q_MI M_X11_bale := ⟨(q_uw 1456 rfl rfl), (q_uw 1457 rfl rfl)⟩
theorem mi_X11_becomes : q_MI M_X11_becomes := ⟨(q_uw 1209 rfl rfl), (q_uw 27 rfl rfl)⟩
theorem mi_X11_bestBuyer : q_MI M_X11_bestBuyer := ⟨(q_uw 1601 rfl rfl), (q_uw 1602 rfl rfl)⟩
theorem mi_X11_bestStaff : q_MI M_X11_bestStaff := ⟨(q_uw 1618 rfl rfl), (q_uw 1619 rfl rfl)⟩
theorem mi_X11_bufferLength : q_MI M_X11_bufferLength := ⟨(q_uw 1302 rfl rfl), (q_uw 1303 rfl rfl)⟩
theorem mi_X11_buyer : q_MI M_X11_buyer := ⟨(q_uw 1467 rfl rfl), (q_uw 1468 rfl rfl)⟩
theorem mi_X11_byteAt : q_MI M_X11_byteAt := ⟨(q_uw 1319 rfl rfl), (q_uw 31 rfl rfl)⟩
theorem mi_X11_capacity : q_MI M_X11_capacity := ⟨(q_uw 1436 rfl rfl), (q_uw 48 rfl rfl)⟩
theorem mi_X11_clean : q_MI M_X11_clean := ⟨(q_uw 1597 rfl rfl), (q_uw 1598 rfl rfl)⟩
theorem mi_X11_comesBack : q_MI M_X11_comesBack := ⟨(q_uw 1615 rfl rfl), (q_uw 75 rfl rfl)⟩
theorem mi_X11_emptied : q_MI M_X11_emptied := ⟨(q_uw 1623 rfl rfl), (q_uw 1624 rfl rfl)⟩
theorem mi_X11_ends : q_MI M_X11_ends := ⟨(q_uw 1344 rfl rfl), (q_uw 35 rfl rfl)⟩
theorem mi_X11_fails : q_MI M_X11_fails := ⟨(q_uw 1419 rfl rfl), (q_uw 45 rfl rfl)⟩
theorem mi_X11_find : q_MI M_X11_find := ⟨(q_uw 1393 rfl rfl), (q_uw 1394 rfl rfl)⟩
theorem mi_X11_go : q_MI M_X11_go := ⟨(q_uw 1315 rfl rfl), (q_uw 30 rfl rfl)⟩
theorem mi_X11_goes : q_MI M_X11_goes := ⟨(q_uw 1561 rfl rfl), (q_uw 66 rfl rfl)⟩
theorem mi_X11_goesAside : q_MI M_X11_goesAside := ⟨(q_uw 1611 rfl rfl), (q_uw 74 rfl rfl)⟩
theorem mi_X11_gradeOf : q_MI M_X11_gradeOf := ⟨(q_uw 1570 rfl rfl), (q_uw 68 rfl rfl)⟩
theorem mi_X11_hasParcel : q_MI M_X11_hasParcel := ⟨(q_uw 1444 rfl rfl), (q_uw 50 rfl rfl)⟩
theorem mi_X11_impurity : q_MI M_X11_impurity := ⟨(q_uw 1590 rfl rfl), (q_uw 72 rfl rfl)⟩
theorem mi_X11_isBale : q_MI M_X11_isBale := ⟨(q_uw 1461 rfl rfl), (q_uw 52 rfl rfl)⟩
theorem mi_X11_isBuyer : q_MI M_X11_isBuyer := ⟨(q_uw 1472 rfl rfl), (q_uw 53 rfl rfl)⟩
theorem mi_X11_isEmpty : q_MI M_X11_isEmpty := ⟨(q_uw 1628 rfl rfl), (q_uw 76 rfl rfl)⟩
theorem mi_X11_isMaterial : q_MI M_X11_isMaterial := ⟨(q_uw 1453 rfl rfl), (q_uw 51 rfl rfl)⟩
theorem mi_X11_isName : q_MI M_X11_isName := ⟨(q_uw 1377 rfl rfl), (q_uw 40 rfl rfl)⟩
theorem mi_X11_isStation : q_MI M_X11_isStation := ⟨(q_uw 1427 rfl rfl), (q_uw 46 rfl rfl)⟩
theorem mi_X11_isTarget : q_MI M_X11_isTarget := ⟨(q_uw 1525 rfl rfl), (q_uw 58 rfl rfl)⟩
theorem mi_X11_isWord : q_MI M_X11_isWord := ⟨(q_uw 1330 rfl rfl), (q_uw 32 rfl rfl)⟩
theorem mi_X11_joins : q_MI M_X11_joins := ⟨(q_uw 1533 rfl rfl), (q_uw 60 rfl rfl)⟩
theorem mi_X11_lays : q_MI M_X11_lays := ⟨(q_uw 1205 rfl rfl), (q_uw 26 rfl rfl)⟩
theorem mi_X11_lays_ : q_MI M_X11_lays_ := ⟨(q_uw 1552 rfl rfl), (q_uw 64 rfl rfl)⟩
theorem mi_X11_leaves : q_MI M_X11_leaves := ⟨(q_uw 1521 rfl rfl), (q_uw 57 rfl rfl)⟩
theorem mi_X11_letters : q_MI M_X11_letters := ⟨(q_uw 1381 rfl rfl), (q_uw 41 rfl rfl)⟩
theorem mi_X11_line : q_MI M_X11_line := ⟨(q_uw 1398 rfl rfl), (q_uw 1399 rfl rfl)⟩
theorem mi_X11_load : q_MI M_X11_load := ⟨(q_uw 1489 rfl rfl), (q_uw 1490 rfl rfl)⟩
theorem mi_X11_loss : q_MI M_X11_loss := ⟨(q_uw 1485 rfl rfl), (q_uw 1486 rfl rfl)⟩
theorem mi_X11_mass : q_MI M_X11_mass := ⟨(q_uw 1447 rfl rfl), (q_uw 1448 rfl rfl)⟩
theorem mi_X11_materials : q_MI M_X11_materials := ⟨(q_uw 1403 rfl rfl), (q_uw 43 rfl rfl)⟩
theorem mi_X11_mostOf : q_MI M_X11_mostOf := ⟨(q_uw 1548 rfl rfl), (q_uw 63 rfl rfl)⟩
theorem mi_X11_moves : q_MI M_X11_moves := ⟨(q_uw 1537 rfl rfl), (q_uw 61 rfl rfl)⟩
theorem mi_X11_ofBuyer : q_MI M_X11_ofBuyer := ⟨(q_uw 1582 rfl rfl), (q_uw 70 rfl rfl)⟩
theorem mi_X11_onBelt : q_MI M_X11_onBelt := ⟨(q_uw 1407 rfl rfl), (q_uw 44 rfl rfl)⟩
theorem mi_X11_outlook : q_MI M_X11_outlook := ⟨(q_uw 1605 rfl rfl), (q_uw 1606 rfl rfl)⟩
theorem mi_X11_pays : q_MI M_X11_pays := ⟨(q_uw 1594 rfl rfl), (q_uw 73 rfl rfl)⟩
theorem mi_X11_picks : q_MI M_X11_picks := ⟨(q_uw 1556 rfl rfl), (q_uw 65 rfl rfl)⟩
theorem mi_X11_presses : q_MI M_X11_presses := ⟨(q_uw 1566 rfl rfl), (q_uw 67 rfl rfl)⟩
theorem mi_X11_purity : q_MI M_X11_purity := ⟨(q_uw 1481 rfl rfl), (q_uw 1482 rfl rfl)⟩
theorem mi_X11_read : q_MI M_X11_read := ⟨(q_uw 1306 rfl rfl), (q_uw 1307 rfl rfl)⟩
theorem mi_X11_reads : q_MI M_X11_reads := ⟨(q_uw 1340 rfl rfl), (q_uw 34 rfl rfl)⟩
theorem mi_X11_readsAll : q_MI M_X11_readsAll := ⟨(q_uw 1311 rfl rfl), (q_uw 29 rfl rfl)⟩
theorem mi_X11_readsBuyer : q_MI M_X11_readsBuyer := ⟨(q_uw 1373 rfl rfl), (q_uw 39 rfl rfl)⟩
theorem mi_X11_readsLoad : q_MI M_X11_readsLoad := ⟨(q_uw 1362 rfl rfl), (q_uw 38 rfl rfl)⟩
theorem mi_X11_readsSetting : q_MI M_X11_readsSetting := ⟨(q_uw 1357 rfl rfl), (q_uw 37 rfl rfl)⟩
theorem mi_X11_readsStation : q_MI M_X11_readsStation := ⟨(q_uw 1349 rfl rfl), (q_uw 36 rfl rfl)⟩
theorem mi_X11_remembers : q_MI M_X11_remembers := ⟨(q_uw 1495 rfl rfl), (q_uw 54 rfl rfl)⟩
theorem mi_X11_run : q_MI M_X11_run := ⟨(q_uw 1511 rfl rfl), (q_uw 1512 rfl rfl)⟩
theorem mi_X11_sell : q_MI M_X11_sell := ⟨(q_uw 1573 rfl rfl), (q_uw 1574 rfl rfl)⟩
theorem mi_X11_sendsBack : q_MI M_X11_sendsBack := ⟨(q_uw 1586 rfl rfl), (q_uw 71 rfl rfl)⟩
theorem mi_X11_set : q_MI M_X11_set := ⟨(q_uw 1498 rfl rfl), (q_uw 1499 rfl rfl)⟩
theorem mi_X11_setting : q_MI M_X11_setting := ⟨(q_uw 1413 rfl rfl), (q_uw 1414 rfl rfl)⟩
theorem mi_X11_staff : q_MI M_X11_staff := ⟨(q_uw 1502 rfl rfl), (q_uw 1503 rfl rfl)⟩
theorem mi_X11_staffs : q_MI M_X11_staffs := ⟨(q_uw 1508 rfl rfl), (q_uw 55 rfl rfl)⟩
theorem mi_X11_station : q_MI M_X11_station := ⟨(q_uw 1422 rfl rfl), (q_uw 1423 rfl rfl)⟩
theorem mi_X11_stations : q_MI M_X11_stations := ⟨(q_uw 1390 rfl rfl), (q_uw 42 rfl rfl)⟩
theorem mi_X11_takes : q_MI M_X11_takes := ⟨(q_uw 1541 rfl rfl), (q_uw 62 rfl rfl)⟩
theorem mi_X11_takesBale : q_MI M_X11_takesBale := ⟨(q_uw 1578 rfl rfl), (q_uw 69 rfl rfl)⟩
theorem mi_X11_targetOf : q_MI M_X11_targetOf := ⟨(q_uw 1432 rfl rfl), (q_uw 47 rfl rfl)⟩
theorem mi_X11_thrown : q_MI M_X11_thrown := ⟨(q_uw 1194 rfl rfl), (q_uw 1195 rfl rfl)⟩
theorem mi_X11_ticks : q_MI M_X11_ticks := ⟨(q_uw 1517 rfl rfl), (q_uw 56 rfl rfl)⟩
theorem mi_X11_total : q_MI M_X11_total := ⟨(q_uw 1440 rfl rfl), (q_uw 49 rfl rfl)⟩
theorem mi_X11_truncate : q_MI M_X11_truncate := ⟨(q_uw 1295 rfl rfl), (q_uw 1296 rfl rfl)⟩
theorem mi_X11_undo : q_MI M_X11_undo := ⟨(q_uw 1283 rfl rfl), (q_uw 1284 rfl rfl)⟩
theorem mi_X11_waits : q_MI M_X11_waits := ⟨(q_uw 1529 rfl rfl), (q_uw 59 rfl rfl)⟩
theorem mi_X1_claimsFor : q_MI M_X1_claimsFor := ⟨(q_uw 1148 rfl rfl), (q_uw 1149 rfl rfl)⟩
theorem mi_X1_copyFrom : q_MI M_X1_copyFrom := ⟨(q_uw 775 rfl rfl), (q_uw 776 rfl rfl)⟩
theorem mi_X1_payFor : q_MI M_X1_payFor := ⟨(q_uw 1140 rfl rfl), (q_uw 1141 rfl rfl)⟩
theorem mi_X1_sendsBack : q_MI M_X1_sendsBack := ⟨(q_uw 1123 rfl rfl), (q_uw 1124 rfl rfl)⟩
theorem mi_X1_takes : q_MI M_X1_takes := ⟨(q_uw 1118 rfl rfl), (q_uw 1119 rfl rfl)⟩
theorem mi_X1_worthOf : q_MI M_X1_worthOf := ⟨(q_uw 1145 rfl rfl), (q_uw 24 rfl rfl)⟩
theorem mi_X2_clear : q_MI M_X2_clear := ⟨(q_uw 464 rfl rfl), (q_uw 465 rfl rfl)⟩
theorem mi_X2_copyFrom : q_MI M_X2_copyFrom := ⟨(q_uw 769 rfl rfl), (q_uw 770 rfl rfl)⟩
theorem mi_X2_mostBut : q_MI M_X2_mostBut := ⟨(q_uw 851 rfl rfl), (q_uw 852 rfl rfl)⟩
theorem mi_X2_move : q_MI M_X2_move := ⟨(q_uw 847 rfl rfl), (q_uw 848 rfl rfl)⟩
theorem mi_X2_movePortion : q_MI M_X2_movePortion := ⟨(q_uw 841 rfl rfl), (q_uw 842 rfl rfl)⟩
theorem mi_X2_of : q_MI M_X2_of := ⟨(q_uw 820 rfl rfl), (q_uw 821 rfl rfl)⟩
theorem mi_X2_put : q_MI M_X2_put := ⟨(q_uw 674 rfl rfl), (q_uw 675 rfl rfl)⟩
theorem mi_X2_putAll : q_MI M_X2_putAll := ⟨(q_uw 825 rfl rfl), (q_uw 826 rfl rfl)⟩
theorem mi_X3_addLast : q_MI M_X3_addLast := ⟨(q_uw 665 rfl rfl), (q_uw 666 rfl rfl)⟩
theorem mi_X3_copyFrom : q_MI M_X3_copyFrom := ⟨(q_uw 779 rfl rfl), (q_uw 780 rfl rfl)⟩
theorem mi_X3_dropFirst : q_MI M_X3_dropFirst := ⟨(q_uw 855 rfl rfl), (q_uw 856 rfl rfl)⟩
theorem mi_X3_dropLast : q_MI M_X3_dropLast := ⟨(q_uw 678 rfl rfl), (q_uw 679 rfl rfl)⟩
theorem mi_X3_isFull : q_MI M_X3_isFull := ⟨(q_uw 669 rfl rfl), (q_uw 670 rfl rfl)⟩
theorem mi_X3_parcelAt : q_MI M_X3_parcelAt := ⟨(q_uw 837 rfl rfl), (q_uw 838 rfl rfl)⟩
theorem mi_X3_totalMass : q_MI M_X3_totalMass := ⟨(q_uw 724 rfl rfl), (q_uw 725 rfl rfl)⟩
theorem mi_X4_addStation : q_MI M_X4_addStation := ⟨(q_uw 456 rfl rfl), (q_uw 457 rfl rfl)⟩
theorem mi_X4_buyerAt : q_MI M_X4_buyerAt := ⟨(q_uw 1036 rfl rfl), (q_uw 1037 rfl rfl)⟩
theorem mi_X4_buyerNamed : q_MI M_X4_buyerNamed := ⟨(q_uw 698 rfl rfl), (q_uw 699 rfl rfl)⟩
theorem mi_X4_copyFrom : q_MI M_X4_copyFrom := ⟨(q_uw 757 rfl rfl), (q_uw 758 rfl rfl)⟩
theorem mi_X4_feedBelt : q_MI M_X4_feedBelt := ⟨(q_uw 834 rfl rfl), (q_uw 19 rfl rfl)⟩
theorem mi_X4_goesRound : q_MI M_X4_goesRound := ⟨(q_uw 812 rfl rfl), (q_uw 16 rfl rfl)⟩
theorem mi_X4_greatestTiredness : q_MI M_X4_greatestTiredness := ⟨(q_uw 1178 rfl rfl), (q_uw 1179 rfl rfl)⟩
theorem mi_X4_handOver : q_MI M_X4_handOver := ⟨(q_uw 1136 rfl rfl), (q_uw 1137 rfl rfl)⟩
theorem mi_X4_hasMaterial : q_MI M_X4_hasMaterial := ⟨(q_uw 1006 rfl rfl), (q_uw 1007 rfl rfl)⟩
theorem mi_X4_heapAt : q_MI M_X4_heapAt := ⟨(q_uw 1011 rfl rfl), (q_uw 1012 rfl rfl)⟩
theorem mi_X4_isEmptied : q_MI M_X4_isEmptied := ⟨(q_uw 794 rfl rfl), (q_uw 795 rfl rfl)⟩
theorem mi_X4_isTarget : q_MI M_X4_isTarget := ⟨(q_uw 817 rfl rfl), (q_uw 17 rfl rfl)⟩
theorem mi_X4_leaveBelt : q_MI M_X4_leaveBelt := ⟨(q_uw 804 rfl rfl), (q_uw 15 rfl rfl)⟩
theorem mi_X4_makeTicks : q_MI M_X4_makeTicks := ⟨(q_uw 799 rfl rfl), (q_uw 800 rfl rfl)⟩
theorem mi_X4_massInBunkers : q_MI M_X4_massInBunkers := ⟨(q_uw 732 rfl rfl), (q_uw 733 rfl rfl)⟩
theorem mi_X4_massOnBelt : q_MI M_X4_massOnBelt := ⟨(q_uw 728 rfl rfl), (q_uw 729 rfl rfl)⟩
theorem mi_X4_moveBelt : q_MI M_X4_moveBelt := ⟨(q_uw 830 rfl rfl), (q_uw 18 rfl rfl)⟩
theorem mi_X4_parcelsOnBelt : q_MI M_X4_parcelsOnBelt := ⟨(q_uw 712 rfl rfl), (q_uw 713 rfl rfl)⟩
theorem mi_X4_pressBale : q_MI M_X4_pressBale := ⟨(q_uw 881 rfl rfl), (q_uw 21 rfl rfl)⟩
theorem mi_X4_pressBales : q_MI M_X4_pressBales := ⟨(q_uw 877 rfl rfl), (q_uw 20 rfl rfl)⟩
theorem mi_X4_reset : q_MI M_X4_reset := ⟨(q_uw 552 rfl rfl), (q_uw 553 rfl rfl)⟩
theorem mi_X4_stationAt : q_MI M_X4_stationAt := ⟨(q_uw 807 rfl rfl), (q_uw 808 rfl rfl)⟩
theorem mi_X4_takeBack : q_MI M_X4_takeBack := ⟨(q_uw 1132 rfl rfl), (q_uw 1133 rfl rfl)⟩
theorem mi_X5_copyFrom : q_MI M_X5_copyFrom := ⟨(q_uw 765 rfl rfl), (q_uw 766 rfl rfl)⟩
theorem mi_X6_capacity : q_MI M_X6_capacity := ⟨(q_uw 864 rfl rfl), (q_uw 865 rfl rfl)⟩
theorem mi_X6_copyFrom : q_MI M_X6_copyFrom := ⟨(q_uw 761 rfl rfl), (q_uw 762 rfl rfl)⟩
theorem mi_X6_isSlotEmpty : q_MI M_X6_isSlotEmpty := ⟨(q_uw 716 rfl rfl), (q_uw 717 rfl rfl)⟩
theorem mi_X6_pick : q_MI M_X6_pick := ⟨(q_uw 859 rfl rfl), (q_uw 860 rfl rfl)⟩
theorem mi_X6_relieve : q_MI M_X6_relieve := ⟨(q_uw 460 rfl rfl), (q_uw 461 rfl rfl)⟩
theorem mi_X7_addLast : q_MI M_X7_addLast := ⟨(q_uw 884 rfl rfl), (q_uw 885 rfl rfl)⟩
theorem mi_X7_baleAt : q_MI M_X7_baleAt := ⟨(q_uw 1023 rfl rfl), (q_uw 1024 rfl rfl)⟩
theorem mi_X7_copyFrom : q_MI M_X7_copyFrom := ⟨(q_uw 784 rfl rfl), (q_uw 785 rfl rfl)⟩
theorem mi_X7_dropBale : q_MI M_X7_dropBale := ⟨(q_uw 1127 rfl rfl), (q_uw 1128 rfl rfl)⟩
theorem mi_X7_totalMass : q_MI M_X7_totalMass := ⟨(q_uw 736 rfl rfl), (q_uw 737 rfl rfl)⟩
theorem mi_X8_copyFrom : q_MI M_X8_copyFrom := ⟨(q_uw 559 rfl rfl), (q_uw 560 rfl rfl)⟩
theorem mi_X9_fail : q_MI M_X9_fail := ⟨(q_uw 634 rfl rfl), (q_uw 5 rfl rfl)⟩
theorem mi_X9_isKeyword : q_MI M_X9_isKeyword := ⟨(q_uw 692 rfl rfl), (q_uw 13 rfl rfl)⟩
theorem mi_X9_isWord : q_MI M_X9_isWord := ⟨(q_uw 578 rfl rfl), (q_uw 3 rfl rfl)⟩
theorem mi_X9_nextToken : q_MI M_X9_nextToken := ⟨(q_uw 564 rfl rfl), (q_uw 2 rfl rfl)⟩
theorem mi_X9_readBuyer : q_MI M_X9_readBuyer := ⟨(q_uw 684 rfl rfl), (q_uw 11 rfl rfl)⟩
theorem mi_X9_readLoad : q_MI M_X9_readLoad := ⟨(q_uw 662 rfl rfl), (q_uw 10 rfl rfl)⟩
theorem mi_X9_readName : q_MI M_X9_readName := ⟨(q_uw 688 rfl rfl), (q_uw 12 rfl rfl)⟩
theorem mi_X9_readNumber : q_MI M_X9_readNumber := ⟨(q_uw 630 rfl rfl), (q_uw 4 rfl rfl)⟩
theorem mi_X9_readSemicolon : q_MI M_X9_readSemicolon := ⟨(q_uw 638 rfl rfl), (q_uw 6 rfl rfl)⟩
theorem mi_X9_readSetting : q_MI M_X9_readSetting := ⟨(q_uw 653 rfl rfl), (q_uw 9 rfl rfl)⟩
theorem mi_X9_readStatement : q_MI M_X9_readStatement := ⟨(q_uw 642 rfl rfl), (q_uw 7 rfl rfl)⟩
theorem mi_X9_readStation : q_MI M_X9_readStation := ⟨(q_uw 647 rfl rfl), (q_uw 8 rfl rfl)⟩
theorem mi_X9_readText : q_MI M_X9_readText := ⟨(q_uw 548 rfl rfl), (q_uw 549 rfl rfl)⟩
theorem mi0_X0_init : Cond.instanceMethod M_X0_init.1 ∈ q_UW := (q_uw 202 rfl rfl)
theorem mi0_X10_init : Cond.instanceMethod M_X10_init.1 ∈ q_UW := (q_uw 106 rfl rfl)
theorem mi0_X11_init : Cond.instanceMethod M_X11_init.1 ∈ q_UW := (q_uw 1200 rfl rfl)
theorem mi0_X1_init : Cond.instanceMethod M_X1_init.1 ∈ q_UW := (q_uw 359 rfl rfl)
theorem mi0_X2_init : Cond.instanceMethod M_X2_init.1 ∈ q_UW := (q_uw 146 rfl rfl)
theorem mi0_X3_init : Cond.instanceMethod M_X3_init.1 ∈ q_UW := (q_uw 133 rfl rfl)
theorem mi0_X4_init : Cond.instanceMethod M_X4_init.1 ∈ q_UW := (q_uw 114 rfl rfl)
theorem mi0_X5_init : Cond.instanceMethod M_X5_init.1 ∈ q_UW := (q_uw 140 rfl rfl)
theorem mi0_X6_init : Cond.instanceMethod M_X6_init.1 ∈ q_UW := (q_uw 305 rfl rfl)
theorem mi0_X7_init : Cond.instanceMethod M_X7_init.1 ∈ q_UW := (q_uw 195 rfl rfl)
theorem mi0_X8_init : Cond.instanceMethod M_X8_init.1 ∈ q_UW := (q_uw 250 rfl rfl)
theorem mi0_X9_init : Cond.instanceMethod M_X9_init.1 ∈ q_UW := (q_uw 519 rfl rfl)
theorem ml_J0_1059_J3_checkIndex_8e157 : q_CL RJ0 1059 M_J3_checkIndex_8e157 := (q_uw 606 rfl rfl)
theorem ml_J0_335_J0_coder_7d493 : q_CL RJ0 335 M_J0_coder_7d493 := (q_uw 584 rfl rfl)
theorem ml_J0_492_J0_isLatin1_aae02 : q_CL RJ0 492 M_J0_isLatin1_aae02 := (q_uw 594 rfl rfl)
theorem ml_J0_495_J1_charAt_3b067 : q_CL RJ0 495 M_J1_charAt_3b067 := (q_uw 598 rfl rfl)
theorem ml_J1_9_J0_checkIndex_df160 : q_CL RJ1 9 M_J0_checkIndex_df160 := (q_uw 601 rfl rfl)
theorem ml_L_100_X11_thrown : q_CL RL 100 M_X11_thrown := (q_uw 1193 rfl rfl)
theorem ml_L_103_L_station : q_CL RL 103 M_L_station := (q_uw 969 rfl rfl)
theorem ml_L_106_X11_station : q_CL RL 106 M_X11_station := (q_uw 1421 rfl rfl)
theorem ml_L_107_L_mass : q_CL RL 107 M_L_mass := (q_uw 997 rfl rfl)
theorem ml_L_109_X11_mass : q_CL RL 109 M_X11_mass := (q_uw 1446 rfl rfl)
theorem ml_L_110_L_bale : q_CL RL 110 M_L_bale := (q_uw 1015 rfl rfl)
theorem ml_L_112_X11_bale : q_CL RL 112 M_X11_bale := (q_uw 1455 rfl rfl)
theorem ml_L_113_L_buyer : q_CL RL 113 M_L_buyer := (q_uw 1028 rfl rfl)
theorem ml_L_115_X11_buyer : q_CL RL 115 M_X11_buyer := (q_uw 1466 rfl rfl)
theorem ml_L_116_X10_balance : q_CL RL 116 M_X10_balance := (q_uw 719 rfl rfl)
theorem ml_L_120_X11_balance : q_CL RL 120 M_X11_balance := (q_uw 1475 rfl rfl)
theorem ml_L_121_L_purity : q_CL RL 121 M_L_purity := (q_uw 1041 rfl rfl)
theorem ml_L_124_X11_purity : q_CL RL 124 M_X11_purity := (q_uw 1480 rfl rfl)
theorem ml_L_125_X10_loss : q_CL RL 125 M_X10_loss := (q_uw 740 rfl rfl)
theorem ml_L_129_X11_loss : q_CL RL 129 M_X11_loss := (q_uw 1484 rfl rfl)
theorem ml_L_130_L_load : q_CL RL 130 M_L_load := (q_uw 1048 rfl rfl)
theorem ml_L_132_X11_load : q_CL RL 132 M_X11_load := (q_uw 1488 rfl rfl)
theorem ml_L_133_L_set : q_CL RL 133 M_L_set := (q_uw 1081 rfl rfl)
theorem ml_L_135_X11_set : q_CL RL 135 M_X11_set := (q_uw 1497 rfl rfl)
theorem ml_L_136_L_staff : q_CL RL 136 M_L_staff := (q_uw 1091 rfl rfl)
theorem ml_L_138_X11_staff : q_CL RL 138 M_X11_staff := (q_uw 1501 rfl rfl)
theorem ml_L_139_L_run : q_CL RL 139 M_L_run := (q_uw 1100 rfl rfl)
theorem ml_L_141_X11_run : q_CL RL 141 M_X11_run := (q_uw 1510 rfl rfl)
theorem ml_L_142_L_sell : q_CL RL 142 M_L_sell := (q_uw 1109 rfl rfl)
theorem ml_L_144_X11_sell : q_CL RL 144 M_X11_sell := (q_uw 1572 rfl rfl)
theorem ml_L_145_L_clean : q_CL RL 145 M_L_clean := (q_uw 1153 rfl rfl)
theorem ml_L_147_X11_clean : q_CL RL 147 M_X11_clean := (q_uw 1596 rfl rfl)
theorem ml_L_148_X10_undo : q_CL RL 148 M_X10_undo := (q_uw 744 rfl rfl)
theorem ml_L_15_X10_station : q_CL RL 15 M_X10_station := (q_uw 973 rfl rfl)
theorem ml_L_151_X11_undo : q_CL RL 151 M_X11_undo := (q_uw 1282 rfl rfl)
theorem ml_L_152_L_bestBuyer : q_CL RL 152 M_L_bestBuyer := (q_uw 1161 rfl rfl)
theorem ml_L_154_X11_bestBuyer : q_CL RL 154 M_X11_bestBuyer := (q_uw 1600 rfl rfl)
theorem ml_L_155_L_outlook : q_CL RL 155 M_L_outlook := (q_uw 1169 rfl rfl)
theorem ml_L_157_X11_outlook : q_CL RL 157 M_X11_outlook := (q_uw 1604 rfl rfl)
theorem ml_L_158_L_bestStaff : q_CL RL 158 M_L_bestStaff := (q_uw 1182 rfl rfl)
theorem ml_L_160_X11_bestStaff : q_CL RL 160 M_X11_bestStaff := (q_uw 1617 rfl rfl)
theorem ml_L_161_X10_emptied : q_CL RL 161 M_X10_emptied := (q_uw 748 rfl rfl)
theorem ml_L_164_X11_emptied : q_CL RL 164 M_X11_emptied := (q_uw 1622 rfl rfl)
theorem ml_L_21_X10_mass : q_CL RL 21 M_X10_mass := (q_uw 1000 rfl rfl)
theorem ml_L_24_X10_bale : q_CL RL 24 M_X10_bale := (q_uw 1018 rfl rfl)
theorem ml_L_27_X10_buyer : q_CL RL 27 M_X10_buyer := (q_uw 1031 rfl rfl)
theorem ml_L_30_X10_purity : q_CL RL 30 M_X10_purity := (q_uw 1044 rfl rfl)
theorem ml_L_34_X10_load : q_CL RL 34 M_X10_load := (q_uw 1052 rfl rfl)
theorem ml_L_39_X10_set : q_CL RL 39 M_X10_set := (q_uw 1084 rfl rfl)
theorem ml_L_42_X10_staff : q_CL RL 42 M_X10_staff := (q_uw 1094 rfl rfl)
theorem ml_L_45_X10_run : q_CL RL 45 M_X10_run := (q_uw 1103 rfl rfl)
theorem ml_L_48_X10_sell : q_CL RL 48 M_X10_sell := (q_uw 1112 rfl rfl)
theorem ml_L_51_X10_clean : q_CL RL 51 M_X10_clean := (q_uw 1156 rfl rfl)
theorem ml_L_54_X10_bestBuyer : q_CL RL 54 M_X10_bestBuyer := (q_uw 1164 rfl rfl)
theorem ml_L_57_X10_outlook : q_CL RL 57 M_X10_outlook := (q_uw 1172 rfl rfl)
theorem ml_L_60_X10_bestStaff : q_CL RL 60 M_X10_bestStaff := (q_uw 1185 rfl rfl)
theorem ml_L_67_X10_append : q_CL RL 67 M_X10_append := (q_uw 492 rfl rfl)
theorem ml_L_7_X10_setting : q_CL RL 7 M_X10_setting := (q_uw 898 rfl rfl)
theorem ml_L_71_X11_append : q_CL RL 71 M_X11_append := (q_uw 1286 rfl rfl)
theorem ml_L_72_X10_truncate : q_CL RL 72 M_X10_truncate := (q_uw 500 rfl rfl)
theorem ml_L_76_X11_truncate : q_CL RL 76 M_X11_truncate := (q_uw 1294 rfl rfl)
theorem ml_L_77_X10_bufferLength : q_CL RL 77 M_X10_bufferLength := (q_uw 504 rfl rfl)
theorem ml_L_81_X11_bufferLength : q_CL RL 81 M_X11_bufferLength := (q_uw 1301 rfl rfl)
theorem ml_L_82_X10_read : q_CL RL 82 M_X10_read := (q_uw 508 rfl rfl)
theorem ml_L_85_X11_read : q_CL RL 85 M_X11_read := (q_uw 1305 rfl rfl)
theorem ml_L_86_X10_find : q_CL RL 86 M_X10_find := (q_uw 701 rfl rfl)
theorem ml_L_89_X11_find : q_CL RL 89 M_X11_find := (q_uw 1392 rfl rfl)
theorem ml_L_90_X10_line : q_CL RL 90 M_X10_line := (q_uw 707 rfl rfl)
theorem ml_L_93_X11_line : q_CL RL 93 M_X11_line := (q_uw 1397 rfl rfl)
theorem ml_L_94_L_setting : q_CL RL 94 M_L_setting := (q_uw 894 rfl rfl)
theorem ml_L_99_X11_setting : q_CL RL 99 M_X11_setting := (q_uw 1412 rfl rfl)
theorem ml_X0_23_X2_of : q_CL RX0 23 M_X2_of := (q_uw 892 rfl rfl)
theorem ml_X0_36_X2_copyFrom : q_CL RX0 36 M_X2_copyFrom := (q_uw 791 rfl rfl)
theorem ml_X1_31_X1_worthOf : q_CL RX1 31 M_X1_worthOf := (q_uw 1143 rfl rfl)
theorem ml_X1_35_X1_claimsFor : q_CL RX1 35 M_X1_claimsFor := (q_uw 1147 rfl rfl)
theorem ml_X10_123_X4_stationAt : q_CL RX10 123 M_X4_stationAt := (q_uw 977 rfl rfl)
theorem ml_X10_146_X6_capacity : q_CL RX10 146 M_X6_capacity := (q_uw 979 rfl rfl)
theorem ml_X10_167_X6_isSlotEmpty : q_CL RX10 167 M_X6_isSlotEmpty := (q_uw 980 rfl rfl)
theorem ml_X10_185_X4_hasMaterial : q_CL RX10 185 M_X4_hasMaterial := (q_uw 1005 rfl rfl)
theorem ml_X10_191_X4_heapAt : q_CL RX10 191 M_X4_heapAt := (q_uw 1010 rfl rfl)
theorem ml_X10_195_X2_of : q_CL RX10 195 M_X2_of := (q_uw 1014 rfl rfl)
theorem ml_X10_198_X7_baleAt : q_CL RX10 198 M_X7_baleAt := (q_uw 1022 rfl rfl)
theorem ml_X10_221_X4_buyerAt : q_CL RX10 221 M_X4_buyerAt := (q_uw 1035 rfl rfl)
theorem ml_X10_250_X3_totalMass : q_CL RX10 250 M_X3_totalMass := (q_uw 723 rfl rfl)
theorem ml_X10_253_X4_massOnBelt : q_CL RX10 253 M_X4_massOnBelt := (q_uw 727 rfl rfl)
theorem ml_X10_256_X4_massInBunkers : q_CL RX10 256 M_X4_massInBunkers := (q_uw 731 rfl rfl)
theorem ml_X10_259_X7_totalMass : q_CL RX10 259 M_X7_totalMass := (q_uw 735 rfl rfl)
theorem ml_X10_279_X3_isFull : q_CL RX10 279 M_X3_isFull := (q_uw 1057 rfl rfl)
theorem ml_X10_28_X4_addStation : q_CL RX10 28 M_X4_addStation := (q_uw 455 rfl rfl)
theorem ml_X10_287_X10_remember : q_CL RX10 287 M_X10_remember := (q_uw 1074 rfl rfl)
theorem ml_X10_290_X3_addLast : q_CL RX10 290 M_X3_addLast := (q_uw 1079 rfl rfl)
theorem ml_X10_294_X2_put : q_CL RX10 294 M_X2_put := (q_uw 1080 rfl rfl)
theorem ml_X10_308_X6_relieve : q_CL RX10 308 M_X6_relieve := (q_uw 1099 rfl rfl)
theorem ml_X10_315_X4_makeTicks : q_CL RX10 315 M_X4_makeTicks := (q_uw 798 rfl rfl)
theorem ml_X10_320_X1_takes : q_CL RX10 320 M_X1_takes := (q_uw 1117 rfl rfl)
theorem ml_X10_326_X1_sendsBack : q_CL RX10 326 M_X1_sendsBack := (q_uw 1122 rfl rfl)
theorem ml_X10_329_X7_dropBale : q_CL RX10 329 M_X7_dropBale := (q_uw 1126 rfl rfl)
theorem ml_X10_332_X4_takeBack : q_CL RX10 332 M_X4_takeBack := (q_uw 1131 rfl rfl)
theorem ml_X10_336_X4_handOver : q_CL RX10 336 M_X4_handOver := (q_uw 1135 rfl rfl)
theorem ml_X10_340_X2_clear : q_CL RX10 340 M_X2_clear := (q_uw 1160 rfl rfl)
theorem ml_X10_35_X10_appendBytes : q_CL RX10 35 M_X10_appendBytes := (q_uw 496 rfl rfl)
theorem ml_X10_350_X1_payFor : q_CL RX10 350 M_X1_payFor := (q_uw 1168 rfl rfl)
theorem ml_X10_356_X10_copyOfLine : q_CL RX10 356 M_X10_copyOfLine := (q_uw 752 rfl rfl)
theorem ml_X10_356_X10_copyOfLine0 : q_CL RX10 356 M_X10_copyOfLine0 := (q_uw 752 rfl rfl)
theorem ml_X10_365_X4_greatestTiredness : q_CL RX10 365 M_X4_greatestTiredness := (q_uw 1177 rfl rfl)
theorem ml_X10_368_X10_pickedWith : q_CL RX10 368 M_X10_pickedWith := (q_uw 1189 rfl rfl)
theorem ml_X10_368_X10_pickedWith0 : q_CL RX10 368 M_X10_pickedWith0 := (q_uw 1189 rfl rfl)
theorem ml_X10_372_X4_isEmptied : q_CL RX10 372 M_X4_isEmptied := (q_uw 793 rfl rfl)
theorem ml_X10_375_X4_copyFrom : q_CL RX10 375 M_X4_copyFrom := (q_uw 756 rfl rfl)
theorem ml_X10_39_X10_spareLine : q_CL RX10 39 M_X10_spareLine := (q_uw 512 rfl rfl)
theorem ml_X10_39_X10_spareLine0 : q_CL RX10 39 M_X10_spareLine0 := (q_uw 512 rfl rfl)
theorem ml_X10_48_X9_readText : q_CL RX10 48 M_X9_readText := (q_uw 547 rfl rfl)
theorem ml_X10_61_X9_nameCode : q_CL RX10 61 M_X9_nameCode := (q_uw 705 rfl rfl)
theorem ml_X10_65_X4_buyerNamed : q_CL RX10 65 M_X4_buyerNamed := (q_uw 706 rfl rfl)
theorem ml_X10_90_X4_parcelsOnBelt : q_CL RX10 90 M_X4_parcelsOnBelt := (q_uw 711 rfl rfl)
theorem ml_X11_101_J0_length_8abf5 : q_CL RX11 101 M_J0_length_8abf5 := (q_uw 1332 rfl rfl)
theorem ml_X11_107_J0_charAt_5068e : q_CL RX11 107 M_J0_charAt_5068e := (q_uw 1333 rfl rfl)
theorem ml_X11_113_X11_isWord : q_CL RX11 113 M_X11_isWord := (q_uw 1328 rfl rfl)
theorem ml_X11_131_X11_bad : q_CL RX11 131 M_X11_bad := (q_uw 1334 rfl rfl)
theorem ml_X11_134_X11_go : q_CL RX11 134 M_X11_go := (q_uw 1313 rfl rfl)
theorem ml_X11_137_X11_reads : q_CL RX11 137 M_X11_reads := (q_uw 1338 rfl rfl)
theorem ml_X11_141_X11_placeAt : q_CL RX11 141 M_X11_placeAt := (q_uw 1351 rfl rfl)
theorem ml_X11_145_X11_parcelAt : q_CL RX11 145 M_X11_parcelAt := (q_uw 1364 rfl rfl)
theorem ml_X11_148_X11_isName : q_CL RX11 148 M_X11_isName := (q_uw 1375 rfl rfl)
theorem ml_X11_152_X11_letters : q_CL RX11 152 M_X11_letters := (q_uw 1379 rfl rfl)
theorem ml_X11_156_X11_buyerWith : q_CL RX11 156 M_X11_buyerWith := (q_uw 1385 rfl rfl)
theorem ml_X11_162_X11_ends : q_CL RX11 162 M_X11_ends := (q_uw 1342 rfl rfl)
theorem ml_X11_167_X11_readsStation : q_CL RX11 167 M_X11_readsStation := (q_uw 1347 rfl rfl)
theorem ml_X11_170_X11_readsSetting : q_CL RX11 170 M_X11_readsSetting := (q_uw 1355 rfl rfl)
theorem ml_X11_173_X11_readsLoad : q_CL RX11 173 M_X11_readsLoad := (q_uw 1360 rfl rfl)
theorem ml_X11_176_X11_readsBuyer : q_CL RX11 176 M_X11_readsBuyer := (q_uw 1371 rfl rfl)
theorem ml_X11_179_X11_readsAll : q_CL RX11 179 M_X11_readsAll := (q_uw 1309 rfl rfl)
theorem ml_X11_182_X11_stations : q_CL RX11 182 M_X11_stations := (q_uw 1388 rfl rfl)
theorem ml_X11_187_X11_materials : q_CL RX11 187 M_X11_materials := (q_uw 1401 rfl rfl)
theorem ml_X11_189_X11_total : q_CL RX11 189 M_X11_total := (q_uw 1438 rfl rfl)
theorem ml_X11_198_X11_mostOf : q_CL RX11 198 M_X11_mostOf := (q_uw 1546 rfl rfl)
theorem ml_X11_201_X11_targetOf : q_CL RX11 201 M_X11_targetOf := (q_uw 1430 rfl rfl)
theorem ml_X11_204_X11_slotAt : q_CL RX11 204 M_X11_slotAt := (q_uw 1409 rfl rfl)
theorem ml_X11_207_X11_isTarget : q_CL RX11 207 M_X11_isTarget := (q_uw 1523 rfl rfl)
theorem ml_X11_210_X11_waits : q_CL RX11 210 M_X11_waits := (q_uw 1527 rfl rfl)
theorem ml_X11_214_X11_joins : q_CL RX11 214 M_X11_joins := (q_uw 1531 rfl rfl)
theorem ml_X11_217_X11_takes : q_CL RX11 217 M_X11_takes := (q_uw 1539 rfl rfl)
theorem ml_X11_220_X11_lays_ : q_CL RX11 220 M_X11_lays_ := (q_uw 1550 rfl rfl)
theorem ml_X11_222_X11_capacity : q_CL RX11 222 M_X11_capacity := (q_uw 1434 rfl rfl)
theorem ml_X11_227_X11_goes : q_CL RX11 227 M_X11_goes := (q_uw 1559 rfl rfl)
theorem ml_X11_234_X11_storedAt : q_CL RX11 234 M_X11_storedAt := (q_uw 1463 rfl rfl)
theorem ml_X11_237_X11_gradeOf : q_CL RX11 237 M_X11_gradeOf := (q_uw 1568 rfl rfl)
theorem ml_X11_243_X11_leaves : q_CL RX11 243 M_X11_leaves := (q_uw 1519 rfl rfl)
theorem ml_X11_246_X11_moves : q_CL RX11 246 M_X11_moves := (q_uw 1535 rfl rfl)
theorem ml_X11_249_X11_picks : q_CL RX11 249 M_X11_picks := (q_uw 1554 rfl rfl)
theorem ml_X11_252_X11_presses : q_CL RX11 252 M_X11_presses := (q_uw 1564 rfl rfl)
theorem ml_X11_255_X11_onBelt : q_CL RX11 255 M_X11_onBelt := (q_uw 1405 rfl rfl)
theorem ml_X11_260_X11_fails : q_CL RX11 260 M_X11_fails := (q_uw 1417 rfl rfl)
theorem ml_X11_264_X11_isStation : q_CL RX11 264 M_X11_isStation := (q_uw 1425 rfl rfl)
theorem ml_X11_269_X11_hasParcel : q_CL RX11 269 M_X11_hasParcel := (q_uw 1442 rfl rfl)
theorem ml_X11_274_X11_isMaterial : q_CL RX11 274 M_X11_isMaterial := (q_uw 1451 rfl rfl)
theorem ml_X11_277_X11_isBale : q_CL RX11 277 M_X11_isBale := (q_uw 1459 rfl rfl)
theorem ml_X11_280_X11_isBuyer : q_CL RX11 280 M_X11_isBuyer := (q_uw 1470 rfl rfl)
theorem ml_X11_289_X11_remembers : q_CL RX11 289 M_X11_remembers := (q_uw 1493 rfl rfl)
theorem ml_X11_294_X11_staffs : q_CL RX11 294 M_X11_staffs := (q_uw 1506 rfl rfl)
theorem ml_X11_299_X11_ticks : q_CL RX11 299 M_X11_ticks := (q_uw 1515 rfl rfl)
theorem ml_X11_302_X11_ofBuyer : q_CL RX11 302 M_X11_ofBuyer := (q_uw 1580 rfl rfl)
theorem ml_X11_305_X11_impurity : q_CL RX11 305 M_X11_impurity := (q_uw 1588 rfl rfl)
theorem ml_X11_308_X11_takesBale : q_CL RX11 308 M_X11_takesBale := (q_uw 1576 rfl rfl)
theorem ml_X11_312_X11_sendsBack : q_CL RX11 312 M_X11_sendsBack := (q_uw 1584 rfl rfl)
theorem ml_X11_315_X11_pays : q_CL RX11 315 M_X11_pays := (q_uw 1592 rfl rfl)
theorem ml_X11_320_X11_goesAside : q_CL RX11 320 M_X11_goesAside := (q_uw 1609 rfl rfl)
theorem ml_X11_323_X11_comesBack : q_CL RX11 323 M_X11_comesBack := (q_uw 1613 rfl rfl)
theorem ml_X11_328_X11_isEmpty : q_CL RX11 328 M_X11_isEmpty := (q_uw 1626 rfl rfl)
theorem ml_X11_51_X11_lays : q_CL RX11 51 M_X11_lays := (q_uw 1203 rfl rfl)
theorem ml_X11_54_X11_becomes : q_CL RX11 54 M_X11_becomes := (q_uw 1207 rfl rfl)
theorem ml_X11_60_X11_totalOf : q_CL RX11 60 M_X11_totalOf := (q_uw 1367 rfl rfl)
theorem ml_X11_67_X11_adds : q_CL RX11 67 M_X11_adds := (q_uw 1290 rfl rfl)
theorem ml_X11_71_X11_isIn : q_CL RX11 71 M_X11_isIn := (q_uw 1298 rfl rfl)
theorem ml_X11_81_X11_byteAt : q_CL RX11 81 M_X11_byteAt := (q_uw 1317 rfl rfl)
theorem ml_X11_91_X11_isSmall : q_CL RX11 91 M_X11_isSmall := (q_uw 1321 rfl rfl)
theorem ml_X11_95_X11_isDigit : q_CL RX11 95 M_X11_isDigit := (q_uw 1324 rfl rfl)
theorem ml_X2_19_J7_fill_53178 : q_CL RX2 19 M_J7_fill_53178 := (q_uw 467 rfl rfl)
theorem ml_X2_31_X2_putAll : q_CL RX2 31 M_X2_putAll := (q_uw 844 rfl rfl)
theorem ml_X2_35_X2_clear : q_CL RX2 35 M_X2_clear := (q_uw 845 rfl rfl)
theorem ml_X2_38_X2_move : q_CL RX2 38 M_X2_move := (q_uw 846 rfl rfl)
theorem ml_X2_42_X2_mostBut : q_CL RX2 42 M_X2_mostBut := (q_uw 850 rfl rfl)
theorem ml_X3_25_X3_isFull : q_CL RX3 25 M_X3_isFull := (q_uw 668 rfl rfl)
theorem ml_X3_33_X2_clear : q_CL RX3 33 M_X2_clear := (q_uw 672 rfl rfl)
theorem ml_X3_44_X5_copyFrom : q_CL RX3 44 M_X5_copyFrom := (q_uw 782 rfl rfl)
theorem ml_X4_104_X6_isSlotEmpty : q_CL RX4 104 M_X6_isSlotEmpty := (q_uw 715 rfl rfl)
theorem ml_X4_123_X4_parcelsOnBelt : q_CL RX4 123 M_X4_parcelsOnBelt := (q_uw 797 rfl rfl)
theorem ml_X4_136_X6_relieve : q_CL RX4 136 M_X6_relieve := (q_uw 459 rfl rfl)
theorem ml_X4_146_X2_clear : q_CL RX4 146 M_X2_clear := (q_uw 463 rfl rfl)
theorem ml_X4_149_X4_leaveBelt : q_CL RX4 149 M_X4_leaveBelt := (q_uw 802 rfl rfl)
theorem ml_X4_152_X4_moveBelt : q_CL RX4 152 M_X4_moveBelt := (q_uw 828 rfl rfl)
theorem ml_X4_155_X4_feedBelt : q_CL RX4 155 M_X4_feedBelt := (q_uw 832 rfl rfl)
theorem ml_X4_158_X6_pick : q_CL RX4 158 M_X6_pick := (q_uw 858 rfl rfl)
theorem ml_X4_161_X4_pressBales : q_CL RX4 161 M_X4_pressBales := (q_uw 875 rfl rfl)
theorem ml_X4_168_X4_goesRound : q_CL RX4 168 M_X4_goesRound := (q_uw 810 rfl rfl)
theorem ml_X4_175_X3_addLast : q_CL RX4 175 M_X3_addLast := (q_uw 823 rfl rfl)
theorem ml_X4_178_X2_putAll : q_CL RX4 178 M_X2_putAll := (q_uw 824 rfl rfl)
theorem ml_X4_185_X3_isFull : q_CL RX4 185 M_X3_isFull := (q_uw 814 rfl rfl)
theorem ml_X4_188_X4_isTarget : q_CL RX4 188 M_X4_isTarget := (q_uw 815 rfl rfl)
theorem ml_X4_192_X2_of : q_CL RX4 192 M_X2_of := (q_uw 819 rfl rfl)
theorem ml_X4_196_X2_movePortion : q_CL RX4 196 M_X2_movePortion := (q_uw 840 rfl rfl)
theorem ml_X4_200_X3_dropFirst : q_CL RX4 200 M_X3_dropFirst := (q_uw 854 rfl rfl)
theorem ml_X4_204_X4_pressBale : q_CL RX4 204 M_X4_pressBale := (q_uw 879 rfl rfl)
theorem ml_X4_207_X7_addLast : q_CL RX4 207 M_X7_addLast := (q_uw 883 rfl rfl)
theorem ml_X4_220_X0_judge : q_CL RX4 220 M_X0_judge := (q_uw 888 rfl rfl)
theorem ml_X4_230_X2_put : q_CL RX4 230 M_X2_put := (q_uw 893 rfl rfl)
theorem ml_X4_236_X1_payFor : q_CL RX4 236 M_X1_payFor := (q_uw 1139 rfl rfl)
theorem ml_X4_249_X1_claimsFor : q_CL RX4 249 M_X1_claimsFor := (q_uw 1152 rfl rfl)
theorem ml_X4_262_X8_copyFrom : q_CL RX4 262 M_X8_copyFrom := (q_uw 558 rfl rfl)
theorem ml_X4_266_X6_copyFrom : q_CL RX4 266 M_X6_copyFrom := (q_uw 760 rfl rfl)
theorem ml_X4_268_X1_copyFrom : q_CL RX4 268 M_X1_copyFrom := (q_uw 774 rfl rfl)
theorem ml_X4_271_X3_copyFrom : q_CL RX4 271 M_X3_copyFrom := (q_uw 778 rfl rfl)
theorem ml_X4_274_X7_copyFrom : q_CL RX4 274 M_X7_copyFrom := (q_uw 783 rfl rfl)
theorem ml_X4_277_X2_copyFrom : q_CL RX4 277 M_X2_copyFrom := (q_uw 792 rfl rfl)
theorem ml_X4_84_X3_parcelAt : q_CL RX4 84 M_X3_parcelAt := (q_uw 836 rfl rfl)
theorem ml_X4_93_X4_stationAt : q_CL RX4 93 M_X4_stationAt := (q_uw 806 rfl rfl)
theorem ml_X5_16_X2_copyFrom : q_CL RX5 16 M_X2_copyFrom := (q_uw 768 rfl rfl)
theorem ml_X6_44_X2_of : q_CL RX6 44 M_X2_of := (q_uw 862 rfl rfl)
theorem ml_X6_48_X6_capacity : q_CL RX6 48 M_X6_capacity := (q_uw 863 rfl rfl)
theorem ml_X6_61_X2_move : q_CL RX6 61 M_X2_move := (q_uw 873 rfl rfl)
theorem ml_X6_65_X2_mostBut : q_CL RX6 65 M_X2_mostBut := (q_uw 874 rfl rfl)
theorem ml_X6_77_X5_copyFrom : q_CL RX6 77 M_X5_copyFrom := (q_uw 764 rfl rfl)
theorem ml_X6_81_X2_copyFrom : q_CL RX6 81 M_X2_copyFrom := (q_uw 773 rfl rfl)
theorem ml_X7_26_X2_clear : q_CL RX7 26 M_X2_clear := (q_uw 887 rfl rfl)
theorem ml_X7_31_X7_baleAt : q_CL RX7 31 M_X7_baleAt := (q_uw 1130 rfl rfl)
theorem ml_X7_38_X0_copyFrom : q_CL RX7 38 M_X0_copyFrom := (q_uw 787 rfl rfl)
theorem ml_X9_104_X3_addLast : q_CL RX9 104 M_X3_addLast := (q_uw 664 rfl rfl)
theorem ml_X9_116_X2_put : q_CL RX9 116 M_X2_put := (q_uw 673 rfl rfl)
theorem ml_X9_134_X3_dropLast : q_CL RX9 134 M_X3_dropLast := (q_uw 677 rfl rfl)
theorem ml_X9_144_X9_readName : q_CL RX9 144 M_X9_readName := (q_uw 686 rfl rfl)
theorem ml_X9_171_X9_isKeyword : q_CL RX9 171 M_X9_isKeyword := (q_uw 690 rfl rfl)
theorem ml_X9_181_X9_nameCode : q_CL RX9 181 M_X9_nameCode := (q_uw 694 rfl rfl)
theorem ml_X9_185_X4_buyerNamed : q_CL RX9 185 M_X4_buyerNamed := (q_uw 697 rfl rfl)
theorem ml_X9_192_J0_length_8abf5 : q_CL RX9 192 M_J0_length_8abf5 := (q_uw 580 rfl rfl)
theorem ml_X9_196_J0_charAt_5068e : q_CL RX9 196 M_J0_charAt_5068e := (q_uw 590 rfl rfl)
theorem ml_X9_200_X9_isBlank : q_CL RX9 200 M_X9_isBlank := (q_uw 566 rfl rfl)
theorem ml_X9_203_X9_isDigit : q_CL RX9 203 M_X9_isDigit := (q_uw 572 rfl rfl)
theorem ml_X9_23_X9_isLetter : q_CL RX9 23 M_X9_isLetter := (q_uw 569 rfl rfl)
theorem ml_X9_27_X4_reset : q_CL RX9 27 M_X4_reset := (q_uw 551 rfl rfl)
theorem ml_X9_32_X9_nextToken : q_CL RX9 32 M_X9_nextToken := (q_uw 562 rfl rfl)
theorem ml_X9_37_X9_isWord : q_CL RX9 37 M_X9_isWord := (q_uw 576 rfl rfl)
theorem ml_X9_41_X9_readNumber : q_CL RX9 41 M_X9_readNumber := (q_uw 628 rfl rfl)
theorem ml_X9_47_X9_readSemicolon : q_CL RX9 47 M_X9_readSemicolon := (q_uw 636 rfl rfl)
theorem ml_X9_50_X9_fail : q_CL RX9 50 M_X9_fail := (q_uw 632 rfl rfl)
theorem ml_X9_60_X9_readStatement : q_CL RX9 60 M_X9_readStatement := (q_uw 640 rfl rfl)
theorem ml_X9_68_X9_readStation : q_CL RX9 68 M_X9_readStation := (q_uw 645 rfl rfl)
theorem ml_X9_73_X9_readSetting : q_CL RX9 73 M_X9_readSetting := (q_uw 651 rfl rfl)
theorem ml_X9_78_X9_readLoad : q_CL RX9 78 M_X9_readLoad := (q_uw 660 rfl rfl)
theorem ml_X9_83_X9_readBuyer : q_CL RX9 83 M_X9_readBuyer := (q_uw 682 rfl rfl)
theorem ml_X9_86_X4_addStation : q_CL RX9 86 M_X4_addStation := (q_uw 649 rfl rfl)
theorem mm_X1_42_i : Cond.methodLink RX1 42 Lib.Math.min.name ∈ q_UW ∧ Cond.static Lib.Math.min.name ∈ q_UW ∧ Cond.initialized "java/lang/Math" ∈ q_UW ∧ Cond.code Lib.Math.min.name Lib.Math.min.code 2 (some .int) ∈ q_UW := ⟨(q_uw 1151 rfl rfl), (q_uw 868 rfl rfl), (q_uw 102 rfl rfl), (q_uw 869 rfl rfl)⟩
theorem mm_X10_379_i : Cond.methodLink RX10 379 Lib.Math.min.name ∈ q_UW ∧ Cond.static Lib.Math.min.name ∈ q_UW ∧ Cond.initialized "java/lang/Math" ∈ q_UW ∧ Cond.code Lib.Math.min.name Lib.Math.min.code 2 (some .int) ∈ q_UW := ⟨(q_uw 1078 rfl rfl), (q_uw 868 rfl rfl), (q_uw 102 rfl rfl), (q_uw 869 rfl rfl)⟩
theorem mm_X11_192_l : Cond.methodLink RX11 192 Lib.MathLoose.min_long.x ∈ q_UW ∧ Cond.static Lib.MathLoose.min_long.x ∈ q_UW ∧ Cond.initialized "java/lang/Math" ∈ q_UW ∧ Cond.code Lib.MathLoose.min_long.x Lib.MathLoose.min_long.code 4 (some .long) ∈ q_UW := ⟨(q_uw 1543 rfl rfl), (q_uw 1544 rfl rfl), (q_uw 102 rfl rfl), (q_uw 1545 rfl rfl)⟩
theorem mm_X11_225_i : Cond.methodLink RX11 225 Lib.Math.min.name ∈ q_UW ∧ Cond.static Lib.Math.min.name ∈ q_UW ∧ Cond.initialized "java/lang/Math" ∈ q_UW ∧ Cond.code Lib.Math.min.name Lib.Math.min.code 2 (some .int) ∈ q_UW := ⟨(q_uw 1558 rfl rfl), (q_uw 868 rfl rfl), (q_uw 102 rfl rfl), (q_uw 869 rfl rfl)⟩
theorem mm_X11_231_a : Cond.methodLink RX11 231 Lib.Math.max.name ∈ q_UW ∧ Cond.static Lib.Math.max.name ∈ q_UW ∧ Cond.initialized "java/lang/Math" ∈ q_UW ∧ Cond.code Lib.Math.max.name Lib.Math.max.code 2 (some .int) ∈ q_UW := ⟨(q_uw 1563 rfl rfl), (q_uw 871 rfl rfl), (q_uw 102 rfl rfl), (q_uw 872 rfl rfl)⟩
theorem mm_X4_114_a : Cond.methodLink RX4 114 Lib.Math.max.name ∈ q_UW ∧ Cond.static Lib.Math.max.name ∈ q_UW ∧ Cond.initialized "java/lang/Math" ∈ q_UW ∧ Cond.code Lib.Math.max.name Lib.Math.max.code 2 (some .int) ∈ q_UW := ⟨(q_uw 1181 rfl rfl), (q_uw 871 rfl rfl), (q_uw 102 rfl rfl), (q_uw 872 rfl rfl)⟩
theorem mm_X6_52_i : Cond.methodLink RX6 52 Lib.Math.min.name ∈ q_UW ∧ Cond.static Lib.Math.min.name ∈ q_UW ∧ Cond.initialized "java/lang/Math" ∈ q_UW ∧ Cond.code Lib.Math.min.name Lib.Math.min.code 2 (some .int) ∈ q_UW := ⟨(q_uw 867 rfl rfl), (q_uw 868 rfl rfl), (q_uw 102 rfl rfl), (q_uw 869 rfl rfl)⟩
theorem mm_X6_58_a : Cond.methodLink RX6 58 Lib.Math.max.name ∈ q_UW ∧ Cond.static Lib.Math.max.name ∈ q_UW ∧ Cond.initialized "java/lang/Math" ∈ q_UW ∧ Cond.code Lib.Math.max.name Lib.Math.max.code 2 (some .int) ∈ q_UW := ⟨(q_uw 870 rfl rfl), (q_uw 871 rfl rfl), (q_uw 102 rfl rfl), (q_uw 872 rfl rfl)⟩
theorem ms_J0_checkIndex_df160 : Cond.static M_J0_checkIndex_df160.1 ∈ q_UW := (q_uw 602 rfl rfl)
theorem ms_J1_charAt_3b067 : Cond.static M_J1_charAt_3b067.1 ∈ q_UW := (q_uw 599 rfl rfl)
theorem ms_J3_checkIndex_8e157 : Cond.static M_J3_checkIndex_8e157.1 ∈ q_UW := (q_uw 607 rfl rfl)
theorem ms_J7_fill_53178 : Cond.static M_J7_fill_53178.1 ∈ q_UW := (q_uw 468 rfl rfl)
theorem ms_L_bale : Cond.static M_L_bale.1 ∈ q_UW := (q_uw 1016 rfl rfl)
theorem ms_L_bestBuyer : Cond.static M_L_bestBuyer.1 ∈ q_UW := (q_uw 1162 rfl rfl)
theorem ms_L_bestStaff : Cond.static M_L_bestStaff.1 ∈ q_UW := (q_uw 1183 rfl rfl)
theorem ms_L_buyer : Cond.static M_L_buyer.1 ∈ q_UW := (q_uw 1029 rfl rfl)
theorem ms_L_clean : Cond.static M_L_clean.1 ∈ q_UW := (q_uw 1154 rfl rfl)
theorem ms_L_load : Cond.static M_L_load.1 ∈ q_UW := (q_uw 1049 rfl rfl)
theorem ms_L_mass : Cond.static M_L_mass.1 ∈ q_UW := (q_uw 998 rfl rfl)
theorem ms_L_outlook : Cond.static M_L_outlook.1 ∈ q_UW := (q_uw 1170 rfl rfl)
theorem ms_L_purity : Cond.static M_L_purity.1 ∈ q_UW := (q_uw 1042 rfl rfl)
theorem ms_L_run : Cond.static M_L_run.1 ∈ q_UW := (q_uw 1101 rfl rfl)
theorem ms_L_sell : Cond.static M_L_sell.1 ∈ q_UW := (q_uw 1110 rfl rfl)
theorem ms_L_set : Cond.static M_L_set.1 ∈ q_UW := (q_uw 1082 rfl rfl)
theorem ms_L_setting : Cond.static M_L_setting.1 ∈ q_UW := (q_uw 895 rfl rfl)
theorem ms_L_staff : Cond.static M_L_staff.1 ∈ q_UW := (q_uw 1092 rfl rfl)
theorem ms_L_station : Cond.static M_L_station.1 ∈ q_UW := (q_uw 970 rfl rfl)
theorem ms_X11_buyerWith : Cond.static M_X11_buyerWith.1 ∈ q_UW := (q_uw 1386 rfl rfl)
theorem ms_X11_isDigit : Cond.static M_X11_isDigit.1 ∈ q_UW := (q_uw 1325 rfl rfl)
theorem ms_X11_isIn : Cond.static M_X11_isIn.1 ∈ q_UW := (q_uw 1299 rfl rfl)
theorem ms_X11_isSmall : Cond.static M_X11_isSmall.1 ∈ q_UW := (q_uw 1322 rfl rfl)
theorem ms_X11_parcelAt : Cond.static M_X11_parcelAt.1 ∈ q_UW := (q_uw 1365 rfl rfl)
theorem ms_X11_placeAt : Cond.static M_X11_placeAt.1 ∈ q_UW := (q_uw 1352 rfl rfl)
theorem ms_X11_slotAt : Cond.static M_X11_slotAt.1 ∈ q_UW := (q_uw 1410 rfl rfl)
theorem ms_X11_storedAt : Cond.static M_X11_storedAt.1 ∈ q_UW := (q_uw 1464 rfl rfl)
theorem ms_X11_totalOf : Cond.static M_X11_totalOf.1 ∈ q_UW := (q_uw 1368 rfl rfl)
theorem ms_X9_isBlank : Cond.static M_X9_isBlank.1 ∈ q_UW := (q_uw 567 rfl rfl)
theorem ms_X9_isDigit : Cond.static M_X9_isDigit.1 ∈ q_UW := (q_uw 573 rfl rfl)
theorem ms_X9_isLetter : Cond.static M_X9_isLetter.1 ∈ q_UW := (q_uw 570 rfl rfl)
theorem ms_X9_nameCode : Cond.static M_X9_nameCode.1 ∈ q_UW := (q_uw 695 rfl rfl)
theorem nw_0 : Cond.instantiable RX0 5 ∈ q_UW ∧ Cond.initialized RX0 ∈ q_UW := ⟨(q_uw 200 rfl rfl), (q_uw 84 rfl rfl)⟩
theorem nw_1 : Cond.instantiable RX1 7 ∈ q_UW ∧ Cond.initialized RX1 ∈ q_UW := ⟨(q_uw 357 rfl rfl), (q_uw 87 rfl rfl)⟩
theorem nw_10 : Cond.instantiable RX10 7 ∈ q_UW ∧ Cond.initialized RX10 ∈ q_UW := ⟨(q_uw 104 rfl rfl), (q_uw 78 rfl rfl)⟩
theorem nw_11 : Cond.instantiable RX11 23 ∈ q_UW ∧ Cond.initialized RX11 ∈ q_UW := ⟨(q_uw 1198 rfl rfl), (q_uw 89 rfl rfl)⟩
theorem nw_2 : Cond.instantiable RX2 2 ∈ q_UW ∧ Cond.initialized RX2 ∈ q_UW := ⟨(q_uw 144 rfl rfl), (q_uw 82 rfl rfl)⟩
theorem nw_3 : Cond.instantiable RX3 3 ∈ q_UW ∧ Cond.initialized RX3 ∈ q_UW := ⟨(q_uw 131 rfl rfl), (q_uw 80 rfl rfl)⟩
theorem nw_4 : Cond.instantiable RX4 12 ∈ q_UW ∧ Cond.initialized RX4 ∈ q_UW := ⟨(q_uw 112 rfl rfl), (q_uw 79 rfl rfl)⟩
theorem nw_5 : Cond.instantiable RX5 2 ∈ q_UW ∧ Cond.initialized RX5 ∈ q_UW := ⟨(q_uw 138 rfl rfl), (q_uw 81 rfl rfl)⟩
theorem nw_6 : Cond.instantiable RX6 9 ∈ q_UW ∧ Cond.initialized RX6 ∈ q_UW := ⟨(q_uw 303 rfl rfl), (q_uw 86 rfl rfl)⟩
theorem nw_7 : Cond.instantiable RX7 2 ∈ q_UW ∧ Cond.initialized RX7 ∈ q_UW := ⟨(q_uw 193 rfl rfl), (q_uw 83 rfl rfl)⟩
theorem nw_8 : Cond.instantiable RX8 10 ∈ q_UW ∧ Cond.initialized RX8 ∈ q_UW := ⟨(q_uw 248 rfl rfl), (q_uw 85 rfl rfl)⟩
theorem nw_9 : Cond.instantiable RX9 8 ∈ q_UW ∧ Cond.initialized RX9 ∈ q_UW := ⟨(q_uw 517 rfl rfl), (q_uw 90 rfl rfl)⟩
theorem ob_X0_1 : Cond.methodLink RX0 1 Lib.objectInit ∈ q_UW ∧ Cond.instanceMethod Lib.objectInit ∈ q_UW ∧ Cond.code Lib.objectInit ⟨#[0xb1]⟩ 1 none ∈ q_UW := ⟨(q_uw 204 rfl rfl), (q_uw 109 rfl rfl), (q_uw 110 rfl rfl)⟩
theorem ob_X1_1 : Cond.methodLink RX1 1 Lib.objectInit ∈ q_UW ∧ Cond.instanceMethod Lib.objectInit ∈ q_UW ∧ Cond.code Lib.objectInit ⟨#[0xb1]⟩ 1 none ∈ q_UW := ⟨(q_uw 361 rfl rfl), (q_uw 109 rfl rfl), (q_uw 110 rfl rfl)⟩
theorem ob_X10_1 : Cond.methodLink RX10 1 Lib.objectInit ∈ q_UW ∧ Cond.instanceMethod Lib.objectInit ∈ q_UW ∧ Cond.code Lib.objectInit ⟨#[0xb1]⟩ 1 none ∈ q_UW := ⟨(q_uw 108 rfl rfl), (q_uw 109 rfl rfl), (q_uw 110 rfl rfl)⟩
theorem ob_X11_7 : Cond.methodLink RX11 7 Lib.objectInit ∈ q_UW ∧ Cond.instanceMethod Lib.objectInit ∈ q_UW ∧ Cond.code Lib.objectInit ⟨#[0xb1]⟩ 1 none ∈ q_UW := ⟨(q_uw 1202 rfl rfl), (q_uw 109 rfl rfl), (q_uw 110 rfl rfl)⟩
theorem ob_X2_3 : Cond.methodLink RX2 3 Lib.objectInit ∈ q_UW ∧ Cond.instanceMethod Lib.objectInit ∈ q_UW ∧ Cond.code Lib.objectInit ⟨#[0xb1]⟩ 1 none ∈ q_UW := ⟨(q_uw 148 rfl rfl), (q_uw 109 rfl rfl), (q_uw 110 rfl rfl)⟩
theorem ob_X3_3 : Cond.methodLink RX3 3 Lib.objectInit ∈ q_UW ∧ Cond.instanceMethod Lib.objectInit ∈ q_UW ∧ Cond.code Lib.objectInit ⟨#[0xb1]⟩ 1 none ∈ q_UW := ⟨(q_uw 135 rfl rfl), (q_uw 109 rfl rfl), (q_uw 110 rfl rfl)⟩
theorem ob_X4_3 : Cond.methodLink RX4 3 Lib.objectInit ∈ q_UW ∧ Cond.instanceMethod Lib.objectInit ∈ q_UW ∧ Cond.code Lib.objectInit ⟨#[0xb1]⟩ 1 none ∈ q_UW := ⟨(q_uw 116 rfl rfl), (q_uw 109 rfl rfl), (q_uw 110 rfl rfl)⟩
theorem ob_X5_1 : Cond.methodLink RX5 1 Lib.objectInit ∈ q_UW ∧ Cond.instanceMethod Lib.objectInit ∈ q_UW ∧ Cond.code Lib.objectInit ⟨#[0xb1]⟩ 1 none ∈ q_UW := ⟨(q_uw 142 rfl rfl), (q_uw 109 rfl rfl), (q_uw 110 rfl rfl)⟩
theorem ob_X6_3 : Cond.methodLink RX6 3 Lib.objectInit ∈ q_UW ∧ Cond.instanceMethod Lib.objectInit ∈ q_UW ∧ Cond.code Lib.objectInit ⟨#[0xb1]⟩ 1 none ∈ q_UW := ⟨(q_uw 307 rfl rfl), (q_uw 109 rfl rfl), (q_uw 110 rfl rfl)⟩
theorem ob_X7_3 : Cond.methodLink RX7 3 Lib.objectInit ∈ q_UW ∧ Cond.instanceMethod Lib.objectInit ∈ q_UW ∧ Cond.code Lib.objectInit ⟨#[0xb1]⟩ 1 none ∈ q_UW := ⟨(q_uw 197 rfl rfl), (q_uw 109 rfl rfl), (q_uw 110 rfl rfl)⟩
theorem ob_X8_1 : Cond.methodLink RX8 1 Lib.objectInit ∈ q_UW ∧ Cond.instanceMethod Lib.objectInit ∈ q_UW ∧ Cond.code Lib.objectInit ⟨#[0xb1]⟩ 1 none ∈ q_UW := ⟨(q_uw 252 rfl rfl), (q_uw 109 rfl rfl), (q_uw 110 rfl rfl)⟩
theorem ob_X9_3 : Cond.methodLink RX9 3 Lib.objectInit ∈ q_UW ∧ Cond.instanceMethod Lib.objectInit ∈ q_UW ∧ Cond.code Lib.objectInit ⟨#[0xb1]⟩ 1 none ∈ q_UW := ⟨(q_uw 521 rfl rfl), (q_uw 109 rfl rfl), (q_uw 110 rfl rfl)⟩
theorem sw_L_law_45 : decode (q_cc M_L_law) 45 = .ok (.tableswitch 1353 0 24 #[115, 188, 213, 226, 239, 252, 277, 333, 401, 469, 537, 605, 631, 708, 751, 819, 887, 955, 1011, 1079, 1135, 1148, 1204, 1272, 1340], 115) := by decide +kernel
theorem sw_X10_balance_1 : decode (q_cc M_X10_balance) 1 = .ok (.tableswitch 137 0 7 #[47, 59, 71, 80, 89, 101, 113, 125], 47) := by decide +kernel
theorem sw_X10_bale_27 : decode (q_cc M_X10_bale) 27 = .ok (.tableswitch 61 0 4 #[33, 38, 43, 51, 56], 33) := by decide +kernel
theorem sw_X10_buyer_24 : decode (q_cc M_X10_buyer) 24 = .ok (.tableswitch 70 0 5 #[40, 45, 50, 55, 60, 65], 40) := by decide +kernel
theorem sw_X10_line_1 : decode (q_cc M_X10_line) 1 = .ok (.tableswitch 168 0 10 #[59, 67, 75, 83, 94, 105, 113, 124, 135, 146, 157], 59) := by decide +kernel
theorem sw_X10_outlook_43 : decode (q_cc M_X10_outlook) 43 = .ok (.tableswitch 105 0 3 #[29, 48, 67, 86], 29) := by decide +kernel
theorem sw_X10_station_24 : decode (q_cc M_X10_station) 24 = .ok (.tableswitch 138 0 10 #[60, 65, 70, 75, 80, 85, 90, 98, 109, 128, 133], 60) := by decide +kernel
theorem sw_X11_balance_8 : decode (q_cc M_X11_balance) 8 = .ok (.tableswitch 236 0 7 #[48, 57, 93, 139, 173, 210, 219, 227], 48) := by decide +kernel
theorem sw_X11_bale_51 : decode (q_cc M_X11_bale) 51 = .ok (.tableswitch 87 0 4 #[33, 44, 55, 65, 76], 33) := by decide +kernel
theorem sw_X11_line_6 : decode (q_cc M_X11_line) 6 = .ok (.tableswitch 136 0 10 #[58, 63, 68, 75, 83, 91, 96, 104, 112, 120, 128], 58) := by decide +kernel
theorem sw_X11_station_47 : decode (q_cc M_X11_station) 47 = .ok (.tableswitch 168 0 9 #[53, 59, 70, 83, 96, 107, 113, 123, 144, 157], 53) := by decide +kernel
theorem sw_X1_worthOf_1 : decode (q_cc M_X1_worthOf) 1 = .ok (.lookupswitch 43 #[(0, 27), (1, 32)], 27) := by decide +kernel
theorem th_X10_112_116_B : Bundle.fit "java/lang/IndexOutOfBoundsException" = true ∧ Cond.classLink RX10 112 "java/lang/IndexOutOfBoundsException" ∈ q_UW ∧ Cond.initialized "java/lang/IndexOutOfBoundsException" ∈ q_UW ∧ (∀ w ∈ (vx_atS RX10 116 "java/lang/IndexOutOfBoundsException" ["java/lang/RuntimeException", "java/lang/Exception"]).filter goodWord, w ∈ q_UW) ∧ (∀ w ∈ (vx_atS RX10 116 "java/lang/IndexOutOfBoundsException" ["java/lang/RuntimeException", "java/lang/Exception"]).filter (fun w => !goodWord w), w ∈ q_NW) ∧ (∀ w ∈ Cond.classLink RX10 112 "java/lang/IndexOutOfBoundsException" :: Cond.initialized "java/lang/IndexOutOfBoundsException" :: (vx_atS RX10 116 "java/lang/IndexOutOfBoundsException" ["java/lang/RuntimeException", "java/lang/Exception"]), vx_ot w = true) := ⟨by decide +kernel, (q_uw 902 rfl rfl), (q_uw 99 rfl rfl), q_inU (by decide +kernel), q_inN (by decide +kernel), by decide +kernel⟩
theorem th_X10_178_182_A : Bundle.fit "java/lang/IllegalArgumentException" = true ∧ Cond.classLink RX10 178 "java/lang/IllegalArgumentException" ∈ q_UW ∧ Cond.initialized "java/lang/IllegalArgumentException" ∈ q_UW ∧ (∀ w ∈ (vx_atS RX10 182 "java/lang/IllegalArgumentException" ["java/lang/RuntimeException", "java/lang/Exception"]).filter goodWord, w ∈ q_UW) ∧ (∀ w ∈ (vx_atS RX10 182 "java/lang/IllegalArgumentException" ["java/lang/RuntimeException", "java/lang/Exception"]).filter (fun w => !goodWord w), w ∈ q_NW) ∧ (∀ w ∈ Cond.classLink RX10 178 "java/lang/IllegalArgumentException" :: Cond.initialized "java/lang/IllegalArgumentException" :: (vx_atS RX10 182 "java/lang/IllegalArgumentException" ["java/lang/RuntimeException", "java/lang/Exception"]), vx_ot w = true) := ⟨by decide +kernel, (q_uw 981 rfl rfl), (q_uw 100 rfl rfl), q_inU (by decide +kernel), q_inN (by decide +kernel), by decide +kernel⟩
theorem th_X10_282_286_S : Bundle.fit "java/lang/IllegalStateException" = true ∧ Cond.classLink RX10 282 "java/lang/IllegalStateException" ∈ q_UW ∧ Cond.initialized "java/lang/IllegalStateException" ∈ q_UW ∧ (∀ w ∈ (vx_atS RX10 286 "java/lang/IllegalStateException" ["java/lang/RuntimeException", "java/lang/Exception"]).filter goodWord, w ∈ q_UW) ∧ (∀ w ∈ (vx_atS RX10 286 "java/lang/IllegalStateException" ["java/lang/RuntimeException", "java/lang/Exception"]).filter (fun w => !goodWord w), w ∈ q_NW) ∧ (∀ w ∈ Cond.classLink RX10 282 "java/lang/IllegalStateException" :: Cond.initialized "java/lang/IllegalStateException" :: (vx_atS RX10 286 "java/lang/IllegalStateException" ["java/lang/RuntimeException", "java/lang/Exception"]), vx_ot w = true) := ⟨by decide +kernel, (q_uw 1058 rfl rfl), (q_uw 101 rfl rfl), q_inU (by decide +kernel), q_inN (by decide +kernel), by decide +kernel⟩
theorem jl_J0_9 : Cond.fieldLink RJ0 9 "java/lang/String" "value" "[B" ∈ q_UW := (q_uw 1632 rfl rfl)
theorem jl_J0_38 : Cond.fieldLink RJ0 38 "java/lang/String" "COMPACT_STRINGS" "Z" ∈ q_UW := (q_uw 588 rfl rfl)
theorem jl_J0_15 : Cond.fieldLink RJ0 15 "java/lang/String" "coder" "B" ∈ q_UW := (q_uw 1633 rfl rfl)
theorem jl_J0_1053 : Cond.fieldLink RJ0 1053 "jdk/internal/util/Preconditions" "SIOOBE_FORMATTER" "Ljava/util/function/BiFunction;" ∈ q_UW := (q_uw 604 rfl rfl)
end
section
/-! CONDITIONS: Heap -/
theorem f_J7_fill_53178_0 {G : q_G} {X : String → q_H → Prop} {f : q_H → Prop} {A : q_H} {a0 : Nat} {x1 : Int32} (h : ∃ z2 : Nat, q_sh A a0 = (50, z2) ∧ z2 < 2147483648 ∧ q_Wp G M_J7_fill_53178 (q_KV f) X 0 0 5 [some (.ref a0), some (.int x1), some (.int (nI 0)), some (.int (nI z2))] [] A) : q_Wc G M_J7_fill_53178 [.ref a0, .int x1] A (q_KV f) X := by
  refine q_Wc.of [some (.ref a0), some (.int x1), none, none] mo_J7_fill_53178.2.2.2.2.2 rfl (Nat.le_of_ble_eq_true rfl) rfl ?_
  refine q_blk (pc' := 3) (lo' := [some (.ref a0), some (.int x1), some (.int (nI 0)), none]) (st' := [.ref a0]) [.iconst 0, .istore_n 2, .aload_n 0] (by decide +kernel) rfl ?_
  obtain ⟨z2, s1, b3, h⟩ := h
  refine q_alenI (by decide +kernel) s1 ?_
  refine q_blk (pc' := 5) (lo' := [some (.ref a0), some (.int x1), some (.int (nI 0)), some (.int (nI z2))]) (st' := []) [.istore_n 3] (by decide +kernel) rfl ?_
  exact h
theorem f_J7_fill_53178_5 {G : q_G} {X : String → q_H → Prop} {f : q_H → Prop} {A : q_H} {a0 : Nat} {x1 : Int32} {x2 : Int32} {x3 : Int32} (h : ((x3 ≤ x2 → f A) ∧ (¬ x3 ≤ x2 → ∃ z3 : Nat, q_sh A a0 = (50, z3) ∧ z3 < 2147483648 ∧ ∃ j5 : Nat, x2 = nI j5 ∧ j5 < z3 ∧ q_Wp G M_J7_fill_53178 (q_KV f) X 0 0 5 [some (.ref a0), some (.int x1), some (.int (x2 + (nI 1))), some (.int x3)] [] (q_setI A a0 j5 x1)))) : q_Wp G M_J7_fill_53178 (q_KV f) X 0 0 5 [some (.ref a0), some (.int x1), some (.int x2), some (.int x3)] [] A := by
  refine q_blk (pc' := 7) (lo' := [some (.ref a0), some (.int x1), some (.int x2), some (.int x3)]) (st' := [.int x3, .int x2]) [.iload_n 2, .iload_n 3] (by decide +kernel) rfl ?_
  refine q_icmp_ge 20 (off := 13) (by decide +kernel) (by decide) (fun c1 => ?_) (fun c1 => ?_)
  · have h := h.1 c1
    exact q_ret0 rfl (by decide) (by decide) (by decide +kernel) ⟨rfl, h⟩
  · have h := h.2 c1
    refine q_blk (pc' := 13) (lo' := [some (.ref a0), some (.int x1), some (.int x2), some (.int x3)]) (st' := [.int x1, .int x2, .ref a0]) [.aload_n 0, .iload_n 2, .iload_n 1] (by decide +kernel) rfl ?_
    obtain ⟨z3, s2, b4, h⟩ := h
    obtain ⟨j5, e6, h⟩ := h
    obtain ⟨l7, h⟩ := h
    refine q_iast e6 (by decide +kernel) s2 l7 b4 ?_
    refine q_blk (pc' := 17) (lo' := [some (.ref a0), some (.int x1), some (.int (x2 + (nI 1))), some (.int x3)]) (st' := []) [.iinc 2 1] (by decide +kernel) rfl ?_
    refine q_goto 5 (off := -12) (by decide +kernel) (by decide) ?_
    exact h
theorem f_X2_init_0 {G : q_G} {X : String → q_H → Prop} {f : q_H → Prop} {A : q_H} {a0 : Nat} (h : q_sh (q_new A 50 6) a0 = (3, 0) ∧ f (q_setR (q_new A 50 6) a0 0 (some (q_sz A)))) : q_Wc G M_X2_init [.ref a0] A (q_KV f) X := by
  refine q_Wc.of [some (.ref a0)] mo_X2_init.2.2.2.2.2 rfl (Nat.le_of_ble_eq_true rfl) rfl ?_
  refine q_blk (pc' := 1) (lo' := [some (.ref a0)]) (st' := [.ref a0]) [.aload_n 0] (by decide +kernel) rfl ?_
  refine q_obj ob_X2_3.1 ob_X2_3.2.1 ob_X2_3.2.2 (by decide) (Nat.le_of_ble_eq_true rfl) (by decide +kernel) ?_
  refine q_blk (pc' := 7) (lo' := [some (.ref a0)]) (st' := [.int (nI 6), .ref a0]) [.aload_n 0, .bipush 6] (by decide +kernel) rfl ?_
  refine q_newI (z := 6) ac_int rfl (by decide) (by decide) (by decide) (by decide +kernel) ?_
  have s1 : q_sh (q_new A 50 6) (q_sz A) = (50, 6) := q_shn _ _ _
  obtain ⟨s2, h⟩ := h
  refine q_putP (v := (some (q_sz A))) fp_X2_9 rfl rfl (by decide) (by decide +kernel) s2 ?_
  exact q_ret0 rfl (by decide) (by decide) (by decide +kernel) ⟨rfl, h⟩
theorem f_X2_of_0 {G : q_G} {X : String → q_H → Prop} {f : Int32 → q_H → Prop} {A : q_H} {a0 : Nat} {x1 : Int32} (h : ((x1 < nI 0 → f (nI 0) A) ∧ (¬ x1 < nI 0 → q_sh A a0 = (3, 0) ∧ ∃ r3 : Nat, q_R A a0 0 = some r3 ∧ ∃ z6 : Nat, q_sh A r3 = (50, z6) ∧ z6 < 2147483648 ∧ (((nI z6) ≤ x1 → f (nI 0) A) ∧ (¬ (nI z6) ≤ x1 → ∃ j9 : Nat, x1 = nI j9 ∧ j9 < z6 ∧ f (q_I A r3 j9) A))))) : q_Wc G M_X2_of [.ref a0, .int x1] A (q_KI f) X := by
  refine q_Wc.of [some (.ref a0), some (.int x1)] mo_X2_of.2.2.2.2.2 rfl (Nat.le_of_ble_eq_true rfl) rfl ?_
  refine q_blk (pc' := 1) (lo' := [some (.ref a0), some (.int x1)]) (st' := [.int x1]) [.iload_n 1] (by decide +kernel) rfl ?_
  refine q_if_lt 22 (off := 21) (by decide +kernel) (by decide) (fun c1 => ?_) (fun c1 => ?_)
  · have h := h.1 c1
    refine q_blk (pc' := 23) (lo' := [some (.ref a0), some (.int x1)]) (st' := [.int (nI 0)]) [.iconst 0] (by decide +kernel) rfl ?_
    exact q_retI rfl (by decide) (by decide) (by decide +kernel) ⟨_, rfl, h⟩
  · have h := h.2 c1
    refine q_blk (pc' := 6) (lo' := [some (.ref a0), some (.int x1)]) (st' := [.ref a0, .int x1]) [.iload_n 1, .aload_n 0] (by decide +kernel) rfl ?_
    obtain ⟨s2, h⟩ := h
    obtain ⟨r3, e4, h⟩ := h
    refine q_getR fl_X2_9 rfl (by decide) (by decide +kernel) s2 e4 ?_
    obtain ⟨z6, s5, b7, h⟩ := h
    refine q_alenI (by decide +kernel) s5 ?_
    refine q_icmp_ge 22 (off := 12) (by decide +kernel) (by decide) (fun c8 => ?_) (fun c8 => ?_)
    · have h := h.1 c8
      refine q_blk (pc' := 23) (lo' := [some (.ref a0), some (.int x1)]) (st' := [.int (nI 0)]) [.iconst 0] (by decide +kernel) rfl ?_
      exact q_retI rfl (by decide) (by decide) (by decide +kernel) ⟨_, rfl, h⟩
    · have h := h.2 c8
      refine q_blk (pc' := 14) (lo' := [some (.ref a0), some (.int x1)]) (st' := [.ref a0]) [.aload_n 0] (by decide +kernel) rfl ?_
      refine q_getR fl_X2_9 rfl (by decide) (by decide +kernel) s2 e4 ?_
      refine q_blk (pc' := 18) (lo' := [some (.ref a0), some (.int x1)]) (st' := [.int x1, .ref r3]) [.iload_n 1] (by decide +kernel) rfl ?_
      obtain ⟨j9, e10, h⟩ := h
      obtain ⟨l11, h⟩ := h
      refine q_iald e10 (by decide +kernel) s5 l11 b7 ?_
      refine q_goto 23 (off := 4) (by decide +kernel) (by decide) ?_
      exact q_retI rfl (by decide) (by decide) (by decide +kernel) ⟨_, rfl, h⟩
theorem f_X2_put_0 {G : q_G} {X : String → q_H → Prop} {f : q_H → Prop} {A : q_H} {a0 : Nat} {x1 : Int32} {x2 : Int32} (h : ((x1 < nI 0 → f A) ∧ (¬ x1 < nI 0 → q_sh A a0 = (3, 0) ∧ ∃ r3 : Nat, q_R A a0 0 = some r3 ∧ ∃ z6 : Nat, q_sh A r3 = (50, z6) ∧ z6 < 2147483648 ∧ (((nI z6) ≤ x1 → f A) ∧ (¬ (nI z6) ≤ x1 → ∃ j9 : Nat, x1 = nI j9 ∧ j9 < z6 ∧ f (q_setI (q_setI A r3 j9 ((q_I A r3 j9) + x2)) a0 1 ((q_I (q_setI A r3 j9 ((q_I A r3 j9) + x2)) a0 1) + x2))))))) : q_Wc G M_X2_put [.ref a0, .int x1, .int x2] A (q_KV f) X := by
  refine q_Wc.of [some (.ref a0), some (.int x1), some (.int x2)] mo_X2_put.2.2.2.2.2 rfl (Nat.le_of_ble_eq_true rfl) rfl ?_
  refine q_blk (pc' := 1) (lo' := [some (.ref a0), some (.int x1), some (.int x2)]) (st' := [.int x1]) [.iload_n 1] (by decide +kernel) rfl ?_
  refine q_if_lt 33 (off := 32) (by decide +kernel) (by decide) (fun c1 => ?_) (fun c1 => ?_)
  · have h := h.1 c1
    exact q_ret0 rfl (by decide) (by decide) (by decide +kernel) ⟨rfl, h⟩
  · have h := h.2 c1
    refine q_blk (pc' := 6) (lo' := [some (.ref a0), some (.int x1), some (.int x2)]) (st' := [.ref a0, .int x1]) [.iload_n 1, .aload_n 0] (by decide +kernel) rfl ?_
    obtain ⟨s2, h⟩ := h
    obtain ⟨r3, e4, h⟩ := h
    refine q_getR fl_X2_9 rfl (by decide) (by decide +kernel) s2 e4 ?_
    obtain ⟨z6, s5, b7, h⟩ := h
    refine q_alenI (by decide +kernel) s5 ?_
    refine q_icmp_ge 33 (off := 23) (by decide +kernel) (by decide) (fun c8 => ?_) (fun c8 => ?_)
    · have h := h.1 c8
      exact q_ret0 rfl (by decide) (by decide) (by decide +kernel) ⟨rfl, h⟩
    · have h := h.2 c8
      refine q_blk (pc' := 14) (lo' := [some (.ref a0), some (.int x1), some (.int x2)]) (st' := [.ref a0]) [.aload_n 0] (by decide +kernel) rfl ?_
      refine q_getR fl_X2_9 rfl (by decide) (by decide +kernel) s2 e4 ?_
      refine q_blk (pc' := 19) (lo' := [some (.ref a0), some (.int x1), some (.int x2)]) (st' := [.int x1, .ref r3, .int x1, .ref r3]) [.iload_n 1, .dup2] (by decide +kernel) rfl ?_
      obtain ⟨j9, e10, h⟩ := h
      obtain ⟨l11, h⟩ := h
      refine q_iald e10 (by decide +kernel) s5 l11 b7 ?_
      refine q_blk (pc' := 22) (lo' := [some (.ref a0), some (.int x1), some (.int x2)]) (st' := [.int ((q_I A r3 j9) + x2), .int x1, .ref r3]) [.iload_n 2, .iadd] (by decide +kernel) rfl ?_
      refine q_iast e10 (by decide +kernel) s5 l11 b7 ?_
      refine q_blk (pc' := 25) (lo' := [some (.ref a0), some (.int x1), some (.int x2)]) (st' := [.ref a0, .ref a0]) [.aload_n 0, .dup] (by decide +kernel) rfl ?_
      refine q_getI fl_X2_15 rfl (by decide) (by decide +kernel) s2 ?_
      refine q_blk (pc' := 30) (lo' := [some (.ref a0), some (.int x1), some (.int x2)]) (st' := [.int ((q_I (q_setI A r3 j9 ((q_I A r3 j9) + x2)) a0 1) + x2), .ref a0]) [.iload_n 2, .iadd] (by decide +kernel) rfl ?_
      refine q_putI fw_X2_15 rfl (by decide) (by decide +kernel) s2 ?_
      exact q_ret0 rfl (by decide) (by decide) (by decide +kernel) ⟨rfl, h⟩
theorem f_X2_clear_0 {G : q_G} {X : String → q_H → Prop} {f : q_H → Prop} {A : q_H} {a0 : Nat} (h : q_sh A a0 = (3, 0) ∧ ∃ r2 : Nat, q_R A a0 0 = some r2 ∧ q_Wc G M_J7_fill_53178 [.ref r2, .int (nI 0)] A (q_KV fun A4 => q_sh A4 a0 = (3, 0) ∧ f (q_setI A4 a0 1 (nI 0))) q_nX) : q_Wc G M_X2_clear [.ref a0] A (q_KV f) X := by
  refine q_Wc.of [some (.ref a0)] mo_X2_clear.2.2.2.2.2 rfl (Nat.le_of_ble_eq_true rfl) rfl ?_
  refine q_blk (pc' := 1) (lo' := [some (.ref a0)]) (st' := [.ref a0]) [.aload_n 0] (by decide +kernel) rfl ?_
  obtain ⟨s1, h⟩ := h
  obtain ⟨r2, e3, h⟩ := h
  refine q_getR fl_X2_9 rfl (by decide) (by decide +kernel) s1 e3 ?_
  refine q_blk (pc' := 5) (lo' := [some (.ref a0)]) (st' := [.int (nI 0), .ref r2]) [.iconst 0] (by decide +kernel) rfl ?_
  refine q_callS (Mc := M_J7_fill_53178) (z := 2) (As := [.ref r2, .int (nI 0)]) (st := []) mo_J7_fill_53178 ms_J7_fill_53178 ml_X2_19_J7_fill_53178 rfl rfl (by decide) (by decide) rfl (Nat.le_of_ble_eq_true rfl) (by decide +kernel) h (q_fV fun A4 h => ?_)
  show q_Wp _ _ _ _ 0 0 8 [some (.ref a0)] [] A4
  refine q_blk (pc' := 10) (lo' := [some (.ref a0)]) (st' := [.int (nI 0), .ref a0]) [.aload_n 0, .iconst 0] (by decide +kernel) rfl ?_
  obtain ⟨s6, h⟩ := h
  refine q_putI fw_X2_15 rfl (by decide) (by decide +kernel) s6 ?_
  exact q_ret0 rfl (by decide) (by decide) (by decide +kernel) ⟨rfl, h⟩
theorem f_X2_copyFrom_0 {G : q_G} {X : String → q_H → Prop} {f : q_H → Prop} {A : q_H} {a0 : Nat} {a1 : Nat} (h : q_sh A a1 = (3, 0) ∧ ∃ r2 : Nat, q_R A a1 0 = some r2 ∧ q_sh A a0 = (3, 0) ∧ ∃ r5 : Nat, q_R A a0 0 = some r5 ∧ ∃ z8 : Nat, q_sh A r5 = (50, z8) ∧ z8 < 2147483648 ∧ ∃ z11 : Nat, q_sh A r2 = (50, z11) ∧ z11 < 2147483648 ∧ z8 ≤ z11 ∧ z8 ≤ z8 ∧ f (q_setI (q_rowI A r5 (fun j => if j < z8 then q_I A r2 j else q_I A r5 j)) a0 1 (q_I (q_rowI A r5 (fun j => if j < z8 then q_I A r2 j else q_I A r5 j)) a1 1))) : q_Wc G M_X2_copyFrom [.ref a0, .ref a1] A (q_KV f) X := by
  refine q_Wc.of [some (.ref a0), some (.ref a1)] mo_X2_copyFrom.2.2.2.2.2 rfl (Nat.le_of_ble_eq_true rfl) rfl ?_
  refine q_blk (pc' := 1) (lo' := [some (.ref a0), some (.ref a1)]) (st' := [.ref a1]) [.aload_n 1] (by decide +kernel) rfl ?_
  obtain ⟨s1, h⟩ := h
  obtain ⟨r2, e3, h⟩ := h
  refine q_getR fl_X2_9 rfl (by decide) (by decide +kernel) s1 e3 ?_
  refine q_blk (pc' := 6) (lo' := [some (.ref a0), some (.ref a1)]) (st' := [.ref a0, .int (nI 0), .ref r2]) [.iconst 0, .aload_n 0] (by decide +kernel) rfl ?_
  obtain ⟨s4, h⟩ := h
  obtain ⟨r5, e6, h⟩ := h
  refine q_getR fl_X2_9 rfl (by decide) (by decide +kernel) s4 e6 ?_
  refine q_blk (pc' := 11) (lo' := [some (.ref a0), some (.ref a1)]) (st' := [.ref a0, .int (nI 0), .ref r5, .int (nI 0), .ref r2]) [.iconst 0, .aload_n 0] (by decide +kernel) rfl ?_
  refine q_getR fl_X2_9 rfl (by decide) (by decide +kernel) s4 e6 ?_
  obtain ⟨z8, s7, b9, h⟩ := h
  refine q_alenI (by decide +kernel) s7 ?_
  obtain ⟨z11, s10, b12, h⟩ := h
  obtain ⟨l13, l14, h⟩ := h
  refine q_acpy cp_X2_25.1 cp_X2_25.2.1 cp_X2_25.2.2.1 cp_X2_25.2.2.2 (by decide) (Nat.le_of_ble_eq_true rfl) (by decide +kernel) rfl s10 s7 l13 l14 b9 b12 ?_
  refine q_blk (pc' := 20) (lo' := [some (.ref a0), some (.ref a1)]) (st' := [.ref a1, .ref a0]) [.aload_n 0, .aload_n 1] (by decide +kernel) rfl ?_
  refine q_getI fl_X2_15 rfl (by decide) (by decide +kernel) s1 ?_
  refine q_putI fw_X2_15 rfl (by decide) (by decide +kernel) s4 ?_
  exact q_ret0 rfl (by decide) (by decide) (by decide +kernel) ⟨rfl, h⟩
theorem f_X2_putAll_0 {G : q_G} {X : String → q_H → Prop} {f : q_H → Prop} {A : q_H} {a0 : Nat} {a1 : Nat} (h : q_Wp G M_X2_putAll (q_KV f) X 0 0 2 [some (.ref a0), some (.ref a1), some (.int (nI 0))] [] A) : q_Wc G M_X2_putAll [.ref a0, .ref a1] A (q_KV f) X := by
  refine q_Wc.of [some (.ref a0), some (.ref a1), none] mo_X2_putAll.2.2.2.2.2 rfl (Nat.le_of_ble_eq_true rfl) rfl ?_
  refine q_blk (pc' := 2) (lo' := [some (.ref a0), some (.ref a1), some (.int (nI 0))]) (st' := []) [.iconst 0, .istore_n 2] (by decide +kernel) rfl ?_
  exact h
theorem f_X2_putAll_2 {G : q_G} {X : String → q_H → Prop} {f : q_H → Prop} {A : q_H} {a0 : Nat} {a1 : Nat} {x2 : Int32} (h : q_sh A a0 = (3, 0) ∧ ∃ r2 : Nat, q_R A a0 0 = some r2 ∧ ∃ z5 : Nat, q_sh A r2 = (50, z5) ∧ z5 < 2147483648 ∧ (((nI z5) ≤ x2 → q_sh A a1 = (3, 0) ∧ f (q_setI A a0 1 ((q_I A a0 1) + (q_I A a1 1)))) ∧ (¬ (nI z5) ≤ x2 → ∃ j9 : Nat, x2 = nI j9 ∧ j9 < z5 ∧ q_sh A a1 = (3, 0) ∧ ∃ r13 : Nat, q_R A a1 0 = some r13 ∧ ∃ z16 : Nat, q_sh A r13 = (50, z16) ∧ z16 < 2147483648 ∧ j9 < z16 ∧ q_Wp G M_X2_putAll (q_KV f) X 0 0 2 [some (.ref a0), some (.ref a1), some (.int (x2 + (nI 1)))] [] (q_setI A r2 j9 ((q_I A r2 j9) + (q_I A r13 j9)))))) : q_Wp G M_X2_putAll (q_KV f) X 0 0 2 [some (.ref a0), some (.ref a1), some (.int x2)] [] A := by
  refine q_blk (pc' := 4) (lo' := [some (.ref a0), some (.ref a1), some (.int x2)]) (st' := [.ref a0, .int x2]) [.iload_n 2, .aload_n 0] (by decide +kernel) rfl ?_
  obtain ⟨s1, h⟩ := h
  obtain ⟨r2, e3, h⟩ := h
  refine q_getR fl_X2_9 rfl (by decide) (by decide +kernel) s1 e3 ?_
  obtain ⟨z5, s4, b6, h⟩ := h
  refine q_alenI (by decide +kernel) s4 ?_
  refine q_icmp_ge 32 (off := 24) (by decide +kernel) (by decide) (fun c7 => ?_) (fun c7 => ?_)
  · have h := h.1 c7
    refine q_blk (pc' := 34) (lo' := [some (.ref a0), some (.ref a1), some (.int x2)]) (st' := [.ref a0, .ref a0]) [.aload_n 0, .dup] (by decide +kernel) rfl ?_
    refine q_getI fl_X2_15 rfl (by decide) (by decide +kernel) s1 ?_
    refine q_blk (pc' := 38) (lo' := [some (.ref a0), some (.ref a1), some (.int x2)]) (st' := [.ref a1, .int (q_I A a0 1), .ref a0]) [.aload_n 1] (by decide +kernel) rfl ?_
    obtain ⟨s8, h⟩ := h
    refine q_getI fl_X2_15 rfl (by decide) (by decide +kernel) s8 ?_
    refine q_blk (pc' := 42) (lo' := [some (.ref a0), some (.ref a1), some (.int x2)]) (st' := [.int ((q_I A a0 1) + (q_I A a1 1)), .ref a0]) [.iadd] (by decide +kernel) rfl ?_
    refine q_putI fw_X2_15 rfl (by decide) (by decide +kernel) s1 ?_
    exact q_ret0 rfl (by decide) (by decide) (by decide +kernel) ⟨rfl, h⟩
  · have h := h.2 c7
    refine q_blk (pc' := 12) (lo' := [some (.ref a0), some (.ref a1), some (.int x2)]) (st' := [.ref a0]) [.aload_n 0] (by decide +kernel) rfl ?_
    refine q_getR fl_X2_9 rfl (by decide) (by decide +kernel) s1 e3 ?_
    refine q_blk (pc' := 17) (lo' := [some (.ref a0), some (.ref a1), some (.int x2)]) (st' := [.int x2, .ref r2, .int x2, .ref r2]) [.iload_n 2, .dup2] (by decide +kernel) rfl ?_
    obtain ⟨j9, e10, h⟩ := h
    obtain ⟨l11, h⟩ := h
    refine q_iald e10 (by decide +kernel) s4 l11 b6 ?_
    refine q_blk (pc' := 19) (lo' := [some (.ref a0), some (.ref a1), some (.int x2)]) (st' := [.ref a1, .int (q_I A r2 j9), .int x2, .ref r2]) [.aload_n 1] (by decide +kernel) rfl ?_
    obtain ⟨s12, h⟩ := h
    obtain ⟨r13, e14, h⟩ := h
    refine q_getR fl_X2_9 rfl (by decide) (by decide +kernel) s12 e14 ?_
    refine q_blk (pc' := 23) (lo' := [some (.ref a0), some (.ref a1), some (.int x2)]) (st' := [.int x2, .ref r13, .int (q_I A r2 j9), .int x2, .ref r2]) [.iload_n 2] (by decide +kernel) rfl ?_
    obtain ⟨z16, s15, b17, h⟩ := h
    obtain ⟨l18, h⟩ := h
    refine q_iald e10 (by decide +kernel) s15 l18 b17 ?_
    refine q_blk (pc' := 25) (lo' := [some (.ref a0), some (.ref a1), some (.int x2)]) (st' := [.int ((q_I A r2 j9) + (q_I A r13 j9)), .int x2, .ref r2]) [.iadd] (by decide +kernel) rfl ?_
    refine q_iast e10 (by decide +kernel) s4 l11 b6 ?_
    refine q_blk (pc' := 29) (lo' := [some (.ref a0), some (.ref a1), some (.int (x2 + (nI 1)))]) (st' := []) [.iinc 2 1] (by decide +kernel) rfl ?_
    refine q_goto 2 (off := -27) (by decide +kernel) (by decide) ?_
    exact h
theorem f_X2_move_0 {G : q_G} {X : String → q_H → Prop} {f : q_H → Prop} {A : q_H} {a0 : Nat} {x1 : Int32} {x2 : Int32} {a3 : Nat} (h : ((x1 < nI 0 → f A) ∧ (¬ x1 < nI 0 → q_sh A a0 = (3, 0) ∧ ∃ r3 : Nat, q_R A a0 0 = some r3 ∧ ∃ z6 : Nat, q_sh A r3 = (50, z6) ∧ z6 < 2147483648 ∧ (((nI z6) ≤ x1 → f A) ∧ (¬ (nI z6) ≤ x1 → ∃ j9 : Nat, x1 = nI j9 ∧ j9 < z6 ∧ q_sh A a3 = (3, 0) ∧ ∃ r13 : Nat, q_R A a3 0 = some r13 ∧ ∃ z16 : Nat, q_sh A r13 = (50, z16) ∧ z16 < 2147483648 ∧ j9 < z16 ∧ (∀ A19 : q_H, A19 = (q_setI (q_setI (q_setI A r3 j9 ((q_I A r3 j9) - x2)) a0 1 ((q_I (q_setI A r3 j9 ((q_I A r3 j9) - x2)) a0 1) - x2)) r13 j9 ((q_I (q_setI (q_setI A r3 j9 ((q_I A r3 j9) - x2)) a0 1 ((q_I (q_setI A r3 j9 ((q_I A r3 j9) - x2)) a0 1) - x2)) r13 j9) + x2)) → f (q_setI A19 a3 1 ((q_I A19 a3 1) + x2)))))))) : q_Wc G M_X2_move [.ref a0, .int x1, .int x2, .ref a3] A (q_KV f) X := by
  refine q_Wc.of [some (.ref a0), some (.int x1), some (.int x2), some (.ref a3)] mo_X2_move.2.2.2.2.2 rfl (Nat.le_of_ble_eq_true rfl) rfl ?_
  refine q_blk (pc' := 1) (lo' := [some (.ref a0), some (.int x1), some (.int x2), some (.ref a3)]) (st' := [.int x1]) [.iload_n 1] (by decide +kernel) rfl ?_
  refine q_if_lt 53 (off := 52) (by decide +kernel) (by decide) (fun c1 => ?_) (fun c1 => ?_)
  · have h := h.1 c1
    exact q_ret0 rfl (by decide) (by decide) (by decide +kernel) ⟨rfl, h⟩
  · have h := h.2 c1
    refine q_blk (pc' := 6) (lo' := [some (.ref a0), some (.int x1), some (.int x2), some (.ref a3)]) (st' := [.ref a0, .int x1]) [.iload_n 1, .aload_n 0] (by decide +kernel) rfl ?_
    obtain ⟨s2, h⟩ := h
    obtain ⟨r3, e4, h⟩ := h
    refine q_getR fl_X2_9 rfl (by decide) (by decide +kernel) s2 e4 ?_
    obtain ⟨z6, s5, b7, h⟩ := h
    refine q_alenI (by decide +kernel) s5 ?_
    refine q_icmp_ge 53 (off := 43) (by decide +kernel) (by decide) (fun c8 => ?_) (fun c8 => ?_)
    · have h := h.1 c8
      exact q_ret0 rfl (by decide) (by decide) (by decide +kernel) ⟨rfl, h⟩
    · have h := h.2 c8
      refine q_blk (pc' := 14) (lo' := [some (.ref a0), some (.int x1), some (.int x2), some (.ref a3)]) (st' := [.ref a0]) [.aload_n 0] (by decide +kernel) rfl ?_
      refine q_getR fl_X2_9 rfl (by decide) (by decide +kernel) s2 e4 ?_
      refine q_blk (pc' := 19) (lo' := [some (.ref a0), some (.int x1), some (.int x2), some (.ref a3)]) (st' := [.int x1, .ref r3, .int x1, .ref r3]) [.iload_n 1, .dup2] (by decide +kernel) rfl ?_
      obtain ⟨j9, e10, h⟩ := h
      obtain ⟨l11, h⟩ := h
      refine q_iald e10 (by decide +kernel) s5 l11 b7 ?_
      refine q_blk (pc' := 22) (lo' := [some (.ref a0), some (.int x1), some (.int x2), some (.ref a3)]) (st' := [.int ((q_I A r3 j9) - x2), .int x1, .ref r3]) [.iload_n 2, .isub] (by decide +kernel) rfl ?_
      refine q_iast e10 (by decide +kernel) s5 l11 b7 ?_
      refine q_blk (pc' := 25) (lo' := [some (.ref a0), some (.int x1), some (.int x2), some (.ref a3)]) (st' := [.ref a0, .ref a0]) [.aload_n 0, .dup] (by decide +kernel) rfl ?_
      refine q_getI fl_X2_15 rfl (by decide) (by decide +kernel) s2 ?_
      refine q_blk (pc' := 30) (lo' := [some (.ref a0), some (.int x1), some (.int x2), some (.ref a3)]) (st' := [.int ((q_I (q_setI A r3 j9 ((q_I A r3 j9) - x2)) a0 1) - x2), .ref a0]) [.iload_n 2, .isub] (by decide +kernel) rfl ?_
      refine q_putI fw_X2_15 rfl (by decide) (by decide +kernel) s2 ?_
      refine q_blk (pc' := 34) (lo' := [some (.ref a0), some (.int x1), some (.int x2), some (.ref a3)]) (st' := [.ref a3]) [.aload_n 3] (by decide +kernel) rfl ?_
      obtain ⟨s12, h⟩ := h
      obtain ⟨r13, e14, h⟩ := h
      refine q_getR fl_X2_9 rfl (by decide) (by decide +kernel) s12 e14 ?_
      refine q_blk (pc' := 39) (lo' := [some (.ref a0), some (.int x1), some (.int x2), some (.ref a3)]) (st' := [.int x1, .ref r13, .int x1, .ref r13]) [.iload_n 1, .dup2] (by decide +kernel) rfl ?_
      obtain ⟨z16, s15, b17, h⟩ := h
      obtain ⟨l18, h⟩ := h
      refine q_iald e10 (by decide +kernel) s15 l18 b17 ?_
      refine q_blk (pc' := 42) (lo' := [some (.ref a0), some (.int x1), some (.int x2), some (.ref a3)]) (st' := [.int ((q_I (q_setI (q_setI A r3 j9 ((q_I A r3 j9) - x2)) a0 1 ((q_I (q_setI A r3 j9 ((q_I A r3 j9) - x2)) a0 1) - x2)) r13 j9) + x2), .int x1, .ref r13]) [.iload_n 2, .iadd] (by decide +kernel) rfl ?_
      refine q_iast e10 (by decide +kernel) s15 l18 b17 ?_
      let A19 : q_H := (q_setI (q_setI (q_setI A r3 j9 ((q_I A r3 j9) - x2)) a0 1 ((q_I (q_setI A r3 j9 ((q_I A r3 j9) - x2)) a0 1) - x2)) r13 j9 ((q_I (q_setI (q_setI A r3 j9 ((q_I A r3 j9) - x2)) a0 1 ((q_I (q_setI A r3 j9 ((q_I A r3 j9) - x2)) a0 1) - x2)) r13 j9) + x2))
      have h := h A19 rfl
      show q_Wp _ _ _ _ 0 0 43 [some (.ref a0), some (.int x1), some (.int x2), some (.ref a3)] [] A19
      refine q_blk (pc' := 45) (lo' := [some (.ref a0), some (.int x1), some (.int x2), some (.ref a3)]) (st' := [.ref a3, .ref a3]) [.aload_n 3, .dup] (by decide +kernel) rfl ?_
      refine q_getI fl_X2_15 rfl (by decide) (by decide +kernel) s12 ?_
      refine q_blk (pc' := 50) (lo' := [some (.ref a0), some (.int x1), some (.int x2), some (.ref a3)]) (st' := [.int ((q_I A19 a3 1) + x2), .ref a3]) [.iload_n 2, .iadd] (by decide +kernel) rfl ?_
      refine q_putI fw_X2_15 rfl (by decide) (by decide +kernel) s12 ?_
      exact q_ret0 rfl (by decide) (by decide) (by decide +kernel) ⟨rfl, h⟩
theorem f_X2_movePortion_0 {G : q_G} {X : String → q_H → Prop} {f : q_H → Prop} {A : q_H} {a0 : Nat} {x1 : Int32} {a2 : Nat} (h : q_sh A a0 = (3, 0) ∧ (((q_I A a0 1) ≤ nI 0 → q_sh A a2 = (3, 0) ∧ q_Wc G M_X2_putAll [.ref a2, .ref a0] A (q_KV fun A3 => q_sh A3 a0 = (3, 0) ∧ q_Wc G M_X2_clear [.ref a0] A3 (q_KV fun A6 => f A6) q_nX) q_nX) ∧ (¬ (q_I A a0 1) ≤ nI 0 → ((x1 < (q_I A a0 1) → q_Wp G M_X2_movePortion (q_KV f) X 0 0 30 [some (.ref a0), some (.int x1), some (.ref a2), some (.int (q_I A a0 1)), some (.int x1), some (.int (nI 0)), none] [] A) ∧ (¬ x1 < (q_I A a0 1) → q_sh A a2 = (3, 0) ∧ q_Wc G M_X2_putAll [.ref a2, .ref a0] A (q_KV fun A10 => q_sh A10 a0 = (3, 0) ∧ q_Wc G M_X2_clear [.ref a0] A10 (q_KV fun A13 => f A13) q_nX) q_nX))))) : q_Wc G M_X2_movePortion [.ref a0, .int x1, .ref a2] A (q_KV f) X := by
  refine q_Wc.of [some (.ref a0), some (.int x1), some (.ref a2), none, none, none, none] mo_X2_movePortion.2.2.2.2.2 rfl (Nat.le_of_ble_eq_true rfl) rfl ?_
  refine q_blk (pc' := 1) (lo' := [some (.ref a0), some (.int x1), some (.ref a2), none, none, none, none]) (st' := [.ref a0]) [.aload_n 0] (by decide +kernel) rfl ?_
  obtain ⟨s1, h⟩ := h
  refine q_getI fl_X2_15 rfl (by decide) (by decide +kernel) s1 ?_
  refine q_blk (pc' := 6) (lo' := [some (.ref a0), some (.int x1), some (.ref a2), some (.int (q_I A a0 1)), none, none, none]) (st' := [.int (q_I A a0 1)]) [.istore_n 3, .iload_n 3] (by decide +kernel) rfl ?_
  refine q_if_le 14 (off := 8) (by decide +kernel) (by decide) (fun c2 => ?_) (fun c2 => ?_)
  · have h := h.1 c2
    refine q_blk (pc' := 16) (lo' := [some (.ref a0), some (.int x1), some (.ref a2), some (.int (q_I A a0 1)), none, none, none]) (st' := [.ref a0, .ref a2]) [.aload_n 2, .aload_n 0] (by decide +kernel) rfl ?_
    obtain ⟨s5, h⟩ := h
    refine q_callV (ci := 2) (Mc := M_X2_putAll) (z := 1) (b := a2) (As := [.ref a0]) (st := []) mo_X2_putAll mi_X2_putAll ml_X2_31_X2_putAll rfl rfl (by decide) rfl (by decide) (by decide) rfl (Nat.le_of_ble_eq_true rfl) (by decide +kernel) s5 h (q_fV fun A3 h => ?_)
    show q_Wp _ _ _ _ 0 0 19 [some (.ref a0), some (.int x1), some (.ref a2), some (.int (q_I A a0 1)), none, none, none] [] A3
    refine q_blk (pc' := 20) (lo' := [some (.ref a0), some (.int x1), some (.ref a2), some (.int (q_I A a0 1)), none, none, none]) (st' := [.ref a0]) [.aload_n 0] (by decide +kernel) rfl ?_
    obtain ⟨s8, h⟩ := h
    refine q_callV (ci := 2) (Mc := M_X2_clear) (z := 0) (b := a0) (As := []) (st := []) mo_X2_clear mi_X2_clear ml_X2_35_X2_clear rfl rfl (by decide) rfl (by decide) (by decide) rfl (Nat.le_of_ble_eq_true rfl) (by decide +kernel) s8 h (q_fV fun A6 h => ?_)
    show q_Wp _ _ _ _ 0 0 23 [some (.ref a0), some (.int x1), some (.ref a2), some (.int (q_I A a0 1)), none, none, none] [] A6
    exact q_ret0 rfl (by decide) (by decide) (by decide +kernel) ⟨rfl, h⟩
  · have h := h.2 c2
    refine q_blk (pc' := 11) (lo' := [some (.ref a0), some (.int x1), some (.ref a2), some (.int (q_I A a0 1)), none, none, none]) (st' := [.int (q_I A a0 1), .int x1]) [.iload_n 1, .iload_n 3] (by decide +kernel) rfl ?_
    refine q_icmp_lt 24 (off := 13) (by decide +kernel) (by decide) (fun c9 => ?_) (fun c9 => ?_)
    · have h := h.1 c9
      refine q_blk (pc' := 30) (lo' := [some (.ref a0), some (.int x1), some (.ref a2), some (.int (q_I A a0 1)), some (.int x1), some (.int (nI 0)), none]) (st' := []) [.iload_n 1, .istore 4, .iconst 0, .istore 5] (by decide +kernel) rfl ?_
      exact h
    · have h := h.2 c9
      refine q_blk (pc' := 16) (lo' := [some (.ref a0), some (.int x1), some (.ref a2), some (.int (q_I A a0 1)), none, none, none]) (st' := [.ref a0, .ref a2]) [.aload_n 2, .aload_n 0] (by decide +kernel) rfl ?_
      obtain ⟨s12, h⟩ := h
      refine q_callV (ci := 2) (Mc := M_X2_putAll) (z := 1) (b := a2) (As := [.ref a0]) (st := []) mo_X2_putAll mi_X2_putAll ml_X2_31_X2_putAll rfl rfl (by decide) rfl (by decide) (by decide) rfl (Nat.le_of_ble_eq_true rfl) (by decide +kernel) s12 h (q_fV fun A10 h => ?_)
      show q_Wp _ _ _ _ 0 0 19 [some (.ref a0), some (.int x1), some (.ref a2), some (.int (q_I A a0 1)), none, none, none] [] A10
      refine q_blk (pc' := 20) (lo' := [some (.ref a0), some (.int x1), some (.ref a2), some (.int (q_I A a0 1)), none, none, none]) (st' := [.ref a0]) [.aload_n 0] (by decide +kernel) rfl ?_
      obtain ⟨s15, h⟩ := h
      refine q_callV (ci := 2) (Mc := M_X2_clear) (z := 0) (b := a0) (As := []) (st := []) mo_X2_clear mi_X2_clear ml_X2_35_X2_clear rfl rfl (by decide) rfl (by decide) (by decide) rfl (Nat.le_of_ble_eq_true rfl) (by decide +kernel) s15 h (q_fV fun A13 h => ?_)
      show q_Wp _ _ _ _ 0 0 23 [some (.ref a0), some (.int x1), some (.ref a2), some (.int (q_I A a0 1)), none, none, none] [] A13
      exact q_ret0 rfl (by decide) (by decide) (by decide +kernel) ⟨rfl, h⟩
theorem f_X2_movePortion_30 {G : q_G} {X : String → q_H → Prop} {f : q_H → Prop} {A : q_H} {a0 : Nat} {x1 : Int32} {a2 : Nat} {x3 : Int32} {x4 : Int32} {x5 : Int32} (h : q_sh A a0 = (3, 0) ∧ ∃ r2 : Nat, q_R A a0 0 = some r2 ∧ ∃ z5 : Nat, q_sh A r2 = (50, z5) ∧ z5 < 2147483648 ∧ (((nI z5) ≤ x5 → q_Wp G M_X2_movePortion (q_KV f) X 0 0 78 [some (.ref a0), none, some (.ref a2), none, some (.int x4), some (.int (nI 0)), none] [] A) ∧ (¬ (nI z5) ≤ x5 → ∃ j8 : Nat, x5 = nI j8 ∧ j8 < z5 ∧ (¬ x3 = nI 0) ∧ q_Wc G M_X2_move [.ref a0, .int x5, .int (((q_I A r2 j8) * x1) / x3), .ref a2] A (q_KV fun A12 => q_Wp G M_X2_movePortion (q_KV f) X 0 0 30 [some (.ref a0), some (.int x1), some (.ref a2), some (.int x3), some (.int (x4 - (((q_I A r2 j8) * x1) / x3))), some (.int (x5 + (nI 1))), none] [] A12) q_nX))) : q_Wp G M_X2_movePortion (q_KV f) X 0 0 30 [some (.ref a0), some (.int x1), some (.ref a2), some (.int x3), some (.int x4), some (.int x5), none] [] A := by
  refine q_blk (pc' := 33) (lo' := [some (.ref a0), some (.int x1), some (.ref a2), some (.int x3), some (.int x4), some (.int x5), none]) (st' := [.ref a0, .int x5]) [.iload 5, .aload_n 0] (by decide +kernel) rfl ?_
  obtain ⟨s1, h⟩ := h
  obtain ⟨r2, e3, h⟩ := h
  refine q_getR fl_X2_9 rfl (by decide) (by decide +kernel) s1 e3 ?_
  obtain ⟨z5, s4, b6, h⟩ := h
  refine q_alenI (by decide +kernel) s4 ?_
  refine q_icmp_ge 75 (off := 38) (by decide +kernel) (by decide) (fun c7 => ?_) (fun c7 => ?_)
  · have h := h.1 c7
    refine q_blk (pc' := 78) (lo' := [some (.ref a0), some (.int x1), some (.ref a2), some (.int x3), some (.int x4), some (.int (nI 0)), none]) (st' := []) [.iconst 0, .istore 5] (by decide +kernel) rfl ?_
    exact q_wk [some (.ref a0), none, some (.ref a2), none, some (.int x4), some (.int (nI 0)), none] (And.intro rfl (And.intro rfl (And.intro rfl (And.intro rfl trivial)))) h
  · have h := h.2 c7
    refine q_blk (pc' := 41) (lo' := [some (.ref a0), some (.int x1), some (.ref a2), some (.int x3), some (.int x4), some (.int x5), none]) (st' := [.ref a0]) [.aload_n 0] (by decide +kernel) rfl ?_
    refine q_getR fl_X2_9 rfl (by decide) (by decide +kernel) s1 e3 ?_
    refine q_blk (pc' := 46) (lo' := [some (.ref a0), some (.int x1), some (.ref a2), some (.int x3), some (.int x4), some (.int x5), none]) (st' := [.int x5, .ref r2]) [.iload 5] (by decide +kernel) rfl ?_
    obtain ⟨j8, e9, h⟩ := h
    obtain ⟨l10, h⟩ := h
    refine q_iald e9 (by decide +kernel) s4 l10 b6 ?_
    refine q_blk (pc' := 50) (lo' := [some (.ref a0), some (.int x1), some (.ref a2), some (.int x3), some (.int x4), some (.int x5), none]) (st' := [.int x3, .int ((q_I A r2 j8) * x1)]) [.iload_n 1, .imul, .iload_n 3] (by decide +kernel) rfl ?_
    obtain ⟨d11, h⟩ := h
    refine q_idiv (by decide +kernel) d11 ?_
    refine q_blk (pc' := 59) (lo' := [some (.ref a0), some (.int x1), some (.ref a2), some (.int x3), some (.int x4), some (.int x5), some (.int (((q_I A r2 j8) * x1) / x3))]) (st' := [.ref a2, .int (((q_I A r2 j8) * x1) / x3), .int x5, .ref a0]) [.istore 6, .aload_n 0, .iload 5, .iload 6, .aload_n 2] (by decide +kernel) rfl ?_
    refine q_callV (ci := 2) (Mc := M_X2_move) (z := 3) (b := a0) (As := [.int x5, .int (((q_I A r2 j8) * x1) / x3), .ref a2]) (st := []) mo_X2_move mi_X2_move ml_X2_38_X2_move rfl rfl (by decide) rfl (by decide) (by decide) rfl (Nat.le_of_ble_eq_true rfl) (by decide +kernel) s1 h (q_fV fun A12 h => ?_)
    show q_Wp _ _ _ _ 0 0 62 [some (.ref a0), some (.int x1), some (.ref a2), some (.int x3), some (.int x4), some (.int x5), some (.int (((q_I A r2 j8) * x1) / x3))] [] A12
    refine q_blk (pc' := 72) (lo' := [some (.ref a0), some (.int x1), some (.ref a2), some (.int x3), some (.int (x4 - (((q_I A r2 j8) * x1) / x3))), some (.int (x5 + (nI 1))), some (.int (((q_I A r2 j8) * x1) / x3))]) (st' := []) [.iload 4, .iload 6, .isub, .istore 4, .iinc 5 1] (by decide +kernel) rfl ?_
    refine q_goto 30 (off := -42) (by decide +kernel) (by decide) ?_
    exact q_wk [some (.ref a0), some (.int x1), some (.ref a2), some (.int x3), some (.int (x4 - (((q_I A r2 j8) * x1) / x3))), some (.int (x5 + (nI 1))), none] (And.intro rfl (And.intro rfl (And.intro rfl (And.intro rfl (And.intro rfl (And.intro rfl trivial)))))) h
theorem f_X2_movePortion_78 {G : q_G} {X : String → q_H → Prop} {f : q_H → Prop} {A : q_H} {a0 : Nat} {a2 : Nat} {x4 : Int32} {x5 : Int32} (h : ((x4 ≤ x5 → f A) ∧ (¬ x4 ≤ x5 → q_sh A a0 = (3, 0) ∧ q_Wc G M_X2_mostBut [.ref a0, .int (-1)] A (q_KI fun r3 A2 => q_sh A2 a0 = (3, 0) ∧ q_Wc G M_X2_move [.ref a0, .int r3, .int (nI 1), .ref a2] A2 (q_KV fun A5 => q_Wp G M_X2_movePortion (q_KV f) X 0 0 78 [some (.ref a0), none, some (.ref a2), none, some (.int x4), some (.int (x5 + (nI 1))), none] [] A5) q_nX) q_nX))) : q_Wp G M_X2_movePortion (q_KV f) X 0 0 78 [some (.ref a0), none, some (.ref a2), none, some (.int x4), some (.int x5), none] [] A := by
  refine q_blk (pc' := 82) (lo' := [some (.ref a0), none, some (.ref a2), none, some (.int x4), some (.int x5), none]) (st' := [.int x4, .int x5]) [.iload 5, .iload 4] (by decide +kernel) rfl ?_
  refine q_icmp_ge 102 (off := 20) (by decide +kernel) (by decide) (fun c1 => ?_) (fun c1 => ?_)
  · have h := h.1 c1
    exact q_ret0 rfl (by decide) (by decide) (by decide +kernel) ⟨rfl, h⟩
  · have h := h.2 c1
    refine q_blk (pc' := 88) (lo' := [some (.ref a0), none, some (.ref a2), none, some (.int x4), some (.int x5), none]) (st' := [.int (-1), .ref a0, .ref a0]) [.aload_n 0, .aload_n 0, .iconst (-1)] (by decide +kernel) rfl ?_
    obtain ⟨s4, h⟩ := h
    refine q_callV (ci := 2) (Mc := M_X2_mostBut) (z := 1) (b := a0) (As := [.int (-1)]) (st := [.ref a0]) mo_X2_mostBut mi_X2_mostBut ml_X2_42_X2_mostBut rfl rfl (by decide) rfl (by decide) (by decide) rfl (Nat.le_of_ble_eq_true rfl) (by decide +kernel) s4 h (q_fI fun r3 A2 h => ?_)
    show q_Wp _ _ _ _ 0 0 91 [some (.ref a0), none, some (.ref a2), none, some (.int x4), some (.int x5), none] [.int r3, .ref a0] A2
    refine q_blk (pc' := 93) (lo' := [some (.ref a0), none, some (.ref a2), none, some (.int x4), some (.int x5), none]) (st' := [.ref a2, .int (nI 1), .int r3, .ref a0]) [.iconst 1, .aload_n 2] (by decide +kernel) rfl ?_
    obtain ⟨s7, h⟩ := h
    refine q_callV (ci := 2) (Mc := M_X2_move) (z := 3) (b := a0) (As := [.int r3, .int (nI 1), .ref a2]) (st := []) mo_X2_move mi_X2_move ml_X2_38_X2_move rfl rfl (by decide) rfl (by decide) (by decide) rfl (Nat.le_of_ble_eq_true rfl) (by decide +kernel) s7 h (q_fV fun A5 h => ?_)
    show q_Wp _ _ _ _ 0 0 96 [some (.ref a0), none, some (.ref a2), none, some (.int x4), some (.int x5), none] [] A5
    refine q_blk (pc' := 99) (lo' := [some (.ref a0), none, some (.ref a2), none, some (.int x4), some (.int (x5 + (nI 1))), none]) (st' := []) [.iinc 5 1] (by decide +kernel) rfl ?_
    refine q_goto 78 (off := -21) (by decide +kernel) (by decide) ?_
    exact h
theorem f_X2_mostBut_0 {G : q_G} {X : String → q_H → Prop} {f : Int32 → q_H → Prop} {A : q_H} {a0 : Nat} {x1 : Int32} (h : q_Wp G M_X2_mostBut (q_KI f) X 0 0 7 [some (.ref a0), some (.int x1), some (.int (-1)), some (.int (-1)), some (.int (nI 0))] [] A) : q_Wc G M_X2_mostBut [.ref a0, .int x1] A (q_KI f) X := by
  refine q_Wc.of [some (.ref a0), some (.int x1), none, none, none] mo_X2_mostBut.2.2.2.2.2 rfl (Nat.le_of_ble_eq_true rfl) rfl ?_
  refine q_blk (pc' := 7) (lo' := [some (.ref a0), some (.int x1), some (.int (-1)), some (.int (-1)), some (.int (nI 0))]) (st' := []) [.iconst (-1), .istore_n 2, .iconst (-1), .istore_n 3, .iconst 0, .istore 4] (by decide +kernel) rfl ?_
  exact h
theorem f_X2_mostBut_7 {G : q_G} {X : String → q_H → Prop} {f : Int32 → q_H → Prop} {A : q_H} {a0 : Nat} {x1 : Int32} {x2 : Int32} {x3 : Int32} {x4 : Int32} (h : q_sh A a0 = (3, 0) ∧ ∃ r2 : Nat, q_R A a0 0 = some r2 ∧ ∃ z5 : Nat, q_sh A r2 = (50, z5) ∧ z5 < 2147483648 ∧ (((nI z5) ≤ x4 → f x2 A) ∧ (¬ (nI z5) ≤ x4 → ((x4 = x1 → q_Wp G M_X2_mostBut (q_KI f) X 0 0 7 [some (.ref a0), some (.int x1), some (.int x2), some (.int x3), some (.int (x4 + (nI 1)))] [] A) ∧ (¬ x4 = x1 → ∃ j9 : Nat, x4 = nI j9 ∧ j9 < z5 ∧ (((q_I A r2 j9) ≤ x3 → q_Wp G M_X2_mostBut (q_KI f) X 0 0 7 [some (.ref a0), some (.int x1), some (.int x2), some (.int x3), some (.int (x4 + (nI 1)))] [] A) ∧ (¬ (q_I A r2 j9) ≤ x3 → q_Wp G M_X2_mostBut (q_KI f) X 0 0 7 [some (.ref a0), some (.int x1), some (.int x4), some (.int (q_I A r2 j9)), some (.int (x4 + (nI 1)))] [] A))))))) : q_Wp G M_X2_mostBut (q_KI f) X 0 0 7 [some (.ref a0), some (.int x1), some (.int x2), some (.int x3), some (.int x4)] [] A := by
  refine q_blk (pc' := 10) (lo' := [some (.ref a0), some (.int x1), some (.int x2), some (.int x3), some (.int x4)]) (st' := [.ref a0, .int x4]) [.iload 4, .aload_n 0] (by decide +kernel) rfl ?_
  obtain ⟨s1, h⟩ := h
  obtain ⟨r2, e3, h⟩ := h
  refine q_getR fl_X2_9 rfl (by decide) (by decide +kernel) s1 e3 ?_
  obtain ⟨z5, s4, b6, h⟩ := h
  refine q_alenI (by decide +kernel) s4 ?_
  refine q_icmp_ge 51 (off := 37) (by decide +kernel) (by decide) (fun c7 => ?_) (fun c7 => ?_)
  · have h := h.1 c7
    refine q_blk (pc' := 52) (lo' := [some (.ref a0), some (.int x1), some (.int x2), some (.int x3), some (.int x4)]) (st' := [.int x2]) [.iload_n 2] (by decide +kernel) rfl ?_
    exact q_retI rfl (by decide) (by decide) (by decide +kernel) ⟨_, rfl, h⟩
  · have h := h.2 c7
    refine q_blk (pc' := 20) (lo' := [some (.ref a0), some (.int x1), some (.int x2), some (.int x3), some (.int x4)]) (st' := [.int x1, .int x4]) [.iload 4, .iload_n 1] (by decide +kernel) rfl ?_
    refine q_icmp_eq 45 (off := 25) (by decide +kernel) (by decide) (fun c8 => ?_) (fun c8 => ?_)
    · have h := h.1 c8
      refine q_blk (pc' := 48) (lo' := [some (.ref a0), some (.int x1), some (.int x2), some (.int x3), some (.int (x4 + (nI 1)))]) (st' := []) [.iinc 4 1] (by decide +kernel) rfl ?_
      refine q_goto 7 (off := -41) (by decide +kernel) (by decide) ?_
      exact h
    · have h := h.2 c8
      refine q_blk (pc' := 24) (lo' := [some (.ref a0), some (.int x1), some (.int x2), some (.int x3), some (.int x4)]) (st' := [.ref a0]) [.aload_n 0] (by decide +kernel) rfl ?_
      refine q_getR fl_X2_9 rfl (by decide) (by decide +kernel) s1 e3 ?_
      refine q_blk (pc' := 29) (lo' := [some (.ref a0), some (.int x1), some (.int x2), some (.int x3), some (.int x4)]) (st' := [.int x4, .ref r2]) [.iload 4] (by decide +kernel) rfl ?_
      obtain ⟨j9, e10, h⟩ := h
      obtain ⟨l11, h⟩ := h
      refine q_iald e10 (by decide +kernel) s4 l11 b6 ?_
      refine q_blk (pc' := 31) (lo' := [some (.ref a0), some (.int x1), some (.int x2), some (.int x3), some (.int x4)]) (st' := [.int x3, .int (q_I A r2 j9)]) [.iload_n 3] (by decide +kernel) rfl ?_
      refine q_icmp_le 45 (off := 14) (by decide +kernel) (by decide) (fun c12 => ?_) (fun c12 => ?_)
      · have h := h.1 c12
        refine q_blk (pc' := 48) (lo' := [some (.ref a0), some (.int x1), some (.int x2), some (.int x3), some (.int (x4 + (nI 1)))]) (st' := []) [.iinc 4 1] (by decide +kernel) rfl ?_
        refine q_goto 7 (off := -41) (by decide +kernel) (by decide) ?_
        exact h
      · have h := h.2 c12
        refine q_blk (pc' := 38) (lo' := [some (.ref a0), some (.int x1), some (.int x4), some (.int x3), some (.int x4)]) (st' := [.ref a0]) [.iload 4, .istore_n 2, .aload_n 0] (by decide +kernel) rfl ?_
        refine q_getR fl_X2_9 rfl (by decide) (by decide +kernel) s1 e3 ?_
        refine q_blk (pc' := 43) (lo' := [some (.ref a0), some (.int x1), some (.int x4), some (.int x3), some (.int x4)]) (st' := [.int x4, .ref r2]) [.iload 4] (by decide +kernel) rfl ?_
        refine q_iald e10 (by decide +kernel) s4 l11 b6 ?_
        refine q_blk (pc' := 48) (lo' := [some (.ref a0), some (.int x1), some (.int x4), some (.int (q_I A r2 j9)), some (.int (x4 + (nI 1)))]) (st' := []) [.istore_n 3, .iinc 4 1] (by decide +kernel) rfl ?_
        refine q_goto 7 (off := -41) (by decide +kernel) (by decide) ?_
        exact h
end
section
/-! CONDITIONS: Parcel, Hopper, Station, Bale, Stock, Buyer, Tally -/
theorem f_X5_init_0 {G : q_G} {X : String → q_H → Prop} {f : q_H → Prop} {A : q_H} {a0 : Nat} (h : q_Wc G M_X2_init [.ref (q_sz A)] (q_new A 3 0) (q_KV fun A2 => q_sh A2 a0 = (6, 0) ∧ f (q_setR A2 a0 0 (some (q_sz A)))) q_nX) : q_Wc G M_X5_init [.ref a0] A (q_KV f) X := by
  refine q_Wc.of [some (.ref a0)] mo_X5_init.2.2.2.2.2 rfl (Nat.le_of_ble_eq_true rfl) rfl ?_
  refine q_blk (pc' := 1) (lo' := [some (.ref a0)]) (st' := [.ref a0]) [.aload_n 0] (by decide +kernel) rfl ?_
  refine q_obj ob_X5_1.1 ob_X5_1.2.1 ob_X5_1.2.2 (by decide) (Nat.le_of_ble_eq_true rfl) (by decide +kernel) ?_
  refine q_blk (pc' := 5) (lo' := [some (.ref a0)]) (st' := [.ref a0]) [.aload_n 0] (by decide +kernel) rfl ?_
  refine q_newO (idx := 7) ck2 (by decide) kl_X5_7 nw_2.1 nw_2.2 (by decide) (by decide) (by decide +kernel) ?_
  have s1 : q_sh (q_new A 3 0) (q_sz A) = (3, 0) := q_shn _ _ _
  refine q_blk (pc' := 9) (lo' := [some (.ref a0)]) (st' := [.ref (q_sz A), .ref (q_sz A), .ref a0]) [.dup] (by decide +kernel) rfl ?_
  refine q_callI (Mc := M_X2_init) (z := 0) (b := (q_sz A)) (As := []) (st := [.ref (q_sz A), .ref a0]) mo_X2_init mi0_X2_init mI_X5_9_X2_init rfl rfl rfl rfl (by decide) (by decide) rfl (Nat.le_of_ble_eq_true rfl) (by decide +kernel) h (q_fV fun A2 h => ?_)
  show q_Wp _ _ _ _ 2 8 12 [some (.ref a0)] [.ref (q_sz A), .ref a0] A2
  obtain ⟨s4, h⟩ := h
  refine q_putP (v := (some (q_sz A))) fp_X5_10 rfl rfl (by decide) (by decide +kernel) s4 ?_
  exact q_ret0 rfl (by decide) (by decide) (by decide +kernel) ⟨rfl, h⟩
theorem f_X5_copyFrom_0 {G : q_G} {X : String → q_H → Prop} {f : q_H → Prop} {A : q_H} {a0 : Nat} {a1 : Nat} (h : q_sh A a0 = (6, 0) ∧ ∃ r2 : Nat, q_R A a0 0 = some r2 ∧ q_sh A a1 = (6, 0) ∧ ∃ r5 : Nat, q_R A a1 0 = some r5 ∧ q_sh A r2 = (3, 0) ∧ q_Wc G M_X2_copyFrom [.ref r2, .ref r5] A (q_KV fun A7 => q_sh A7 a1 = (6, 0) ∧ q_sh A7 a0 = (6, 0) ∧ f (q_setI A7 a0 1 (q_I A7 a1 1))) q_nX) : q_Wc G M_X5_copyFrom [.ref a0, .ref a1] A (q_KV f) X := by
  refine q_Wc.of [some (.ref a0), some (.ref a1)] mo_X5_copyFrom.2.2.2.2.2 rfl (Nat.le_of_ble_eq_true rfl) rfl ?_
  refine q_blk (pc' := 1) (lo' := [some (.ref a0), some (.ref a1)]) (st' := [.ref a0]) [.aload_n 0] (by decide +kernel) rfl ?_
  obtain ⟨s1, h⟩ := h
  obtain ⟨r2, e3, h⟩ := h
  refine q_getR fl_X5_10 rfl (by decide) (by decide +kernel) s1 e3 ?_
  refine q_blk (pc' := 5) (lo' := [some (.ref a0), some (.ref a1)]) (st' := [.ref a1, .ref r2]) [.aload_n 1] (by decide +kernel) rfl ?_
  obtain ⟨s4, h⟩ := h
  obtain ⟨r5, e6, h⟩ := h
  refine q_getR fl_X5_10 rfl (by decide) (by decide +kernel) s4 e6 ?_
  obtain ⟨s9, h⟩ := h
  refine q_callV (ci := 2) (Mc := M_X2_copyFrom) (z := 1) (b := r2) (As := [.ref r5]) (st := []) mo_X2_copyFrom mi_X2_copyFrom ml_X5_16_X2_copyFrom rfl rfl (by decide) rfl (by decide) (by decide) rfl (Nat.le_of_ble_eq_true rfl) (by decide +kernel) s9 h (q_fV fun A7 h => ?_)
  show q_Wp _ _ _ _ 0 0 11 [some (.ref a0), some (.ref a1)] [] A7
  refine q_blk (pc' := 13) (lo' := [some (.ref a0), some (.ref a1)]) (st' := [.ref a1, .ref a0]) [.aload_n 0, .aload_n 1] (by decide +kernel) rfl ?_
  obtain ⟨s10, h⟩ := h
  refine q_getI fl_X5_20 rfl (by decide) (by decide +kernel) s10 ?_
  obtain ⟨s11, h⟩ := h
  refine q_putI fw_X5_20 rfl (by decide) (by decide +kernel) s11 ?_
  exact q_ret0 rfl (by decide) (by decide) (by decide +kernel) ⟨rfl, h⟩
theorem f_X3_init_0 {G : q_G} {X : String → q_H → Prop} {f : q_H → Prop} {A : q_H} {a0 : Nat} (h : q_sh (q_new A 65 30) a0 = (4, 0) ∧ q_Wp G M_X3_init (q_KV f) X 1 30 15 [some (.ref a0), some (.int (nI 0))] [] (q_setR (q_new A 65 30) a0 0 (some (q_sz A)))) : q_Wc G M_X3_init [.ref a0] A (q_KV f) X := by
  refine q_Wc.of [some (.ref a0), none] mo_X3_init.2.2.2.2.2 rfl (Nat.le_of_ble_eq_true rfl) rfl ?_
  refine q_blk (pc' := 1) (lo' := [some (.ref a0), none]) (st' := [.ref a0]) [.aload_n 0] (by decide +kernel) rfl ?_
  refine q_obj ob_X3_3.1 ob_X3_3.2.1 ob_X3_3.2.2 (by decide) (Nat.le_of_ble_eq_true rfl) (by decide +kernel) ?_
  refine q_blk (pc' := 7) (lo' := [some (.ref a0), none]) (st' := [.int (nI 30), .ref a0]) [.aload_n 0, .bipush 30] (by decide +kernel) rfl ?_
  refine q_newR (z := 30) (cc := 5) rfl (q_rk5 G) kl_X3_9 rfl (by decide) (by decide) (by decide) (by decide +kernel) ?_
  have s1 : q_sh (q_new A 65 30) (q_sz A) = (65, 30) := q_shn _ _ _
  obtain ⟨s2, h⟩ := h
  refine q_putP (v := (some (q_sz A))) fp_X3_11 rfl rfl (by decide) (by decide +kernel) s2 ?_
  refine q_blk (pc' := 15) (lo' := [some (.ref a0), some (.int (nI 0))]) (st' := []) [.iconst 0, .istore_n 1] (by decide +kernel) rfl ?_
  exact h
theorem f_X3_init_15 {G : q_G} {X : String → q_H → Prop} {f : q_H → Prop} {A : q_H} {a0 : Nat} {x1 : Int32} {k n : Nat} (h : q_sh A a0 = (4, 0) ∧ ∃ r2 : Nat, q_R A a0 0 = some r2 ∧ ∃ z5 : Nat, q_sh A r2 = (65, z5) ∧ z5 < 2147483648 ∧ (((nI z5) ≤ x1 → (k ≤ 91 ∧ n ≤ 330) ∧ f A) ∧ (¬ (nI z5) ≤ x1 → (k + 1 ≤ 91 ∧ n + 2 ≤ 330) ∧ (k + 1 + 2 ≤ 91 ∧ n + 2 + 8 ≤ 330) ∧ q_Wc G M_X5_init [.ref (q_sz A)] (q_new A 6 0) (q_KV fun A12 => ∃ z15 : Nat, q_sh A12 r2 = (65, z15) ∧ z15 < 2147483648 ∧ ∃ j17 : Nat, x1 = nI j17 ∧ j17 < z15 ∧ q_sh A12 (q_sz A) = (6, 0) ∧ q_Wp G M_X3_init (q_KV f) X (k + 1 + 2) (n + 2 + 8) 15 [some (.ref a0), some (.int (x1 + (nI 1)))] [] (q_setR A12 r2 j17 (some (q_sz A)))) q_nX))) : q_Wp G M_X3_init (q_KV f) X k n 15 [some (.ref a0), some (.int x1)] [] A := by
  refine q_blk (pc' := 17) (lo' := [some (.ref a0), some (.int x1)]) (st' := [.ref a0, .int x1]) [.iload_n 1, .aload_n 0] (by decide +kernel) rfl ?_
  obtain ⟨s1, h⟩ := h
  obtain ⟨r2, e3, h⟩ := h
  refine q_getR fl_X3_11 rfl (by decide) (by decide +kernel) s1 e3 ?_
  obtain ⟨z5, s4, b6, h⟩ := h
  refine q_alenR (q_rk5 G) (by decide +kernel) s4 ?_
  refine q_icmp_ge 43 (off := 22) (by decide +kernel) (by decide) (fun c7 => ?_) (fun c7 => ?_)
  · have h := h.1 c7
    obtain ⟨g8, h⟩ := h
    exact q_ret0 rfl g8.1 g8.2 (by decide +kernel) ⟨rfl, h⟩
  · have h := h.2 c7
    refine q_blk (pc' := 25) (lo' := [some (.ref a0), some (.int x1)]) (st' := [.ref a0]) [.aload_n 0] (by decide +kernel) rfl ?_
    refine q_getR fl_X3_11 rfl (by decide) (by decide +kernel) s1 e3 ?_
    refine q_blk (pc' := 29) (lo' := [some (.ref a0), some (.int x1)]) (st' := [.int x1, .ref r2]) [.iload_n 1] (by decide +kernel) rfl ?_
    obtain ⟨g9, h⟩ := h
    refine q_newO (idx := 9) ck5 (by decide) kl_X3_9 nw_5.1 nw_5.2 g9.1 g9.2 (by decide +kernel) ?_
    have s10 : q_sh (q_new A 6 0) (q_sz A) = (6, 0) := q_shn _ _ _
    refine q_blk (pc' := 33) (lo' := [some (.ref a0), some (.int x1)]) (st' := [.ref (q_sz A), .ref (q_sz A), .int x1, .ref r2]) [.dup] (by decide +kernel) rfl ?_
    obtain ⟨g11, h⟩ := h
    refine q_callI (Mc := M_X5_init) (z := 0) (b := (q_sz A)) (As := []) (st := [.ref (q_sz A), .int x1, .ref r2]) mo_X5_init mi0_X5_init mI_X3_17_X5_init rfl rfl rfl rfl (by decide) g11 rfl (Nat.le_of_ble_eq_true rfl) (by decide +kernel) h (q_fV fun A12 h => ?_)
    show q_Wp _ _ _ _ (k + 1 + 2) (n + 2 + 8) 36 [some (.ref a0), some (.int x1)] [.ref (q_sz A), .int x1, .ref r2] A12
    obtain ⟨z15, s14, b16, h⟩ := h
    obtain ⟨j17, e18, h⟩ := h
    obtain ⟨l19, h⟩ := h
    obtain ⟨s20, h⟩ := h
    refine q_aast (r := some (q_sz A)) (q_rk5 G) (by decide) e18 (by decide +kernel) s14 l19 b16 (fun _ q9 => by cases q9; exact s20) ?_
    refine q_blk (pc' := 40) (lo' := [some (.ref a0), some (.int (x1 + (nI 1)))]) (st' := []) [.iinc 1 1] (by decide +kernel) rfl ?_
    refine q_goto 15 (off := -25) (by decide +kernel) (by decide) ?_
    exact h
theorem f_X3_isFull_0 {G : q_G} {X : String → q_H → Prop} {f : Bool → q_H → Prop} {A : q_H} {a0 : Nat} (h : q_sh A a0 = (4, 0) ∧ (((q_I A a0 2) < (nI 30) → f false A) ∧ (¬ (q_I A a0 2) < (nI 30) → f true A))) : q_Wc G M_X3_isFull [.ref a0] A (q_KB f) X := by
  refine q_Wc.of [some (.ref a0)] mo_X3_isFull.2.2.2.2.2 rfl (Nat.le_of_ble_eq_true rfl) rfl ?_
  refine q_blk (pc' := 1) (lo' := [some (.ref a0)]) (st' := [.ref a0]) [.aload_n 0] (by decide +kernel) rfl ?_
  obtain ⟨s1, h⟩ := h
  refine q_getI fl_X3_18 rfl (by decide) (by decide +kernel) s1 ?_
  refine q_blk (pc' := 6) (lo' := [some (.ref a0)]) (st' := [.int (nI 30), .int (q_I A a0 2)]) [.bipush 30] (by decide +kernel) rfl ?_
  refine q_icmp_lt 13 (off := 7) (by decide +kernel) (by decide) (fun c2 => ?_) (fun c2 => ?_)
  · have h := h.1 c2
    refine q_blk (pc' := 14) (lo' := [some (.ref a0)]) (st' := [.int (nI 0)]) [.iconst 0] (by decide +kernel) rfl ?_
    exact q_retZ (r := q_i false) rfl (q_nz _) (by decide) (by decide) (by decide +kernel) ⟨false, rfl, h⟩
  · have h := h.2 c2
    refine q_blk (pc' := 10) (lo' := [some (.ref a0)]) (st' := [.int (nI 1)]) [.iconst 1] (by decide +kernel) rfl ?_
    refine q_goto 14 (off := 4) (by decide +kernel) (by decide) ?_
    exact q_retZ (r := q_i true) rfl (q_nz _) (by decide) (by decide) (by decide +kernel) ⟨true, rfl, h⟩
theorem f_X3_parcelAt_0 {G : q_G} {X : String → q_H → Prop} {f : Option Nat → q_H → Prop} {A : q_H} {a0 : Nat} {x1 : Int32} (h : ((x1 < nI 0 → f none A) ∧ (¬ x1 < nI 0 → q_sh A a0 = (4, 0) ∧ ((x1 < (q_I A a0 2) → ∃ r4 : Nat, q_R A a0 0 = some r4 ∧ ∃ z7 : Nat, q_sh A r4 = (65, z7) ∧ z7 < 2147483648 ∧ ∃ j9 : Nat, (((q_I A a0 1) + x1) - ((q_I A a0 1) + x1) / (nI 30) * (nI 30)) = nI j9 ∧ j9 < z7 ∧ ∃ r12 : Nat, q_R A r4 j9 = some r12 ∧ f (some r12) A) ∧ (¬ x1 < (q_I A a0 2) → f none A))))) : q_Wc G M_X3_parcelAt [.ref a0, .int x1] A (q_KR f) X := by
  refine q_Wc.of [some (.ref a0), some (.int x1)] mo_X3_parcelAt.2.2.2.2.2 rfl (Nat.le_of_ble_eq_true rfl) rfl ?_
  refine q_blk (pc' := 1) (lo' := [some (.ref a0), some (.int x1)]) (st' := [.int x1]) [.iload_n 1] (by decide +kernel) rfl ?_
  refine q_if_lt 12 (off := 11) (by decide +kernel) (by decide) (fun c1 => ?_) (fun c1 => ?_)
  · have h := h.1 c1
    refine q_blk (pc' := 13) (lo' := [some (.ref a0), some (.int x1)]) (st' := [.null]) [.aconst_null] (by decide +kernel) rfl ?_
    exact q_retR (r := none) rfl (Or.inl ⟨_, rfl⟩) (by decide) (by decide) (by decide +kernel) ⟨_, rfl, h⟩
  · have h := h.2 c1
    refine q_blk (pc' := 6) (lo' := [some (.ref a0), some (.int x1)]) (st' := [.ref a0, .int x1]) [.iload_n 1, .aload_n 0] (by decide +kernel) rfl ?_
    obtain ⟨s2, h⟩ := h
    refine q_getI fl_X3_18 rfl (by decide) (by decide +kernel) s2 ?_
    refine q_icmp_lt 14 (off := 5) (by decide +kernel) (by decide) (fun c3 => ?_) (fun c3 => ?_)
    · have h := h.1 c3
      refine q_blk (pc' := 15) (lo' := [some (.ref a0), some (.int x1)]) (st' := [.ref a0]) [.aload_n 0] (by decide +kernel) rfl ?_
      obtain ⟨r4, e5, h⟩ := h
      refine q_getR fl_X3_11 rfl (by decide) (by decide +kernel) s2 e5 ?_
      refine q_blk (pc' := 19) (lo' := [some (.ref a0), some (.int x1)]) (st' := [.ref a0, .ref r4]) [.aload_n 0] (by decide +kernel) rfl ?_
      refine q_getI fl_X3_22 rfl (by decide) (by decide +kernel) s2 ?_
      refine q_blk (pc' := 26) (lo' := [some (.ref a0), some (.int x1)]) (st' := [.int (nI 30), .int ((q_I A a0 1) + x1), .ref r4]) [.iload_n 1, .iadd, .bipush 30] (by decide +kernel) rfl ?_
      refine q_irem (by decide +kernel) (by decide) ?_
      obtain ⟨z7, s6, b8, h⟩ := h
      obtain ⟨j9, e10, h⟩ := h
      obtain ⟨l11, h⟩ := h
      obtain ⟨r12, e13, h⟩ := h
      refine q_aaldS (q_rk5 G) e10 (by decide +kernel) s6 l11 b8 e13 ?_
      exact q_retR (r := (some r12)) rfl (Or.inl ⟨_, rfl⟩) (by decide) (by decide) (by decide +kernel) ⟨_, rfl, h⟩
    · have h := h.2 c3
      refine q_blk (pc' := 13) (lo' := [some (.ref a0), some (.int x1)]) (st' := [.null]) [.aconst_null] (by decide +kernel) rfl ?_
      exact q_retR (r := none) rfl (Or.inl ⟨_, rfl⟩) (by decide) (by decide) (by decide +kernel) ⟨_, rfl, h⟩
theorem f_X3_addLast_0 {G : q_G} {X : String → q_H → Prop} {f : Option Nat → q_H → Prop} {A : q_H} {a0 : Nat} {x1 : Int32} (h : q_sh A a0 = (4, 0) ∧ q_Wc G M_X3_isFull [.ref a0] A (q_KB fun b2 A1 => ((b2 = true → f none A1) ∧ (b2 = false → q_sh A1 a0 = (4, 0) ∧ ∃ r7 : Nat, q_R A1 a0 0 = some r7 ∧ ∃ z10 : Nat, q_sh A1 r7 = (65, z10) ∧ z10 < 2147483648 ∧ ∃ j12 : Nat, (((q_I A1 a0 1) + (q_I A1 a0 2)) - ((q_I A1 a0 1) + (q_I A1 a0 2)) / (nI 30) * (nI 30)) = nI j12 ∧ j12 < z10 ∧ ∃ r15 : Nat, q_R A1 r7 j12 = some r15 ∧ q_sh A1 r15 = (6, 0) ∧ ∃ r18 : Nat, q_R A1 r15 0 = some r18 ∧ q_sh A1 r18 = (3, 0) ∧ q_Wc G M_X2_clear [.ref r18] A1 (q_KV fun A20 => q_sh A20 r15 = (6, 0) ∧ q_sh A20 a0 = (4, 0) ∧ f (some r15) (q_setI (q_setI A20 r15 1 x1) a0 2 ((q_I (q_setI A20 r15 1 x1) a0 2) + (nI 1)))) q_nX))) q_nX) : q_Wc G M_X3_addLast [.ref a0, .int x1] A (q_KR f) X := by
  refine q_Wc.of [some (.ref a0), some (.int x1), none] mo_X3_addLast.2.2.2.2.2 rfl (Nat.le_of_ble_eq_true rfl) rfl ?_
  refine q_blk (pc' := 1) (lo' := [some (.ref a0), some (.int x1), none]) (st' := [.ref a0]) [.aload_n 0] (by decide +kernel) rfl ?_
  obtain ⟨s3, h⟩ := h
  refine q_callV (ci := 3) (Mc := M_X3_isFull) (z := 0) (b := a0) (As := []) (st := []) mo_X3_isFull mi_X3_isFull ml_X3_25_X3_isFull rfl rfl (by decide) rfl (by decide) (by decide) rfl (Nat.le_of_ble_eq_true rfl) (by decide +kernel) s3 h (q_fB fun b2 A1 h => ?_)
  show q_Wp _ _ _ _ 0 0 4 [some (.ref a0), some (.int x1), none] [.int (q_i b2)] A1
  refine q_ifB_eq 9 (off := 5) (by decide +kernel) (by decide) (fun c4 => ?_) (fun c4 => ?_)
  · have h := h.2 c4
    refine q_blk (pc' := 10) (lo' := [some (.ref a0), some (.int x1), none]) (st' := [.ref a0]) [.aload_n 0] (by decide +kernel) rfl ?_
    obtain ⟨s6, h⟩ := h
    obtain ⟨r7, e8, h⟩ := h
    refine q_getR fl_X3_11 rfl (by decide) (by decide +kernel) s6 e8 ?_
    refine q_blk (pc' := 14) (lo' := [some (.ref a0), some (.int x1), none]) (st' := [.ref a0, .ref r7]) [.aload_n 0] (by decide +kernel) rfl ?_
    refine q_getI fl_X3_22 rfl (by decide) (by decide +kernel) s6 ?_
    refine q_blk (pc' := 18) (lo' := [some (.ref a0), some (.int x1), none]) (st' := [.ref a0, .int (q_I A1 a0 1), .ref r7]) [.aload_n 0] (by decide +kernel) rfl ?_
    refine q_getI fl_X3_18 rfl (by decide) (by decide +kernel) s6 ?_
    refine q_blk (pc' := 24) (lo' := [some (.ref a0), some (.int x1), none]) (st' := [.int (nI 30), .int ((q_I A1 a0 1) + (q_I A1 a0 2)), .ref r7]) [.iadd, .bipush 30] (by decide +kernel) rfl ?_
    refine q_irem (by decide +kernel) (by decide) ?_
    obtain ⟨z10, s9, b11, h⟩ := h
    obtain ⟨j12, e13, h⟩ := h
    obtain ⟨l14, h⟩ := h
    obtain ⟨r15, e16, h⟩ := h
    refine q_aaldS (q_rk5 G) e13 (by decide +kernel) s9 l14 b11 e16 ?_
    refine q_blk (pc' := 28) (lo' := [some (.ref a0), some (.int x1), some (.ref r15)]) (st' := [.ref r15]) [.astore_n 2, .aload_n 2] (by decide +kernel) rfl ?_
    obtain ⟨s17, h⟩ := h
    obtain ⟨r18, e19, h⟩ := h
    refine q_getR fl_X3_29 rfl (by decide) (by decide +kernel) s17 e19 ?_
    obtain ⟨s22, h⟩ := h
    refine q_callV (ci := 2) (Mc := M_X2_clear) (z := 0) (b := r18) (As := []) (st := []) mo_X2_clear mi_X2_clear ml_X3_33_X2_clear rfl rfl (by decide) rfl (by decide) (by decide) rfl (Nat.le_of_ble_eq_true rfl) (by decide +kernel) s22 h (q_fV fun A20 h => ?_)
    show q_Wp _ _ _ _ 0 0 34 [some (.ref a0), some (.int x1), some (.ref r15)] [] A20
    refine q_blk (pc' := 36) (lo' := [some (.ref a0), some (.int x1), some (.ref r15)]) (st' := [.int x1, .ref r15]) [.aload_n 2, .iload_n 1] (by decide +kernel) rfl ?_
    obtain ⟨s23, h⟩ := h
    refine q_putI fw_X3_38 rfl (by decide) (by decide +kernel) s23 ?_
    refine q_blk (pc' := 41) (lo' := [some (.ref a0), some (.int x1), some (.ref r15)]) (st' := [.ref a0, .ref a0]) [.aload_n 0, .dup] (by decide +kernel) rfl ?_
    obtain ⟨s24, h⟩ := h
    refine q_getI fl_X3_18 rfl (by decide) (by decide +kernel) s24 ?_
    refine q_blk (pc' := 46) (lo' := [some (.ref a0), some (.int x1), some (.ref r15)]) (st' := [.int ((q_I (q_setI A20 r15 1 x1) a0 2) + (nI 1)), .ref a0]) [.iconst 1, .iadd] (by decide +kernel) rfl ?_
    refine q_putI fw_X3_18 rfl (by decide) (by decide +kernel) s24 ?_
    refine q_blk (pc' := 50) (lo' := [some (.ref a0), some (.int x1), some (.ref r15)]) (st' := [.ref r15]) [.aload_n 2] (by decide +kernel) rfl ?_
    exact q_retR (r := (some r15)) rfl (Or.inl ⟨_, rfl⟩) (by decide) (by decide) (by decide +kernel) ⟨_, rfl, h⟩
  · have h := h.1 c4
    refine q_blk (pc' := 8) (lo' := [some (.ref a0), some (.int x1), none]) (st' := [.null]) [.aconst_null] (by decide +kernel) rfl ?_
    exact q_retR (r := none) rfl (Or.inl ⟨_, rfl⟩) (by decide) (by decide) (by decide +kernel) ⟨_, rfl, h⟩
theorem f_X3_dropFirst_0 {G : q_G} {X : String → q_H → Prop} {f : q_H → Prop} {A : q_H} {a0 : Nat} (h : q_sh A a0 = (4, 0) ∧ (((q_I A a0 2) ≤ nI 0 → f A) ∧ (¬ (q_I A a0 2) ≤ nI 0 → (∀ A3 : q_H, A3 = (q_setI (q_setI A a0 1 (((q_I A a0 1) + (nI 1)) - ((q_I A a0 1) + (nI 1)) / (nI 30) * (nI 30))) a0 2 ((q_I (q_setI A a0 1 (((q_I A a0 1) + (nI 1)) - ((q_I A a0 1) + (nI 1)) / (nI 30) * (nI 30))) a0 2) - (nI 1))) → f A3)))) : q_Wc G M_X3_dropFirst [.ref a0] A (q_KV f) X := by
  refine q_Wc.of [some (.ref a0)] mo_X3_dropFirst.2.2.2.2.2 rfl (Nat.le_of_ble_eq_true rfl) rfl ?_
  refine q_blk (pc' := 1) (lo' := [some (.ref a0)]) (st' := [.ref a0]) [.aload_n 0] (by decide +kernel) rfl ?_
  obtain ⟨s1, h⟩ := h
  refine q_getI fl_X3_18 rfl (by decide) (by decide +kernel) s1 ?_
  refine q_if_le 30 (off := 26) (by decide +kernel) (by decide) (fun c2 => ?_) (fun c2 => ?_)
  · have h := h.1 c2
    exact q_ret0 rfl (by decide) (by decide) (by decide +kernel) ⟨rfl, h⟩
  · have h := h.2 c2
    refine q_blk (pc' := 9) (lo' := [some (.ref a0)]) (st' := [.ref a0, .ref a0]) [.aload_n 0, .aload_n 0] (by decide +kernel) rfl ?_
    refine q_getI fl_X3_22 rfl (by decide) (by decide +kernel) s1 ?_
    refine q_blk (pc' := 16) (lo' := [some (.ref a0)]) (st' := [.int (nI 30), .int ((q_I A a0 1) + (nI 1)), .ref a0]) [.iconst 1, .iadd, .bipush 30] (by decide +kernel) rfl ?_
    refine q_irem (by decide +kernel) (by decide) ?_
    refine q_putI fw_X3_22 rfl (by decide) (by decide +kernel) s1 ?_
    refine q_blk (pc' := 22) (lo' := [some (.ref a0)]) (st' := [.ref a0, .ref a0]) [.aload_n 0, .dup] (by decide +kernel) rfl ?_
    refine q_getI fl_X3_18 rfl (by decide) (by decide +kernel) s1 ?_
    refine q_blk (pc' := 27) (lo' := [some (.ref a0)]) (st' := [.int ((q_I (q_setI A a0 1 (((q_I A a0 1) + (nI 1)) - ((q_I A a0 1) + (nI 1)) / (nI 30) * (nI 30))) a0 2) - (nI 1)), .ref a0]) [.iconst 1, .isub] (by decide +kernel) rfl ?_
    refine q_putI fw_X3_18 rfl (by decide) (by decide +kernel) s1 ?_
    let A3 : q_H := (q_setI (q_setI A a0 1 (((q_I A a0 1) + (nI 1)) - ((q_I A a0 1) + (nI 1)) / (nI 30) * (nI 30))) a0 2 ((q_I (q_setI A a0 1 (((q_I A a0 1) + (nI 1)) - ((q_I A a0 1) + (nI 1)) / (nI 30) * (nI 30))) a0 2) - (nI 1)))
    have h := h A3 rfl
    show q_Wp _ _ _ _ 0 0 30 [some (.ref a0)] [] A3
    exact q_ret0 rfl (by decide) (by decide) (by decide +kernel) ⟨rfl, h⟩
theorem f_X3_dropLast_0 {G : q_G} {X : String → q_H → Prop} {f : q_H → Prop} {A : q_H} {a0 : Nat} (h : q_sh A a0 = (4, 0) ∧ (((q_I A a0 2) ≤ nI 0 → f A) ∧ (¬ (q_I A a0 2) ≤ nI 0 → f (q_setI A a0 2 ((q_I A a0 2) - (nI 1)))))) : q_Wc G M_X3_dropLast [.ref a0] A (q_KV f) X := by
  refine q_Wc.of [some (.ref a0)] mo_X3_dropLast.2.2.2.2.2 rfl (Nat.le_of_ble_eq_true rfl) rfl ?_
  refine q_blk (pc' := 1) (lo' := [some (.ref a0)]) (st' := [.ref a0]) [.aload_n 0] (by decide +kernel) rfl ?_
  obtain ⟨s1, h⟩ := h
  refine q_getI fl_X3_18 rfl (by decide) (by decide +kernel) s1 ?_
  refine q_if_le 17 (off := 13) (by decide +kernel) (by decide) (fun c2 => ?_) (fun c2 => ?_)
  · have h := h.1 c2
    exact q_ret0 rfl (by decide) (by decide) (by decide +kernel) ⟨rfl, h⟩
  · have h := h.2 c2
    refine q_blk (pc' := 9) (lo' := [some (.ref a0)]) (st' := [.ref a0, .ref a0]) [.aload_n 0, .dup] (by decide +kernel) rfl ?_
    refine q_getI fl_X3_18 rfl (by decide) (by decide +kernel) s1 ?_
    refine q_blk (pc' := 14) (lo' := [some (.ref a0)]) (st' := [.int ((q_I A a0 2) - (nI 1)), .ref a0]) [.iconst 1, .isub] (by decide +kernel) rfl ?_
    refine q_putI fw_X3_18 rfl (by decide) (by decide +kernel) s1 ?_
    exact q_ret0 rfl (by decide) (by decide) (by decide +kernel) ⟨rfl, h⟩
theorem f_X3_totalMass_0 {G : q_G} {X : String → q_H → Prop} {f : Int32 → q_H → Prop} {A : q_H} {a0 : Nat} (h : q_Wp G M_X3_totalMass (q_KI f) X 0 0 4 [some (.ref a0), some (.int (nI 0)), some (.int (nI 0))] [] A) : q_Wc G M_X3_totalMass [.ref a0] A (q_KI f) X := by
  refine q_Wc.of [some (.ref a0), none, none] mo_X3_totalMass.2.2.2.2.2 rfl (Nat.le_of_ble_eq_true rfl) rfl ?_
  refine q_blk (pc' := 4) (lo' := [some (.ref a0), some (.int (nI 0)), some (.int (nI 0))]) (st' := []) [.iconst 0, .istore_n 1, .iconst 0, .istore_n 2] (by decide +kernel) rfl ?_
  exact h
theorem f_X3_totalMass_4 {G : q_G} {X : String → q_H → Prop} {f : Int32 → q_H → Prop} {A : q_H} {a0 : Nat} {x1 : Int32} {x2 : Int32} (h : q_sh A a0 = (4, 0) ∧ (((q_I A a0 2) ≤ x2 → f x1 A) ∧ (¬ (q_I A a0 2) ≤ x2 → ∃ r3 : Nat, q_R A a0 0 = some r3 ∧ ∃ z6 : Nat, q_sh A r3 = (65, z6) ∧ z6 < 2147483648 ∧ ∃ j8 : Nat, (((q_I A a0 1) + x2) - ((q_I A a0 1) + x2) / (nI 30) * (nI 30)) = nI j8 ∧ j8 < z6 ∧ ∃ r11 : Nat, q_R A r3 j8 = some r11 ∧ q_sh A r11 = (6, 0) ∧ ∃ r14 : Nat, q_R A r11 0 = some r14 ∧ q_sh A r14 = (3, 0) ∧ q_Wp G M_X3_totalMass (q_KI f) X 0 0 4 [some (.ref a0), some (.int (x1 + (q_I A r14 1))), some (.int (x2 + (nI 1)))] [] A))) : q_Wp G M_X3_totalMass (q_KI f) X 0 0 4 [some (.ref a0), some (.int x1), some (.int x2)] [] A := by
  refine q_blk (pc' := 6) (lo' := [some (.ref a0), some (.int x1), some (.int x2)]) (st' := [.ref a0, .int x2]) [.iload_n 2, .aload_n 0] (by decide +kernel) rfl ?_
  obtain ⟨s1, h⟩ := h
  refine q_getI fl_X3_18 rfl (by decide) (by decide +kernel) s1 ?_
  refine q_icmp_ge 41 (off := 32) (by decide +kernel) (by decide) (fun c2 => ?_) (fun c2 => ?_)
  · have h := h.1 c2
    refine q_blk (pc' := 42) (lo' := [some (.ref a0), some (.int x1), some (.int x2)]) (st' := [.int x1]) [.iload_n 1] (by decide +kernel) rfl ?_
    exact q_retI rfl (by decide) (by decide) (by decide +kernel) ⟨_, rfl, h⟩
  · have h := h.2 c2
    refine q_blk (pc' := 14) (lo' := [some (.ref a0), some (.int x1), some (.int x2)]) (st' := [.ref a0, .int x1]) [.iload_n 1, .aload_n 0] (by decide +kernel) rfl ?_
    obtain ⟨r3, e4, h⟩ := h
    refine q_getR fl_X3_11 rfl (by decide) (by decide +kernel) s1 e4 ?_
    refine q_blk (pc' := 18) (lo' := [some (.ref a0), some (.int x1), some (.int x2)]) (st' := [.ref a0, .ref r3, .int x1]) [.aload_n 0] (by decide +kernel) rfl ?_
    refine q_getI fl_X3_22 rfl (by decide) (by decide +kernel) s1 ?_
    refine q_blk (pc' := 25) (lo' := [some (.ref a0), some (.int x1), some (.int x2)]) (st' := [.int (nI 30), .int ((q_I A a0 1) + x2), .ref r3, .int x1]) [.iload_n 2, .iadd, .bipush 30] (by decide +kernel) rfl ?_
    refine q_irem (by decide +kernel) (by decide) ?_
    obtain ⟨z6, s5, b7, h⟩ := h
    obtain ⟨j8, e9, h⟩ := h
    obtain ⟨l10, h⟩ := h
    obtain ⟨r11, e12, h⟩ := h
    refine q_aaldS (q_rk5 G) e9 (by decide +kernel) s5 l10 b7 e12 ?_
    obtain ⟨s13, h⟩ := h
    obtain ⟨r14, e15, h⟩ := h
    refine q_getR fl_X3_29 rfl (by decide) (by decide +kernel) s13 e15 ?_
    obtain ⟨s16, h⟩ := h
    refine q_getI fl_X3_41 rfl (by decide) (by decide +kernel) s16 ?_
    refine q_blk (pc' := 38) (lo' := [some (.ref a0), some (.int (x1 + (q_I A r14 1))), some (.int (x2 + (nI 1)))]) (st' := []) [.iadd, .istore_n 1, .iinc 2 1] (by decide +kernel) rfl ?_
    refine q_goto 4 (off := -34) (by decide +kernel) (by decide) ?_
    exact h
theorem f_X3_copyFrom_0 {G : q_G} {X : String → q_H → Prop} {f : q_H → Prop} {A : q_H} {a0 : Nat} {a1 : Nat} (h : q_sh A a0 = (4, 0) ∧ q_sh A a1 = (4, 0) ∧ q_Wp G M_X3_copyFrom (q_KV f) X 0 0 15 [some (.ref a0), some (.ref a1), some (.int (nI 0))] [] (q_setI (q_setI A a0 1 (nI 0)) a0 2 (q_I (q_setI A a0 1 (nI 0)) a1 2))) : q_Wc G M_X3_copyFrom [.ref a0, .ref a1] A (q_KV f) X := by
  refine q_Wc.of [some (.ref a0), some (.ref a1), none] mo_X3_copyFrom.2.2.2.2.2 rfl (Nat.le_of_ble_eq_true rfl) rfl ?_
  refine q_blk (pc' := 2) (lo' := [some (.ref a0), some (.ref a1), none]) (st' := [.int (nI 0), .ref a0]) [.aload_n 0, .iconst 0] (by decide +kernel) rfl ?_
  obtain ⟨s1, h⟩ := h
  refine q_putI fw_X3_22 rfl (by decide) (by decide +kernel) s1 ?_
  refine q_blk (pc' := 7) (lo' := [some (.ref a0), some (.ref a1), none]) (st' := [.ref a1, .ref a0]) [.aload_n 0, .aload_n 1] (by decide +kernel) rfl ?_
  obtain ⟨s2, h⟩ := h
  refine q_getI fl_X3_18 rfl (by decide) (by decide +kernel) s2 ?_
  refine q_putI fw_X3_18 rfl (by decide) (by decide +kernel) s1 ?_
  refine q_blk (pc' := 15) (lo' := [some (.ref a0), some (.ref a1), some (.int (nI 0))]) (st' := []) [.iconst 0, .istore_n 2] (by decide +kernel) rfl ?_
  exact h
theorem f_X3_copyFrom_15 {G : q_G} {X : String → q_H → Prop} {f : q_H → Prop} {A : q_H} {a0 : Nat} {a1 : Nat} {x2 : Int32} (h : q_sh A a0 = (4, 0) ∧ (((q_I A a0 2) ≤ x2 → f A) ∧ (¬ (q_I A a0 2) ≤ x2 → ∃ r3 : Nat, q_R A a0 0 = some r3 ∧ ∃ z6 : Nat, q_sh A r3 = (65, z6) ∧ z6 < 2147483648 ∧ ∃ j8 : Nat, x2 = nI j8 ∧ j8 < z6 ∧ ∃ r11 : Nat, q_R A r3 j8 = some r11 ∧ q_sh A a1 = (4, 0) ∧ ∃ r14 : Nat, q_R A a1 0 = some r14 ∧ ∃ z17 : Nat, q_sh A r14 = (65, z17) ∧ z17 < 2147483648 ∧ ∃ j19 : Nat, (((q_I A a1 1) + x2) - ((q_I A a1 1) + x2) / (nI 30) * (nI 30)) = nI j19 ∧ j19 < z17 ∧ ∃ r22 : Nat, q_R A r14 j19 = some r22 ∧ q_sh A r11 = (6, 0) ∧ q_Wc G M_X5_copyFrom [.ref r11, .ref r22] A (q_KV fun A24 => q_Wp G M_X3_copyFrom (q_KV f) X 0 0 15 [some (.ref a0), some (.ref a1), some (.int (x2 + (nI 1)))] [] A24) q_nX))) : q_Wp G M_X3_copyFrom (q_KV f) X 0 0 15 [some (.ref a0), some (.ref a1), some (.int x2)] [] A := by
  refine q_blk (pc' := 17) (lo' := [some (.ref a0), some (.ref a1), some (.int x2)]) (st' := [.ref a0, .int x2]) [.iload_n 2, .aload_n 0] (by decide +kernel) rfl ?_
  obtain ⟨s1, h⟩ := h
  refine q_getI fl_X3_18 rfl (by decide) (by decide +kernel) s1 ?_
  refine q_icmp_ge 52 (off := 32) (by decide +kernel) (by decide) (fun c2 => ?_) (fun c2 => ?_)
  · have h := h.1 c2
    exact q_ret0 rfl (by decide) (by decide) (by decide +kernel) ⟨rfl, h⟩
  · have h := h.2 c2
    refine q_blk (pc' := 24) (lo' := [some (.ref a0), some (.ref a1), some (.int x2)]) (st' := [.ref a0]) [.aload_n 0] (by decide +kernel) rfl ?_
    obtain ⟨r3, e4, h⟩ := h
    refine q_getR fl_X3_11 rfl (by decide) (by decide +kernel) s1 e4 ?_
    refine q_blk (pc' := 28) (lo' := [some (.ref a0), some (.ref a1), some (.int x2)]) (st' := [.int x2, .ref r3]) [.iload_n 2] (by decide +kernel) rfl ?_
    obtain ⟨z6, s5, b7, h⟩ := h
    obtain ⟨j8, e9, h⟩ := h
    obtain ⟨l10, h⟩ := h
    obtain ⟨r11, e12, h⟩ := h
    refine q_aaldS (q_rk5 G) e9 (by decide +kernel) s5 l10 b7 e12 ?_
    refine q_blk (pc' := 30) (lo' := [some (.ref a0), some (.ref a1), some (.int x2)]) (st' := [.ref a1, .ref r11]) [.aload_n 1] (by decide +kernel) rfl ?_
    obtain ⟨s13, h⟩ := h
    obtain ⟨r14, e15, h⟩ := h
    refine q_getR fl_X3_11 rfl (by decide) (by decide +kernel) s13 e15 ?_
    refine q_blk (pc' := 34) (lo' := [some (.ref a0), some (.ref a1), some (.int x2)]) (st' := [.ref a1, .ref r14, .ref r11]) [.aload_n 1] (by decide +kernel) rfl ?_
    refine q_getI fl_X3_22 rfl (by decide) (by decide +kernel) s13 ?_
    refine q_blk (pc' := 41) (lo' := [some (.ref a0), some (.ref a1), some (.int x2)]) (st' := [.int (nI 30), .int ((q_I A a1 1) + x2), .ref r14, .ref r11]) [.iload_n 2, .iadd, .bipush 30] (by decide +kernel) rfl ?_
    refine q_irem (by decide +kernel) (by decide) ?_
    obtain ⟨z17, s16, b18, h⟩ := h
    obtain ⟨j19, e20, h⟩ := h
    obtain ⟨l21, h⟩ := h
    obtain ⟨r22, e23, h⟩ := h
    refine q_aaldS (q_rk5 G) e20 (by decide +kernel) s16 l21 b18 e23 ?_
    obtain ⟨s26, h⟩ := h
    refine q_callV (ci := 5) (Mc := M_X5_copyFrom) (z := 1) (b := r11) (As := [.ref r22]) (st := []) mo_X5_copyFrom mi_X5_copyFrom ml_X3_44_X5_copyFrom rfl rfl (by decide) rfl (by decide) (by decide) rfl (Nat.le_of_ble_eq_true rfl) (by decide +kernel) s26 h (q_fV fun A24 h => ?_)
    show q_Wp _ _ _ _ 0 0 46 [some (.ref a0), some (.ref a1), some (.int x2)] [] A24
    refine q_blk (pc' := 49) (lo' := [some (.ref a0), some (.ref a1), some (.int (x2 + (nI 1)))]) (st' := []) [.iinc 2 1] (by decide +kernel) rfl ?_
    refine q_goto 15 (off := -34) (by decide +kernel) (by decide) ?_
    exact h
theorem f_X6_init_0 {G : q_G} {X : String → q_H → Prop} {f : q_H → Prop} {A : q_H} {a0 : Nat} (h : q_Wc G M_X5_init [.ref (q_sz A)] (q_new A 6 0) (q_KV fun A2 => q_sh A2 a0 = (7, 0) ∧ q_Wc G M_X2_init [.ref (q_sz (q_setR A2 a0 7 (some (q_sz A))))] (q_new (q_setR A2 a0 7 (some (q_sz A))) 3 0) (q_KV fun A6 => q_sh A6 a0 = (7, 0) ∧ f (q_setR A6 a0 8 (some (q_sz (q_setR A2 a0 7 (some (q_sz A))))))) q_nX) q_nX) : q_Wc G M_X6_init [.ref a0] A (q_KV f) X := by
  refine q_Wc.of [some (.ref a0)] mo_X6_init.2.2.2.2.2 rfl (Nat.le_of_ble_eq_true rfl) rfl ?_
  refine q_blk (pc' := 1) (lo' := [some (.ref a0)]) (st' := [.ref a0]) [.aload_n 0] (by decide +kernel) rfl ?_
  refine q_obj ob_X6_3.1 ob_X6_3.2.1 ob_X6_3.2.2 (by decide) (Nat.le_of_ble_eq_true rfl) (by decide +kernel) ?_
  refine q_blk (pc' := 5) (lo' := [some (.ref a0)]) (st' := [.ref a0]) [.aload_n 0] (by decide +kernel) rfl ?_
  refine q_newO (idx := 9) ck5 (by decide) kl_X6_9 nw_5.1 nw_5.2 (by decide) (by decide) (by decide +kernel) ?_
  have s1 : q_sh (q_new A 6 0) (q_sz A) = (6, 0) := q_shn _ _ _
  refine q_blk (pc' := 9) (lo' := [some (.ref a0)]) (st' := [.ref (q_sz A), .ref (q_sz A), .ref a0]) [.dup] (by decide +kernel) rfl ?_
  refine q_callI (Mc := M_X5_init) (z := 0) (b := (q_sz A)) (As := []) (st := [.ref (q_sz A), .ref a0]) mo_X5_init mi0_X5_init mI_X6_11_X5_init rfl rfl rfl rfl (by decide) (by decide) rfl (Nat.le_of_ble_eq_true rfl) (by decide +kernel) h (q_fV fun A2 h => ?_)
  show q_Wp _ _ _ _ 3 10 12 [some (.ref a0)] [.ref (q_sz A), .ref a0] A2
  obtain ⟨s4, h⟩ := h
  refine q_putR (v := (some (q_sz A))) fw_X6_12 rfl (by decide) (by decide +kernel) s4 ?_
  refine q_blk (pc' := 16) (lo' := [some (.ref a0)]) (st' := [.ref a0]) [.aload_n 0] (by decide +kernel) rfl ?_
  refine q_newO (idx := 18) ck2 (by decide) kl_X6_18 nw_2.1 nw_2.2 (by decide) (by decide) (by decide +kernel) ?_
  have s5 : q_sh (q_new (q_setR A2 a0 7 (some (q_sz A))) 3 0) (q_sz (q_setR A2 a0 7 (some (q_sz A)))) = (3, 0) := q_shn _ _ _
  refine q_blk (pc' := 20) (lo' := [some (.ref a0)]) (st' := [.ref (q_sz (q_setR A2 a0 7 (some (q_sz A)))), .ref (q_sz (q_setR A2 a0 7 (some (q_sz A)))), .ref a0]) [.dup] (by decide +kernel) rfl ?_
  refine q_callI (Mc := M_X2_init) (z := 0) (b := (q_sz (q_setR A2 a0 7 (some (q_sz A))))) (As := []) (st := [.ref (q_sz (q_setR A2 a0 7 (some (q_sz A)))), .ref a0]) mo_X2_init mi0_X2_init mI_X6_20_X2_init rfl rfl rfl rfl (by decide) (by decide) rfl (Nat.le_of_ble_eq_true rfl) (by decide +kernel) h (q_fV fun A6 h => ?_)
  show q_Wp _ _ _ _ 5 18 23 [some (.ref a0)] [.ref (q_sz (q_setR A2 a0 7 (some (q_sz A)))), .ref a0] A6
  obtain ⟨s8, h⟩ := h
  refine q_putP (v := (some (q_sz (q_setR A2 a0 7 (some (q_sz A)))))) fp_X6_21 rfl rfl (by decide) (by decide +kernel) s8 ?_
  exact q_ret0 rfl (by decide) (by decide) (by decide +kernel) ⟨rfl, h⟩
theorem f_X6_capacity_0 {G : q_G} {X : String → q_H → Prop} {f : Int32 → q_H → Prop} {A : q_H} {a0 : Nat} (h : q_sh A a0 = (7, 0) ∧ f ((((q_I A a0 1) * (q_I A a0 2)) * ((nI 100) - (q_I A a0 4))) / (nI 100)) A) : q_Wc G M_X6_capacity [.ref a0] A (q_KI f) X := by
  refine q_Wc.of [some (.ref a0)] mo_X6_capacity.2.2.2.2.2 rfl (Nat.le_of_ble_eq_true rfl) rfl ?_
  refine q_blk (pc' := 1) (lo' := [some (.ref a0)]) (st' := [.ref a0]) [.aload_n 0] (by decide +kernel) rfl ?_
  obtain ⟨s1, h⟩ := h
  refine q_getI fl_X6_25 rfl (by decide) (by decide +kernel) s1 ?_
  refine q_blk (pc' := 5) (lo' := [some (.ref a0)]) (st' := [.ref a0, .int (q_I A a0 1)]) [.aload_n 0] (by decide +kernel) rfl ?_
  refine q_getI fl_X6_29 rfl (by decide) (by decide +kernel) s1 ?_
  refine q_blk (pc' := 12) (lo' := [some (.ref a0)]) (st' := [.ref a0, .int (nI 100), .int ((q_I A a0 1) * (q_I A a0 2))]) [.imul, .bipush 100, .aload_n 0] (by decide +kernel) rfl ?_
  refine q_getI fl_X6_32 rfl (by decide) (by decide +kernel) s1 ?_
  refine q_blk (pc' := 19) (lo' := [some (.ref a0)]) (st' := [.int (nI 100), .int (((q_I A a0 1) * (q_I A a0 2)) * ((nI 100) - (q_I A a0 4)))]) [.isub, .imul, .bipush 100] (by decide +kernel) rfl ?_
  refine q_idiv (by decide +kernel) (by decide) ?_
  exact q_retI rfl (by decide) (by decide) (by decide +kernel) ⟨_, rfl, h⟩
theorem f_X6_isSlotEmpty_0 {G : q_G} {X : String → q_H → Prop} {f : Bool → q_H → Prop} {A : q_H} {a0 : Nat} (h : q_sh A a0 = (7, 0) ∧ ∃ r2 : Nat, q_R A a0 7 = some r2 ∧ q_sh A r2 = (6, 0) ∧ ∃ r5 : Nat, q_R A r2 0 = some r5 ∧ q_sh A r5 = (3, 0) ∧ (((q_I A r5 1) = nI 0 → f true A) ∧ (¬ (q_I A r5 1) = nI 0 → f false A))) : q_Wc G M_X6_isSlotEmpty [.ref a0] A (q_KB f) X := by
  refine q_Wc.of [some (.ref a0)] mo_X6_isSlotEmpty.2.2.2.2.2 rfl (Nat.le_of_ble_eq_true rfl) rfl ?_
  refine q_blk (pc' := 1) (lo' := [some (.ref a0)]) (st' := [.ref a0]) [.aload_n 0] (by decide +kernel) rfl ?_
  obtain ⟨s1, h⟩ := h
  obtain ⟨r2, e3, h⟩ := h
  refine q_getR fl_X6_12 rfl (by decide) (by decide +kernel) s1 e3 ?_
  obtain ⟨s4, h⟩ := h
  obtain ⟨r5, e6, h⟩ := h
  refine q_getR fl_X6_35 rfl (by decide) (by decide +kernel) s4 e6 ?_
  obtain ⟨s7, h⟩ := h
  refine q_getI fl_X6_38 rfl (by decide) (by decide +kernel) s7 ?_
  refine q_if_ne 17 (off := 7) (by decide +kernel) (by decide) (fun c8 => ?_) (fun c8 => ?_)
  · have h := h.2 c8
    refine q_blk (pc' := 18) (lo' := [some (.ref a0)]) (st' := [.int (nI 0)]) [.iconst 0] (by decide +kernel) rfl ?_
    exact q_retZ (r := q_i false) rfl (q_nz _) (by decide) (by decide) (by decide +kernel) ⟨false, rfl, h⟩
  · have h := h.1 c8
    refine q_blk (pc' := 14) (lo' := [some (.ref a0)]) (st' := [.int (nI 1)]) [.iconst 1] (by decide +kernel) rfl ?_
    refine q_goto 18 (off := 4) (by decide +kernel) (by decide) ?_
    exact q_retZ (r := q_i true) rfl (q_nz _) (by decide) (by decide) (by decide +kernel) ⟨true, rfl, h⟩
theorem f_X6_relieve_0 {G : q_G} {X : String → q_H → Prop} {f : q_H → Prop} {A : q_H} {a0 : Nat} {x1 : Int32} (h : q_sh A a0 = (7, 0) ∧ f (q_setI (q_setI A a0 1 x1) a0 4 (nI 0))) : q_Wc G M_X6_relieve [.ref a0, .int x1] A (q_KV f) X := by
  refine q_Wc.of [some (.ref a0), some (.int x1)] mo_X6_relieve.2.2.2.2.2 rfl (Nat.le_of_ble_eq_true rfl) rfl ?_
  refine q_blk (pc' := 2) (lo' := [some (.ref a0), some (.int x1)]) (st' := [.int x1, .ref a0]) [.aload_n 0, .iload_n 1] (by decide +kernel) rfl ?_
  obtain ⟨s1, h⟩ := h
  refine q_putI fw_X6_25 rfl (by decide) (by decide +kernel) s1 ?_
  refine q_blk (pc' := 7) (lo' := [some (.ref a0), some (.int x1)]) (st' := [.int (nI 0), .ref a0]) [.aload_n 0, .iconst 0] (by decide +kernel) rfl ?_
  refine q_putI fw_X6_32 rfl (by decide) (by decide +kernel) s1 ?_
  exact q_ret0 rfl (by decide) (by decide) (by decide +kernel) ⟨rfl, h⟩
theorem f_X6_pick_0 {G : q_G} {X : String → q_H → Prop} {f : q_H → Prop} {A : q_H} {a0 : Nat} {x1 : Int32} (h : q_sh A a0 = (7, 0) ∧ ∃ r2 : Nat, q_R A a0 7 = some r2 ∧ q_sh A r2 = (6, 0) ∧ ∃ r5 : Nat, q_R A r2 0 = some r5 ∧ q_sh A r5 = (3, 0) ∧ q_Wc G M_X2_of [.ref r5, .int (q_I A a0 0)] A (q_KI fun r8 A7 => q_sh A7 a0 = (7, 0) ∧ q_Wc G M_X6_capacity [.ref a0] A7 (q_KI fun r11 A10 => (((nI 1) ≤ (if r11 < r8 then r11 else r8) → q_sh A10 a0 = (7, 0) ∧ ∃ r15 : Nat, q_R A10 a0 8 = some r15 ∧ q_sh A10 r5 = (3, 0) ∧ q_Wc G M_X2_move [.ref r5, .int (q_I A10 a0 0), .int (if r11 < r8 then r11 else r8), .ref r15] A10 (q_KV fun A17 => q_sh A17 a0 = (7, 0) ∧ q_sh A17 r5 = (3, 0) ∧ q_Wc G M_X2_mostBut [.ref r5, .int (q_I A17 a0 0)] A17 (q_KI fun r22 A21 => q_sh A21 r5 = (3, 0) ∧ q_Wc G M_X2_of [.ref r5, .int r22] A21 (q_KI fun r25 A24 => q_sh A24 a0 = (7, 0) ∧ ∃ r28 : Nat, q_R A24 a0 8 = some r28 ∧ q_sh A24 r5 = (3, 0) ∧ q_Wc G M_X2_move [.ref r5, .int r22, .int (if (((if r11 < r8 then r11 else r8) * (q_I A24 a0 3)) / (nI 100)) < r25 then (((if r11 < r8 then r11 else r8) * (q_I A24 a0 3)) / (nI 100)) else r25), .ref r28] A24 (q_KV fun A30 => q_sh A30 a0 = (7, 0) ∧ (∀ A34 : q_H, A34 = (q_setI A30 a0 6 ((q_I A30 a0 6) + ((if r11 < r8 then r11 else r8) + (if (((if r11 < r8 then r11 else r8) * (q_I A24 a0 3)) / (nI 100)) < r25 then (((if r11 < r8 then r11 else r8) * (q_I A24 a0 3)) / (nI 100)) else r25)))) → f (q_setI A34 a0 4 (if (nI 60) < ((q_I A34 a0 4) + x1) then (nI 60) else ((q_I A34 a0 4) + x1))))) q_nX) q_nX) q_nX) q_nX) ∧ (¬ (nI 1) ≤ (if r11 < r8 then r11 else r8) → q_sh A10 a0 = (7, 0) ∧ f (q_setI A10 a0 4 (if ((q_I A10 a0 4) - (nI 2)) < (nI 0) then (nI 0) else ((q_I A10 a0 4) - (nI 2))))))) q_nX) q_nX) : q_Wc G M_X6_pick [.ref a0, .int x1] A (q_KV f) X := by
  refine q_Wc.of [some (.ref a0), some (.int x1), none, none, none, none] mo_X6_pick.2.2.2.2.2 rfl (Nat.le_of_ble_eq_true rfl) rfl ?_
  refine q_blk (pc' := 1) (lo' := [some (.ref a0), some (.int x1), none, none, none, none]) (st' := [.ref a0]) [.aload_n 0] (by decide +kernel) rfl ?_
  obtain ⟨s1, h⟩ := h
  obtain ⟨r2, e3, h⟩ := h
  refine q_getR fl_X6_12 rfl (by decide) (by decide +kernel) s1 e3 ?_
  obtain ⟨s4, h⟩ := h
  obtain ⟨r5, e6, h⟩ := h
  refine q_getR fl_X6_35 rfl (by decide) (by decide +kernel) s4 e6 ?_
  refine q_blk (pc' := 10) (lo' := [some (.ref a0), some (.int x1), some (.ref r5), none, none, none]) (st' := [.ref a0, .ref r5]) [.astore_n 2, .aload_n 2, .aload_n 0] (by decide +kernel) rfl ?_
  refine q_getI fl_X6_41 rfl (by decide) (by decide +kernel) s1 ?_
  obtain ⟨s9, h⟩ := h
  refine q_callV (ci := 2) (Mc := M_X2_of) (z := 1) (b := r5) (As := [.int (q_I A a0 0)]) (st := []) mo_X2_of mi_X2_of ml_X6_44_X2_of rfl rfl (by decide) rfl (by decide) (by decide) rfl (Nat.le_of_ble_eq_true rfl) (by decide +kernel) s9 h (q_fI fun r8 A7 h => ?_)
  show q_Wp _ _ _ _ 0 0 16 [some (.ref a0), some (.int x1), some (.ref r5), none, none, none] [.int r8] A7
  refine q_blk (pc' := 17) (lo' := [some (.ref a0), some (.int x1), some (.ref r5), none, none, none]) (st' := [.ref a0, .int r8]) [.aload_n 0] (by decide +kernel) rfl ?_
  obtain ⟨s12, h⟩ := h
  refine q_callV (ci := 6) (Mc := M_X6_capacity) (z := 0) (b := a0) (As := []) (st := [.int r8]) mo_X6_capacity mi_X6_capacity ml_X6_48_X6_capacity rfl rfl (by decide) rfl (by decide) (by decide) rfl (Nat.le_of_ble_eq_true rfl) (by decide +kernel) s12 h (q_fI fun r11 A10 h => ?_)
  show q_Wp _ _ _ _ 0 0 20 [some (.ref a0), some (.int x1), some (.ref r5), none, none, none] [.int r11, .int r8] A10
  refine q_mmin mm_X6_52_i.1 mm_X6_52_i.2.1 mm_X6_52_i.2.2.1 mm_X6_52_i.2.2.2 (by decide) (Nat.le_of_ble_eq_true rfl) (by decide) (by decide) (by decide +kernel) ?_
  refine q_blk (pc' := 26) (lo' := [some (.ref a0), some (.int x1), some (.ref r5), some (.int (if r11 < r8 then r11 else r8)), none, none]) (st' := [.int (nI 1), .int (if r11 < r8 then r11 else r8)]) [.istore_n 3, .iload_n 3, .iconst 1] (by decide +kernel) rfl ?_
  refine q_icmp_ge 44 (off := 18) (by decide +kernel) (by decide) (fun c13 => ?_) (fun c13 => ?_)
  · have h := h.1 c13
    refine q_blk (pc' := 46) (lo' := [some (.ref a0), some (.int x1), some (.ref r5), some (.int (if r11 < r8 then r11 else r8)), none, none]) (st' := [.ref a0, .ref r5]) [.aload_n 2, .aload_n 0] (by decide +kernel) rfl ?_
    obtain ⟨s14, h⟩ := h
    refine q_getI fl_X6_41 rfl (by decide) (by decide +kernel) s14 ?_
    refine q_blk (pc' := 51) (lo' := [some (.ref a0), some (.int x1), some (.ref r5), some (.int (if r11 < r8 then r11 else r8)), none, none]) (st' := [.ref a0, .int (if r11 < r8 then r11 else r8), .int (q_I A10 a0 0), .ref r5]) [.iload_n 3, .aload_n 0] (by decide +kernel) rfl ?_
    obtain ⟨r15, e16, h⟩ := h
    refine q_getR fl_X6_21 rfl (by decide) (by decide +kernel) s14 e16 ?_
    obtain ⟨s19, h⟩ := h
    refine q_callV (ci := 2) (Mc := M_X2_move) (z := 3) (b := r5) (As := [.int (q_I A10 a0 0), .int (if r11 < r8 then r11 else r8), .ref r15]) (st := []) mo_X2_move mi_X2_move ml_X6_61_X2_move rfl rfl (by decide) rfl (by decide) (by decide) rfl (Nat.le_of_ble_eq_true rfl) (by decide +kernel) s19 h (q_fV fun A17 h => ?_)
    show q_Wp _ _ _ _ 0 0 57 [some (.ref a0), some (.int x1), some (.ref r5), some (.int (if r11 < r8 then r11 else r8)), none, none] [] A17
    refine q_blk (pc' := 59) (lo' := [some (.ref a0), some (.int x1), some (.ref r5), some (.int (if r11 < r8 then r11 else r8)), none, none]) (st' := [.ref a0, .ref r5]) [.aload_n 2, .aload_n 0] (by decide +kernel) rfl ?_
    obtain ⟨s20, h⟩ := h
    refine q_getI fl_X6_41 rfl (by decide) (by decide +kernel) s20 ?_
    obtain ⟨s23, h⟩ := h
    refine q_callV (ci := 2) (Mc := M_X2_mostBut) (z := 1) (b := r5) (As := [.int (q_I A17 a0 0)]) (st := []) mo_X2_mostBut mi_X2_mostBut ml_X6_65_X2_mostBut rfl rfl (by decide) rfl (by decide) (by decide) rfl (Nat.le_of_ble_eq_true rfl) (by decide +kernel) s23 h (q_fI fun r22 A21 h => ?_)
    show q_Wp _ _ _ _ 0 0 65 [some (.ref a0), some (.int x1), some (.ref r5), some (.int (if r11 < r8 then r11 else r8)), none, none] [.int r22] A21
    refine q_blk (pc' := 70) (lo' := [some (.ref a0), some (.int x1), some (.ref r5), some (.int (if r11 < r8 then r11 else r8)), some (.int r22), none]) (st' := [.int r22, .ref r5]) [.istore 4, .aload_n 2, .iload 4] (by decide +kernel) rfl ?_
    obtain ⟨s26, h⟩ := h
    refine q_callV (ci := 2) (Mc := M_X2_of) (z := 1) (b := r5) (As := [.int r22]) (st := []) mo_X2_of mi_X2_of ml_X6_44_X2_of rfl rfl (by decide) rfl (by decide) (by decide) rfl (Nat.le_of_ble_eq_true rfl) (by decide +kernel) s26 h (q_fI fun r25 A24 h => ?_)
    show q_Wp _ _ _ _ 0 0 73 [some (.ref a0), some (.int x1), some (.ref r5), some (.int (if r11 < r8 then r11 else r8)), some (.int r22), none] [.int r25] A24
    refine q_blk (pc' := 75) (lo' := [some (.ref a0), some (.int x1), some (.ref r5), some (.int (if r11 < r8 then r11 else r8)), some (.int r22), none]) (st' := [.ref a0, .int (if r11 < r8 then r11 else r8), .int r25]) [.iload_n 3, .aload_n 0] (by decide +kernel) rfl ?_
    obtain ⟨s27, h⟩ := h
    refine q_getI fl_X6_68 rfl (by decide) (by decide +kernel) s27 ?_
    refine q_blk (pc' := 81) (lo' := [some (.ref a0), some (.int x1), some (.ref r5), some (.int (if r11 < r8 then r11 else r8)), some (.int r22), none]) (st' := [.int (nI 100), .int ((if r11 < r8 then r11 else r8) * (q_I A24 a0 3)), .int r25]) [.imul, .bipush 100] (by decide +kernel) rfl ?_
    refine q_idiv (by decide +kernel) (by decide) ?_
    refine q_mmin mm_X6_52_i.1 mm_X6_52_i.2.1 mm_X6_52_i.2.2.1 mm_X6_52_i.2.2.2 (by decide) (Nat.le_of_ble_eq_true rfl) (by decide) (by decide) (by decide +kernel) ?_
    refine q_blk (pc' := 93) (lo' := [some (.ref a0), some (.int x1), some (.ref r5), some (.int (if r11 < r8 then r11 else r8)), some (.int r22), some (.int (if (((if r11 < r8 then r11 else r8) * (q_I A24 a0 3)) / (nI 100)) < r25 then (((if r11 < r8 then r11 else r8) * (q_I A24 a0 3)) / (nI 100)) else r25))]) (st' := [.ref a0, .int (if (((if r11 < r8 then r11 else r8) * (q_I A24 a0 3)) / (nI 100)) < r25 then (((if r11 < r8 then r11 else r8) * (q_I A24 a0 3)) / (nI 100)) else r25), .int r22, .ref r5]) [.istore 5, .aload_n 2, .iload 4, .iload 5, .aload_n 0] (by decide +kernel) rfl ?_
    obtain ⟨r28, e29, h⟩ := h
    refine q_getR fl_X6_21 rfl (by decide) (by decide +kernel) s27 e29 ?_
    obtain ⟨s32, h⟩ := h
    refine q_callV (ci := 2) (Mc := M_X2_move) (z := 3) (b := r5) (As := [.int r22, .int (if (((if r11 < r8 then r11 else r8) * (q_I A24 a0 3)) / (nI 100)) < r25 then (((if r11 < r8 then r11 else r8) * (q_I A24 a0 3)) / (nI 100)) else r25), .ref r28]) (st := []) mo_X2_move mi_X2_move ml_X6_61_X2_move rfl rfl (by decide) rfl (by decide) (by decide) rfl (Nat.le_of_ble_eq_true rfl) (by decide +kernel) s32 h (q_fV fun A30 h => ?_)
    show q_Wp _ _ _ _ 0 0 99 [some (.ref a0), some (.int x1), some (.ref r5), some (.int (if r11 < r8 then r11 else r8)), some (.int r22), some (.int (if (((if r11 < r8 then r11 else r8) * (q_I A24 a0 3)) / (nI 100)) < r25 then (((if r11 < r8 then r11 else r8) * (q_I A24 a0 3)) / (nI 100)) else r25))] [] A30
    refine q_blk (pc' := 101) (lo' := [some (.ref a0), some (.int x1), some (.ref r5), some (.int (if r11 < r8 then r11 else r8)), some (.int r22), some (.int (if (((if r11 < r8 then r11 else r8) * (q_I A24 a0 3)) / (nI 100)) < r25 then (((if r11 < r8 then r11 else r8) * (q_I A24 a0 3)) / (nI 100)) else r25))]) (st' := [.ref a0, .ref a0]) [.aload_n 0, .dup] (by decide +kernel) rfl ?_
    obtain ⟨s33, h⟩ := h
    refine q_getI fl_X6_71 rfl (by decide) (by decide +kernel) s33 ?_
    refine q_blk (pc' := 109) (lo' := [some (.ref a0), some (.int x1), some (.ref r5), some (.int (if r11 < r8 then r11 else r8)), some (.int r22), some (.int (if (((if r11 < r8 then r11 else r8) * (q_I A24 a0 3)) / (nI 100)) < r25 then (((if r11 < r8 then r11 else r8) * (q_I A24 a0 3)) / (nI 100)) else r25))]) (st' := [.int ((q_I A30 a0 6) + ((if r11 < r8 then r11 else r8) + (if (((if r11 < r8 then r11 else r8) * (q_I A24 a0 3)) / (nI 100)) < r25 then (((if r11 < r8 then r11 else r8) * (q_I A24 a0 3)) / (nI 100)) else r25))), .ref a0]) [.iload_n 3, .iload 5, .iadd, .iadd] (by decide +kernel) rfl ?_
    refine q_putI fw_X6_71 rfl (by decide) (by decide +kernel) s33 ?_
    let A34 : q_H := (q_setI A30 a0 6 ((q_I A30 a0 6) + ((if r11 < r8 then r11 else r8) + (if (((if r11 < r8 then r11 else r8) * (q_I A24 a0 3)) / (nI 100)) < r25 then (((if r11 < r8 then r11 else r8) * (q_I A24 a0 3)) / (nI 100)) else r25))))
    have h := h A34 rfl
    show q_Wp _ _ _ _ 0 0 112 [some (.ref a0), some (.int x1), some (.ref r5), some (.int (if r11 < r8 then r11 else r8)), some (.int r22), some (.int (if (((if r11 < r8 then r11 else r8) * (q_I A24 a0 3)) / (nI 100)) < r25 then (((if r11 < r8 then r11 else r8) * (q_I A24 a0 3)) / (nI 100)) else r25))] [] A34
    refine q_blk (pc' := 114) (lo' := [some (.ref a0), some (.int x1), some (.ref r5), some (.int (if r11 < r8 then r11 else r8)), some (.int r22), some (.int (if (((if r11 < r8 then r11 else r8) * (q_I A24 a0 3)) / (nI 100)) < r25 then (((if r11 < r8 then r11 else r8) * (q_I A24 a0 3)) / (nI 100)) else r25))]) (st' := [.ref a0, .ref a0]) [.aload_n 0, .aload_n 0] (by decide +kernel) rfl ?_
    refine q_getI fl_X6_32 rfl (by decide) (by decide +kernel) s33 ?_
    refine q_blk (pc' := 121) (lo' := [some (.ref a0), some (.int x1), some (.ref r5), some (.int (if r11 < r8 then r11 else r8)), some (.int r22), some (.int (if (((if r11 < r8 then r11 else r8) * (q_I A24 a0 3)) / (nI 100)) < r25 then (((if r11 < r8 then r11 else r8) * (q_I A24 a0 3)) / (nI 100)) else r25))]) (st' := [.int (nI 60), .int ((q_I A34 a0 4) + x1), .ref a0]) [.iload_n 1, .iadd, .bipush 60] (by decide +kernel) rfl ?_
    refine q_mmin mm_X6_52_i.1 mm_X6_52_i.2.1 mm_X6_52_i.2.2.1 mm_X6_52_i.2.2.2 (by decide) (Nat.le_of_ble_eq_true rfl) (by decide) (by decide) (by decide +kernel) ?_
    refine q_putI fw_X6_32 rfl (by decide) (by decide +kernel) s33 ?_
    exact q_ret0 rfl (by decide) (by decide) (by decide +kernel) ⟨rfl, h⟩
  · have h := h.2 c13
    refine q_blk (pc' := 31) (lo' := [some (.ref a0), some (.int x1), some (.ref r5), some (.int (if r11 < r8 then r11 else r8)), none, none]) (st' := [.ref a0, .ref a0]) [.aload_n 0, .aload_n 0] (by decide +kernel) rfl ?_
    obtain ⟨s35, h⟩ := h
    refine q_getI fl_X6_32 rfl (by decide) (by decide +kernel) s35 ?_
    refine q_blk (pc' := 37) (lo' := [some (.ref a0), some (.int x1), some (.ref r5), some (.int (if r11 < r8 then r11 else r8)), none, none]) (st' := [.int (nI 0), .int ((q_I A10 a0 4) - (nI 2)), .ref a0]) [.iconst 2, .isub, .iconst 0] (by decide +kernel) rfl ?_
    refine q_mmax mm_X6_58_a.1 mm_X6_58_a.2.1 mm_X6_58_a.2.2.1 mm_X6_58_a.2.2.2 (by decide) (Nat.le_of_ble_eq_true rfl) (by decide) (by decide) (by decide +kernel) ?_
    refine q_putI fw_X6_32 rfl (by decide) (by decide +kernel) s35 ?_
    exact q_ret0 rfl (by decide) (by decide) (by decide +kernel) ⟨rfl, h⟩
theorem f_X6_copyFrom_0 {G : q_G} {X : String → q_H → Prop} {f : q_H → Prop} {A : q_H} {a0 : Nat} {a1 : Nat} (h : q_sh A a1 = (7, 0) ∧ q_sh A a0 = (7, 0) ∧ (∀ A3 : q_H, A3 = (q_setI (q_setI (q_setI A a0 0 (q_I A a1 0)) a0 1 (q_I (q_setI A a0 0 (q_I A a1 0)) a1 1)) a0 2 (q_I (q_setI (q_setI A a0 0 (q_I A a1 0)) a0 1 (q_I (q_setI A a0 0 (q_I A a1 0)) a1 1)) a1 2)) → (∀ A4 : q_H, A4 = (q_setI (q_setI (q_setI A3 a0 3 (q_I A3 a1 3)) a0 4 (q_I (q_setI A3 a0 3 (q_I A3 a1 3)) a1 4)) a0 5 (q_I (q_setI (q_setI A3 a0 3 (q_I A3 a1 3)) a0 4 (q_I (q_setI A3 a0 3 (q_I A3 a1 3)) a1 4)) a1 5)) → ∃ r5 : Nat, q_R A a0 7 = some r5 ∧ ∃ r7 : Nat, q_R A a1 7 = some r7 ∧ q_sh A r5 = (6, 0) ∧ q_Wc G M_X5_copyFrom [.ref r5, .ref r7] (q_setI A4 a0 6 (q_I A4 a1 6)) (q_KV fun A9 => q_sh A9 a0 = (7, 0) ∧ ∃ r13 : Nat, q_R A9 a0 8 = some r13 ∧ q_sh A9 a1 = (7, 0) ∧ ∃ r16 : Nat, q_R A9 a1 8 = some r16 ∧ q_sh A9 r13 = (3, 0) ∧ q_Wc G M_X2_copyFrom [.ref r13, .ref r16] A9 (q_KV fun A18 => f A18) q_nX) q_nX))) : q_Wc G M_X6_copyFrom [.ref a0, .ref a1] A (q_KV f) X := by
  refine q_Wc.of [some (.ref a0), some (.ref a1)] mo_X6_copyFrom.2.2.2.2.2 rfl (Nat.le_of_ble_eq_true rfl) rfl ?_
  refine q_blk (pc' := 2) (lo' := [some (.ref a0), some (.ref a1)]) (st' := [.ref a1, .ref a0]) [.aload_n 0, .aload_n 1] (by decide +kernel) rfl ?_
  obtain ⟨s1, h⟩ := h
  refine q_getI fl_X6_41 rfl (by decide) (by decide +kernel) s1 ?_
  obtain ⟨s2, h⟩ := h
  refine q_putI fw_X6_41 rfl (by decide) (by decide +kernel) s2 ?_
  refine q_blk (pc' := 10) (lo' := [some (.ref a0), some (.ref a1)]) (st' := [.ref a1, .ref a0]) [.aload_n 0, .aload_n 1] (by decide +kernel) rfl ?_
  refine q_getI fl_X6_25 rfl (by decide) (by decide +kernel) s1 ?_
  refine q_putI fw_X6_25 rfl (by decide) (by decide +kernel) s2 ?_
  refine q_blk (pc' := 18) (lo' := [some (.ref a0), some (.ref a1)]) (st' := [.ref a1, .ref a0]) [.aload_n 0, .aload_n 1] (by decide +kernel) rfl ?_
  refine q_getI fl_X6_29 rfl (by decide) (by decide +kernel) s1 ?_
  refine q_putI fw_X6_29 rfl (by decide) (by decide +kernel) s2 ?_
  let A3 : q_H := (q_setI (q_setI (q_setI A a0 0 (q_I A a1 0)) a0 1 (q_I (q_setI A a0 0 (q_I A a1 0)) a1 1)) a0 2 (q_I (q_setI (q_setI A a0 0 (q_I A a1 0)) a0 1 (q_I (q_setI A a0 0 (q_I A a1 0)) a1 1)) a1 2))
  have h := h A3 rfl
  show q_Wp _ _ _ _ 0 0 24 [some (.ref a0), some (.ref a1)] [] A3
  refine q_blk (pc' := 26) (lo' := [some (.ref a0), some (.ref a1)]) (st' := [.ref a1, .ref a0]) [.aload_n 0, .aload_n 1] (by decide +kernel) rfl ?_
  refine q_getI fl_X6_68 rfl (by decide) (by decide +kernel) s1 ?_
  refine q_putI fw_X6_68 rfl (by decide) (by decide +kernel) s2 ?_
  refine q_blk (pc' := 34) (lo' := [some (.ref a0), some (.ref a1)]) (st' := [.ref a1, .ref a0]) [.aload_n 0, .aload_n 1] (by decide +kernel) rfl ?_
  refine q_getI fl_X6_32 rfl (by decide) (by decide +kernel) s1 ?_
  refine q_putI fw_X6_32 rfl (by decide) (by decide +kernel) s2 ?_
  refine q_blk (pc' := 42) (lo' := [some (.ref a0), some (.ref a1)]) (st' := [.ref a1, .ref a0]) [.aload_n 0, .aload_n 1] (by decide +kernel) rfl ?_
  refine q_getI fl_X6_74 rfl (by decide) (by decide +kernel) s1 ?_
  refine q_putI fw_X6_74 rfl (by decide) (by decide +kernel) s2 ?_
  let A4 : q_H := (q_setI (q_setI (q_setI A3 a0 3 (q_I A3 a1 3)) a0 4 (q_I (q_setI A3 a0 3 (q_I A3 a1 3)) a1 4)) a0 5 (q_I (q_setI (q_setI A3 a0 3 (q_I A3 a1 3)) a0 4 (q_I (q_setI A3 a0 3 (q_I A3 a1 3)) a1 4)) a1 5))
  have h := h A4 rfl
  show q_Wp _ _ _ _ 0 0 48 [some (.ref a0), some (.ref a1)] [] A4
  refine q_blk (pc' := 50) (lo' := [some (.ref a0), some (.ref a1)]) (st' := [.ref a1, .ref a0]) [.aload_n 0, .aload_n 1] (by decide +kernel) rfl ?_
  refine q_getI fl_X6_71 rfl (by decide) (by decide +kernel) s1 ?_
  refine q_putI fw_X6_71 rfl (by decide) (by decide +kernel) s2 ?_
  refine q_blk (pc' := 57) (lo' := [some (.ref a0), some (.ref a1)]) (st' := [.ref a0]) [.aload_n 0] (by decide +kernel) rfl ?_
  obtain ⟨r5, e6, h⟩ := h
  refine q_getR fl_X6_12 rfl (by decide) (by decide +kernel) s2 e6 ?_
  refine q_blk (pc' := 61) (lo' := [some (.ref a0), some (.ref a1)]) (st' := [.ref a1, .ref r5]) [.aload_n 1] (by decide +kernel) rfl ?_
  obtain ⟨r7, e8, h⟩ := h
  refine q_getR fl_X6_12 rfl (by decide) (by decide +kernel) s1 e8 ?_
  obtain ⟨s11, h⟩ := h
  refine q_callV (ci := 5) (Mc := M_X5_copyFrom) (z := 1) (b := r5) (As := [.ref r7]) (st := []) mo_X5_copyFrom mi_X5_copyFrom ml_X6_77_X5_copyFrom rfl rfl (by decide) rfl (by decide) (by decide) rfl (Nat.le_of_ble_eq_true rfl) (by decide +kernel) s11 h (q_fV fun A9 h => ?_)
  show q_Wp _ _ _ _ 0 0 67 [some (.ref a0), some (.ref a1)] [] A9
  refine q_blk (pc' := 68) (lo' := [some (.ref a0), some (.ref a1)]) (st' := [.ref a0]) [.aload_n 0] (by decide +kernel) rfl ?_
  obtain ⟨s12, h⟩ := h
  obtain ⟨r13, e14, h⟩ := h
  refine q_getR fl_X6_21 rfl (by decide) (by decide +kernel) s12 e14 ?_
  refine q_blk (pc' := 72) (lo' := [some (.ref a0), some (.ref a1)]) (st' := [.ref a1, .ref r13]) [.aload_n 1] (by decide +kernel) rfl ?_
  obtain ⟨s15, h⟩ := h
  obtain ⟨r16, e17, h⟩ := h
  refine q_getR fl_X6_21 rfl (by decide) (by decide +kernel) s15 e17 ?_
  obtain ⟨s20, h⟩ := h
  refine q_callV (ci := 2) (Mc := M_X2_copyFrom) (z := 1) (b := r13) (As := [.ref r16]) (st := []) mo_X2_copyFrom mi_X2_copyFrom ml_X6_81_X2_copyFrom rfl rfl (by decide) rfl (by decide) (by decide) rfl (Nat.le_of_ble_eq_true rfl) (by decide +kernel) s20 h (q_fV fun A18 h => ?_)
  show q_Wp _ _ _ _ 0 0 78 [some (.ref a0), some (.ref a1)] [] A18
  exact q_ret0 rfl (by decide) (by decide) (by decide +kernel) ⟨rfl, h⟩
theorem f_X0_init_0 {G : q_G} {X : String → q_H → Prop} {f : q_H → Prop} {A : q_H} {a0 : Nat} (h : q_Wc G M_X2_init [.ref (q_sz A)] (q_new A 3 0) (q_KV fun A2 => q_sh A2 a0 = (1, 0) ∧ f (q_setR A2 a0 4 (some (q_sz A)))) q_nX) : q_Wc G M_X0_init [.ref a0] A (q_KV f) X := by
  refine q_Wc.of [some (.ref a0)] mo_X0_init.2.2.2.2.2 rfl (Nat.le_of_ble_eq_true rfl) rfl ?_
  refine q_blk (pc' := 1) (lo' := [some (.ref a0)]) (st' := [.ref a0]) [.aload_n 0] (by decide +kernel) rfl ?_
  refine q_obj ob_X0_1.1 ob_X0_1.2.1 ob_X0_1.2.2 (by decide) (Nat.le_of_ble_eq_true rfl) (by decide +kernel) ?_
  refine q_blk (pc' := 5) (lo' := [some (.ref a0)]) (st' := [.ref a0]) [.aload_n 0] (by decide +kernel) rfl ?_
  refine q_newO (idx := 7) ck2 (by decide) kl_X0_7 nw_2.1 nw_2.2 (by decide) (by decide) (by decide +kernel) ?_
  have s1 : q_sh (q_new A 3 0) (q_sz A) = (3, 0) := q_shn _ _ _
  refine q_blk (pc' := 9) (lo' := [some (.ref a0)]) (st' := [.ref (q_sz A), .ref (q_sz A), .ref a0]) [.dup] (by decide +kernel) rfl ?_
  refine q_callI (Mc := M_X2_init) (z := 0) (b := (q_sz A)) (As := []) (st := [.ref (q_sz A), .ref a0]) mo_X2_init mi0_X2_init mI_X0_9_X2_init rfl rfl rfl rfl (by decide) (by decide) rfl (Nat.le_of_ble_eq_true rfl) (by decide +kernel) h (q_fV fun A2 h => ?_)
  show q_Wp _ _ _ _ 2 8 12 [some (.ref a0)] [.ref (q_sz A), .ref a0] A2
  obtain ⟨s4, h⟩ := h
  refine q_putP (v := (some (q_sz A))) fp_X0_10 rfl rfl (by decide) (by decide +kernel) s4 ?_
  exact q_ret0 rfl (by decide) (by decide) (by decide +kernel) ⟨rfl, h⟩
theorem f_X0_judge_0 {G : q_G} {X : String → q_H → Prop} {f : q_H → Prop} {A : q_H} {a0 : Nat} {x1 : Int32} {x2 : Int32} (h : q_sh A a0 = (1, 0) ∧ ∃ r2 : Nat, q_R A a0 4 = some r2 ∧ q_sh A r2 = (3, 0) ∧ (((q_I A r2 1) ≤ nI 0 → (((q_I (q_setI A a0 2 (nI 0)) a0 2) < x1 → (((q_I (q_setI A a0 2 (nI 0)) a0 2) < x2 → f (q_setI (q_setI A a0 2 (nI 0)) a0 3 (nI 2))) ∧ (¬ (q_I (q_setI A a0 2 (nI 0)) a0 2) < x2 → f (q_setI (q_setI A a0 2 (nI 0)) a0 3 (nI 1))))) ∧ (¬ (q_I (q_setI A a0 2 (nI 0)) a0 2) < x1 → f (q_setI (q_setI A a0 2 (nI 0)) a0 3 (nI 0))))) ∧ (¬ (q_I A r2 1) ≤ nI 0 → q_Wc G M_X2_of [.ref r2, .int (q_I A a0 1)] A (q_KI fun r9 A8 => q_sh A8 a0 = (1, 0) ∧ ∃ r11 : Nat, q_R A8 a0 4 = some r11 ∧ q_sh A8 r11 = (3, 0) ∧ (¬ (q_I A8 r11 1) = nI 0) ∧ (((q_I (q_setI A8 a0 2 ((r9 * (nI 100)) / (q_I A8 r11 1))) a0 2) < x1 → (((q_I (q_setI A8 a0 2 ((r9 * (nI 100)) / (q_I A8 r11 1))) a0 2) < x2 → f (q_setI (q_setI A8 a0 2 ((r9 * (nI 100)) / (q_I A8 r11 1))) a0 3 (nI 2))) ∧ (¬ (q_I (q_setI A8 a0 2 ((r9 * (nI 100)) / (q_I A8 r11 1))) a0 2) < x2 → f (q_setI (q_setI A8 a0 2 ((r9 * (nI 100)) / (q_I A8 r11 1))) a0 3 (nI 1))))) ∧ (¬ (q_I (q_setI A8 a0 2 ((r9 * (nI 100)) / (q_I A8 r11 1))) a0 2) < x1 → f (q_setI (q_setI A8 a0 2 ((r9 * (nI 100)) / (q_I A8 r11 1))) a0 3 (nI 0))))) q_nX))) : q_Wc G M_X0_judge [.ref a0, .int x1, .int x2] A (q_KV f) X := by
  refine q_Wc.of [some (.ref a0), some (.int x1), some (.int x2)] mo_X0_judge.2.2.2.2.2 rfl (Nat.le_of_ble_eq_true rfl) rfl ?_
  refine q_blk (pc' := 2) (lo' := [some (.ref a0), some (.int x1), some (.int x2)]) (st' := [.ref a0, .ref a0]) [.aload_n 0, .aload_n 0] (by decide +kernel) rfl ?_
  obtain ⟨s1, h⟩ := h
  obtain ⟨r2, e3, h⟩ := h
  refine q_getR fl_X0_10 rfl (by decide) (by decide +kernel) s1 e3 ?_
  obtain ⟨s4, h⟩ := h
  refine q_getI fl_X0_16 rfl (by decide) (by decide +kernel) s4 ?_
  refine q_if_le 36 (off := 28) (by decide +kernel) (by decide) (fun c5 => ?_) (fun c5 => ?_)
  · have h := h.1 c5
    refine q_blk (pc' := 37) (lo' := [some (.ref a0), some (.int x1), some (.int x2)]) (st' := [.int (nI 0), .ref a0]) [.iconst 0] (by decide +kernel) rfl ?_
    refine q_putI fw_X0_27 rfl (by decide) (by decide +kernel) s1 ?_
    refine q_blk (pc' := 42) (lo' := [some (.ref a0), some (.int x1), some (.int x2)]) (st' := [.ref a0, .ref a0]) [.aload_n 0, .aload_n 0] (by decide +kernel) rfl ?_
    refine q_getI fl_X0_27 rfl (by decide) (by decide +kernel) s1 ?_
    refine q_blk (pc' := 46) (lo' := [some (.ref a0), some (.int x1), some (.int x2)]) (st' := [.int x1, .int (q_I (q_setI A a0 2 (nI 0)) a0 2), .ref a0]) [.iload_n 1] (by decide +kernel) rfl ?_
    refine q_icmp_lt 53 (off := 7) (by decide +kernel) (by decide) (fun c6 => ?_) (fun c6 => ?_)
    · have h := h.1 c6
      refine q_blk (pc' := 54) (lo' := [some (.ref a0), some (.int x1), some (.int x2)]) (st' := [.ref a0, .ref a0]) [.aload_n 0] (by decide +kernel) rfl ?_
      refine q_getI fl_X0_27 rfl (by decide) (by decide +kernel) s1 ?_
      refine q_blk (pc' := 58) (lo' := [some (.ref a0), some (.int x1), some (.int x2)]) (st' := [.int x2, .int (q_I (q_setI A a0 2 (nI 0)) a0 2), .ref a0]) [.iload_n 2] (by decide +kernel) rfl ?_
      refine q_icmp_lt 65 (off := 7) (by decide +kernel) (by decide) (fun c7 => ?_) (fun c7 => ?_)
      · have h := h.1 c7
        refine q_blk (pc' := 66) (lo' := [some (.ref a0), some (.int x1), some (.int x2)]) (st' := [.int (nI 2), .ref a0]) [.iconst 2] (by decide +kernel) rfl ?_
        refine q_putI fw_X0_30 rfl (by decide) (by decide +kernel) s1 ?_
        exact q_ret0 rfl (by decide) (by decide) (by decide +kernel) ⟨rfl, h⟩
      · have h := h.2 c7
        refine q_blk (pc' := 62) (lo' := [some (.ref a0), some (.int x1), some (.int x2)]) (st' := [.int (nI 1), .ref a0]) [.iconst 1] (by decide +kernel) rfl ?_
        refine q_goto 66 (off := 4) (by decide +kernel) (by decide) ?_
        refine q_putI fw_X0_30 rfl (by decide) (by decide +kernel) s1 ?_
        exact q_ret0 rfl (by decide) (by decide) (by decide +kernel) ⟨rfl, h⟩
    · have h := h.2 c6
      refine q_blk (pc' := 50) (lo' := [some (.ref a0), some (.int x1), some (.int x2)]) (st' := [.int (nI 0), .ref a0]) [.iconst 0] (by decide +kernel) rfl ?_
      refine q_goto 66 (off := 16) (by decide +kernel) (by decide) ?_
      refine q_putI fw_X0_30 rfl (by decide) (by decide +kernel) s1 ?_
      exact q_ret0 rfl (by decide) (by decide) (by decide +kernel) ⟨rfl, h⟩
  · have h := h.2 c5
    refine q_blk (pc' := 12) (lo' := [some (.ref a0), some (.int x1), some (.int x2)]) (st' := [.ref a0, .ref a0]) [.aload_n 0] (by decide +kernel) rfl ?_
    refine q_getR fl_X0_10 rfl (by decide) (by decide +kernel) s1 e3 ?_
    refine q_blk (pc' := 16) (lo' := [some (.ref a0), some (.int x1), some (.int x2)]) (st' := [.ref a0, .ref r2, .ref a0]) [.aload_n 0] (by decide +kernel) rfl ?_
    refine q_getI fl_X0_20 rfl (by decide) (by decide +kernel) s1 ?_
    refine q_callV (ci := 2) (Mc := M_X2_of) (z := 1) (b := r2) (As := [.int (q_I A a0 1)]) (st := [.ref a0]) mo_X2_of mi_X2_of ml_X0_23_X2_of rfl rfl (by decide) rfl (by decide) (by decide) rfl (Nat.le_of_ble_eq_true rfl) (by decide +kernel) s4 h (q_fI fun r9 A8 h => ?_)
    show q_Wp _ _ _ _ 0 0 22 [some (.ref a0), some (.int x1), some (.int x2)] [.int r9, .ref a0] A8
    refine q_blk (pc' := 26) (lo' := [some (.ref a0), some (.int x1), some (.int x2)]) (st' := [.ref a0, .int (r9 * (nI 100)), .ref a0]) [.bipush 100, .imul, .aload_n 0] (by decide +kernel) rfl ?_
    obtain ⟨s10, h⟩ := h
    obtain ⟨r11, e12, h⟩ := h
    refine q_getR fl_X0_10 rfl (by decide) (by decide +kernel) s10 e12 ?_
    obtain ⟨s13, h⟩ := h
    refine q_getI fl_X0_16 rfl (by decide) (by decide +kernel) s13 ?_
    obtain ⟨d14, h⟩ := h
    refine q_idiv (by decide +kernel) d14 ?_
    refine q_goto 37 (off := 4) (by decide +kernel) (by decide) ?_
    refine q_putI fw_X0_27 rfl (by decide) (by decide +kernel) s10 ?_
    refine q_blk (pc' := 42) (lo' := [some (.ref a0), some (.int x1), some (.int x2)]) (st' := [.ref a0, .ref a0]) [.aload_n 0, .aload_n 0] (by decide +kernel) rfl ?_
    refine q_getI fl_X0_27 rfl (by decide) (by decide +kernel) s10 ?_
    refine q_blk (pc' := 46) (lo' := [some (.ref a0), some (.int x1), some (.int x2)]) (st' := [.int x1, .int (q_I (q_setI A8 a0 2 ((r9 * (nI 100)) / (q_I A8 r11 1))) a0 2), .ref a0]) [.iload_n 1] (by decide +kernel) rfl ?_
    refine q_icmp_lt 53 (off := 7) (by decide +kernel) (by decide) (fun c15 => ?_) (fun c15 => ?_)
    · have h := h.1 c15
      refine q_blk (pc' := 54) (lo' := [some (.ref a0), some (.int x1), some (.int x2)]) (st' := [.ref a0, .ref a0]) [.aload_n 0] (by decide +kernel) rfl ?_
      refine q_getI fl_X0_27 rfl (by decide) (by decide +kernel) s10 ?_
      refine q_blk (pc' := 58) (lo' := [some (.ref a0), some (.int x1), some (.int x2)]) (st' := [.int x2, .int (q_I (q_setI A8 a0 2 ((r9 * (nI 100)) / (q_I A8 r11 1))) a0 2), .ref a0]) [.iload_n 2] (by decide +kernel) rfl ?_
      refine q_icmp_lt 65 (off := 7) (by decide +kernel) (by decide) (fun c16 => ?_) (fun c16 => ?_)
      · have h := h.1 c16
        refine q_blk (pc' := 66) (lo' := [some (.ref a0), some (.int x1), some (.int x2)]) (st' := [.int (nI 2), .ref a0]) [.iconst 2] (by decide +kernel) rfl ?_
        refine q_putI fw_X0_30 rfl (by decide) (by decide +kernel) s10 ?_
        exact q_ret0 rfl (by decide) (by decide) (by decide +kernel) ⟨rfl, h⟩
      · have h := h.2 c16
        refine q_blk (pc' := 62) (lo' := [some (.ref a0), some (.int x1), some (.int x2)]) (st' := [.int (nI 1), .ref a0]) [.iconst 1] (by decide +kernel) rfl ?_
        refine q_goto 66 (off := 4) (by decide +kernel) (by decide) ?_
        refine q_putI fw_X0_30 rfl (by decide) (by decide +kernel) s10 ?_
        exact q_ret0 rfl (by decide) (by decide) (by decide +kernel) ⟨rfl, h⟩
    · have h := h.2 c15
      refine q_blk (pc' := 50) (lo' := [some (.ref a0), some (.int x1), some (.int x2)]) (st' := [.int (nI 0), .ref a0]) [.iconst 0] (by decide +kernel) rfl ?_
      refine q_goto 66 (off := 16) (by decide +kernel) (by decide) ?_
      refine q_putI fw_X0_30 rfl (by decide) (by decide +kernel) s10 ?_
      exact q_ret0 rfl (by decide) (by decide) (by decide +kernel) ⟨rfl, h⟩
theorem f_X0_copyFrom_0 {G : q_G} {X : String → q_H → Prop} {f : q_H → Prop} {A : q_H} {a0 : Nat} {a1 : Nat} (h : q_sh A a1 = (1, 0) ∧ q_sh A a0 = (1, 0) ∧ (∀ A3 : q_H, A3 = (q_setI (q_setI (q_setI A a0 0 (q_I A a1 0)) a0 1 (q_I (q_setI A a0 0 (q_I A a1 0)) a1 1)) a0 2 (q_I (q_setI (q_setI A a0 0 (q_I A a1 0)) a0 1 (q_I (q_setI A a0 0 (q_I A a1 0)) a1 1)) a1 2)) → ∃ r4 : Nat, q_R A a0 4 = some r4 ∧ ∃ r6 : Nat, q_R A a1 4 = some r6 ∧ q_sh A r4 = (3, 0) ∧ q_Wc G M_X2_copyFrom [.ref r4, .ref r6] (q_setI A3 a0 3 (q_I A3 a1 3)) (q_KV fun A8 => f A8) q_nX)) : q_Wc G M_X0_copyFrom [.ref a0, .ref a1] A (q_KV f) X := by
  refine q_Wc.of [some (.ref a0), some (.ref a1)] mo_X0_copyFrom.2.2.2.2.2 rfl (Nat.le_of_ble_eq_true rfl) rfl ?_
  refine q_blk (pc' := 2) (lo' := [some (.ref a0), some (.ref a1)]) (st' := [.ref a1, .ref a0]) [.aload_n 0, .aload_n 1] (by decide +kernel) rfl ?_
  obtain ⟨s1, h⟩ := h
  refine q_getI fl_X0_33 rfl (by decide) (by decide +kernel) s1 ?_
  obtain ⟨s2, h⟩ := h
  refine q_putI fw_X0_33 rfl (by decide) (by decide +kernel) s2 ?_
  refine q_blk (pc' := 10) (lo' := [some (.ref a0), some (.ref a1)]) (st' := [.ref a1, .ref a0]) [.aload_n 0, .aload_n 1] (by decide +kernel) rfl ?_
  refine q_getI fl_X0_20 rfl (by decide) (by decide +kernel) s1 ?_
  refine q_putI fw_X0_20 rfl (by decide) (by decide +kernel) s2 ?_
  refine q_blk (pc' := 18) (lo' := [some (.ref a0), some (.ref a1)]) (st' := [.ref a1, .ref a0]) [.aload_n 0, .aload_n 1] (by decide +kernel) rfl ?_
  refine q_getI fl_X0_27 rfl (by decide) (by decide +kernel) s1 ?_
  refine q_putI fw_X0_27 rfl (by decide) (by decide +kernel) s2 ?_
  let A3 : q_H := (q_setI (q_setI (q_setI A a0 0 (q_I A a1 0)) a0 1 (q_I (q_setI A a0 0 (q_I A a1 0)) a1 1)) a0 2 (q_I (q_setI (q_setI A a0 0 (q_I A a1 0)) a0 1 (q_I (q_setI A a0 0 (q_I A a1 0)) a1 1)) a1 2))
  have h := h A3 rfl
  show q_Wp _ _ _ _ 0 0 24 [some (.ref a0), some (.ref a1)] [] A3
  refine q_blk (pc' := 26) (lo' := [some (.ref a0), some (.ref a1)]) (st' := [.ref a1, .ref a0]) [.aload_n 0, .aload_n 1] (by decide +kernel) rfl ?_
  refine q_getI fl_X0_30 rfl (by decide) (by decide +kernel) s1 ?_
  refine q_putI fw_X0_30 rfl (by decide) (by decide +kernel) s2 ?_
  refine q_blk (pc' := 33) (lo' := [some (.ref a0), some (.ref a1)]) (st' := [.ref a0]) [.aload_n 0] (by decide +kernel) rfl ?_
  obtain ⟨r4, e5, h⟩ := h
  refine q_getR fl_X0_10 rfl (by decide) (by decide +kernel) s2 e5 ?_
  refine q_blk (pc' := 37) (lo' := [some (.ref a0), some (.ref a1)]) (st' := [.ref a1, .ref r4]) [.aload_n 1] (by decide +kernel) rfl ?_
  obtain ⟨r6, e7, h⟩ := h
  refine q_getR fl_X0_10 rfl (by decide) (by decide +kernel) s1 e7 ?_
  obtain ⟨s10, h⟩ := h
  refine q_callV (ci := 2) (Mc := M_X2_copyFrom) (z := 1) (b := r4) (As := [.ref r6]) (st := []) mo_X2_copyFrom mi_X2_copyFrom ml_X0_36_X2_copyFrom rfl rfl (by decide) rfl (by decide) (by decide) rfl (Nat.le_of_ble_eq_true rfl) (by decide +kernel) s10 h (q_fV fun A8 h => ?_)
  show q_Wp _ _ _ _ 0 0 43 [some (.ref a0), some (.ref a1)] [] A8
  exact q_ret0 rfl (by decide) (by decide) (by decide +kernel) ⟨rfl, h⟩
theorem f_X7_init_0 {G : q_G} {X : String → q_H → Prop} {f : q_H → Prop} {A : q_H} {a0 : Nat} (h : q_sh (q_new A 60 40) a0 = (8, 0) ∧ q_Wp G M_X7_init (q_KV f) X 1 40 15 [some (.ref a0), some (.int (nI 0))] [] (q_setR (q_new A 60 40) a0 0 (some (q_sz A)))) : q_Wc G M_X7_init [.ref a0] A (q_KV f) X := by
  refine q_Wc.of [some (.ref a0), none] mo_X7_init.2.2.2.2.2 rfl (Nat.le_of_ble_eq_true rfl) rfl ?_
  refine q_blk (pc' := 1) (lo' := [some (.ref a0), none]) (st' := [.ref a0]) [.aload_n 0] (by decide +kernel) rfl ?_
  refine q_obj ob_X7_3.1 ob_X7_3.2.1 ob_X7_3.2.2 (by decide) (Nat.le_of_ble_eq_true rfl) (by decide +kernel) ?_
  refine q_blk (pc' := 7) (lo' := [some (.ref a0), none]) (st' := [.int (nI 40), .ref a0]) [.aload_n 0, .bipush 40] (by decide +kernel) rfl ?_
  refine q_newR (z := 40) (cc := 0) rfl (q_rk0 G) kl_X7_9 rfl (by decide) (by decide) (by decide) (by decide +kernel) ?_
  have s1 : q_sh (q_new A 60 40) (q_sz A) = (60, 40) := q_shn _ _ _
  obtain ⟨s2, h⟩ := h
  refine q_putP (v := (some (q_sz A))) fp_X7_11 rfl rfl (by decide) (by decide +kernel) s2 ?_
  refine q_blk (pc' := 15) (lo' := [some (.ref a0), some (.int (nI 0))]) (st' := []) [.iconst 0, .istore_n 1] (by decide +kernel) rfl ?_
  exact h
theorem f_X7_init_15 {G : q_G} {X : String → q_H → Prop} {f : q_H → Prop} {A : q_H} {a0 : Nat} {x1 : Int32} {k n : Nat} (h : q_sh A a0 = (8, 0) ∧ ∃ r2 : Nat, q_R A a0 0 = some r2 ∧ ∃ z5 : Nat, q_sh A r2 = (60, z5) ∧ z5 < 2147483648 ∧ (((nI z5) ≤ x1 → (k ≤ 121 ∧ n ≤ 560) ∧ f A) ∧ (¬ (nI z5) ≤ x1 → (k + 1 ≤ 121 ∧ n + 5 ≤ 560) ∧ (k + 1 + 2 ≤ 121 ∧ n + 5 + 8 ≤ 560) ∧ q_Wc G M_X0_init [.ref (q_sz A)] (q_new A 1 0) (q_KV fun A12 => ∃ z15 : Nat, q_sh A12 r2 = (60, z15) ∧ z15 < 2147483648 ∧ ∃ j17 : Nat, x1 = nI j17 ∧ j17 < z15 ∧ q_sh A12 (q_sz A) = (1, 0) ∧ q_Wp G M_X7_init (q_KV f) X (k + 1 + 2) (n + 5 + 8) 15 [some (.ref a0), some (.int (x1 + (nI 1)))] [] (q_setR A12 r2 j17 (some (q_sz A)))) q_nX))) : q_Wp G M_X7_init (q_KV f) X k n 15 [some (.ref a0), some (.int x1)] [] A := by
  refine q_blk (pc' := 17) (lo' := [some (.ref a0), some (.int x1)]) (st' := [.ref a0, .int x1]) [.iload_n 1, .aload_n 0] (by decide +kernel) rfl ?_
  obtain ⟨s1, h⟩ := h
  obtain ⟨r2, e3, h⟩ := h
  refine q_getR fl_X7_11 rfl (by decide) (by decide +kernel) s1 e3 ?_
  obtain ⟨z5, s4, b6, h⟩ := h
  refine q_alenR (q_rk0 G) (by decide +kernel) s4 ?_
  refine q_icmp_ge 43 (off := 22) (by decide +kernel) (by decide) (fun c7 => ?_) (fun c7 => ?_)
  · have h := h.1 c7
    obtain ⟨g8, h⟩ := h
    exact q_ret0 rfl g8.1 g8.2 (by decide +kernel) ⟨rfl, h⟩
  · have h := h.2 c7
    refine q_blk (pc' := 25) (lo' := [some (.ref a0), some (.int x1)]) (st' := [.ref a0]) [.aload_n 0] (by decide +kernel) rfl ?_
    refine q_getR fl_X7_11 rfl (by decide) (by decide +kernel) s1 e3 ?_
    refine q_blk (pc' := 29) (lo' := [some (.ref a0), some (.int x1)]) (st' := [.int x1, .ref r2]) [.iload_n 1] (by decide +kernel) rfl ?_
    obtain ⟨g9, h⟩ := h
    refine q_newO (idx := 9) ck0 (by decide) kl_X7_9 nw_0.1 nw_0.2 g9.1 g9.2 (by decide +kernel) ?_
    have s10 : q_sh (q_new A 1 0) (q_sz A) = (1, 0) := q_shn _ _ _
    refine q_blk (pc' := 33) (lo' := [some (.ref a0), some (.int x1)]) (st' := [.ref (q_sz A), .ref (q_sz A), .int x1, .ref r2]) [.dup] (by decide +kernel) rfl ?_
    obtain ⟨g11, h⟩ := h
    refine q_callI (Mc := M_X0_init) (z := 0) (b := (q_sz A)) (As := []) (st := [.ref (q_sz A), .int x1, .ref r2]) mo_X0_init mi0_X0_init mI_X7_17_X0_init rfl rfl rfl rfl (by decide) g11 rfl (Nat.le_of_ble_eq_true rfl) (by decide +kernel) h (q_fV fun A12 h => ?_)
    show q_Wp _ _ _ _ (k + 1 + 2) (n + 5 + 8) 36 [some (.ref a0), some (.int x1)] [.ref (q_sz A), .int x1, .ref r2] A12
    obtain ⟨z15, s14, b16, h⟩ := h
    obtain ⟨j17, e18, h⟩ := h
    obtain ⟨l19, h⟩ := h
    obtain ⟨s20, h⟩ := h
    refine q_aast (r := some (q_sz A)) (q_rk0 G) (by decide) e18 (by decide +kernel) s14 l19 b16 (fun _ q9 => by cases q9; exact s20) ?_
    refine q_blk (pc' := 40) (lo' := [some (.ref a0), some (.int (x1 + (nI 1)))]) (st' := []) [.iinc 1 1] (by decide +kernel) rfl ?_
    refine q_goto 15 (off := -25) (by decide +kernel) (by decide) ?_
    exact h
theorem f_X7_baleAt_0 {G : q_G} {X : String → q_H → Prop} {f : Option Nat → q_H → Prop} {A : q_H} {a0 : Nat} {x1 : Int32} (h : ((x1 < nI 0 → f none A) ∧ (¬ x1 < nI 0 → q_sh A a0 = (8, 0) ∧ (((q_I A a0 1) ≤ x1 → f none A) ∧ (¬ (q_I A a0 1) ≤ x1 → ∃ r4 : Nat, q_R A a0 0 = some r4 ∧ ∃ z7 : Nat, q_sh A r4 = (60, z7) ∧ z7 < 2147483648 ∧ ∃ j9 : Nat, x1 = nI j9 ∧ j9 < z7 ∧ ∃ r12 : Nat, q_R A r4 j9 = some r12 ∧ f (some r12) A))))) : q_Wc G M_X7_baleAt [.ref a0, .int x1] A (q_KR f) X := by
  refine q_Wc.of [some (.ref a0), some (.int x1)] mo_X7_baleAt.2.2.2.2.2 rfl (Nat.le_of_ble_eq_true rfl) rfl ?_
  refine q_blk (pc' := 1) (lo' := [some (.ref a0), some (.int x1)]) (st' := [.int x1]) [.iload_n 1] (by decide +kernel) rfl ?_
  refine q_if_lt 21 (off := 20) (by decide +kernel) (by decide) (fun c1 => ?_) (fun c1 => ?_)
  · have h := h.1 c1
    refine q_blk (pc' := 22) (lo' := [some (.ref a0), some (.int x1)]) (st' := [.null]) [.aconst_null] (by decide +kernel) rfl ?_
    exact q_retR (r := none) rfl (Or.inl ⟨_, rfl⟩) (by decide) (by decide) (by decide +kernel) ⟨_, rfl, h⟩
  · have h := h.2 c1
    refine q_blk (pc' := 6) (lo' := [some (.ref a0), some (.int x1)]) (st' := [.ref a0, .int x1]) [.iload_n 1, .aload_n 0] (by decide +kernel) rfl ?_
    obtain ⟨s2, h⟩ := h
    refine q_getI fl_X7_18 rfl (by decide) (by decide +kernel) s2 ?_
    refine q_icmp_ge 21 (off := 12) (by decide +kernel) (by decide) (fun c3 => ?_) (fun c3 => ?_)
    · have h := h.1 c3
      refine q_blk (pc' := 22) (lo' := [some (.ref a0), some (.int x1)]) (st' := [.null]) [.aconst_null] (by decide +kernel) rfl ?_
      exact q_retR (r := none) rfl (Or.inl ⟨_, rfl⟩) (by decide) (by decide) (by decide +kernel) ⟨_, rfl, h⟩
    · have h := h.2 c3
      refine q_blk (pc' := 13) (lo' := [some (.ref a0), some (.int x1)]) (st' := [.ref a0]) [.aload_n 0] (by decide +kernel) rfl ?_
      obtain ⟨r4, e5, h⟩ := h
      refine q_getR fl_X7_11 rfl (by decide) (by decide +kernel) s2 e5 ?_
      refine q_blk (pc' := 17) (lo' := [some (.ref a0), some (.int x1)]) (st' := [.int x1, .ref r4]) [.iload_n 1] (by decide +kernel) rfl ?_
      obtain ⟨z7, s6, b8, h⟩ := h
      obtain ⟨j9, e10, h⟩ := h
      obtain ⟨l11, h⟩ := h
      obtain ⟨r12, e13, h⟩ := h
      refine q_aaldS (q_rk0 G) e10 (by decide +kernel) s6 l11 b8 e13 ?_
      refine q_goto 22 (off := 4) (by decide +kernel) (by decide) ?_
      exact q_retR (r := (some r12)) rfl (Or.inl ⟨_, rfl⟩) (by decide) (by decide) (by decide +kernel) ⟨_, rfl, h⟩
theorem f_X7_addLast_0 {G : q_G} {X : String → q_H → Prop} {f : Option Nat → q_H → Prop} {A : q_H} {a0 : Nat} (h : q_sh A a0 = (8, 0) ∧ ∃ r2 : Nat, q_R A a0 0 = some r2 ∧ ∃ z5 : Nat, q_sh A r2 = (60, z5) ∧ z5 < 2147483648 ∧ (((q_I A a0 1) < (nI z5) → ∃ j8 : Nat, (q_I A a0 1) = nI j8 ∧ j8 < z5 ∧ ∃ r11 : Nat, q_R A r2 j8 = some r11 ∧ q_sh A r11 = (1, 0) ∧ ∃ r14 : Nat, q_R A r11 4 = some r14 ∧ q_sh A r14 = (3, 0) ∧ q_Wc G M_X2_clear [.ref r14] A (q_KV fun A16 => q_sh A16 a0 = (8, 0) ∧ f (some r11) (q_setI A16 a0 1 ((q_I A16 a0 1) + (nI 1)))) q_nX) ∧ (¬ (q_I A a0 1) < (nI z5) → f none A))) : q_Wc G M_X7_addLast [.ref a0] A (q_KR f) X := by
  refine q_Wc.of [some (.ref a0), none] mo_X7_addLast.2.2.2.2.2 rfl (Nat.le_of_ble_eq_true rfl) rfl ?_
  refine q_blk (pc' := 1) (lo' := [some (.ref a0), none]) (st' := [.ref a0]) [.aload_n 0] (by decide +kernel) rfl ?_
  obtain ⟨s1, h⟩ := h
  refine q_getI fl_X7_18 rfl (by decide) (by decide +kernel) s1 ?_
  refine q_blk (pc' := 5) (lo' := [some (.ref a0), none]) (st' := [.ref a0, .int (q_I A a0 1)]) [.aload_n 0] (by decide +kernel) rfl ?_
  obtain ⟨r2, e3, h⟩ := h
  refine q_getR fl_X7_11 rfl (by decide) (by decide +kernel) s1 e3 ?_
  obtain ⟨z5, s4, b6, h⟩ := h
  refine q_alenR (q_rk0 G) (by decide +kernel) s4 ?_
  refine q_icmp_lt 14 (off := 5) (by decide +kernel) (by decide) (fun c7 => ?_) (fun c7 => ?_)
  · have h := h.1 c7
    refine q_blk (pc' := 15) (lo' := [some (.ref a0), none]) (st' := [.ref a0]) [.aload_n 0] (by decide +kernel) rfl ?_
    refine q_getR fl_X7_11 rfl (by decide) (by decide +kernel) s1 e3 ?_
    refine q_blk (pc' := 19) (lo' := [some (.ref a0), none]) (st' := [.ref a0, .ref r2]) [.aload_n 0] (by decide +kernel) rfl ?_
    refine q_getI fl_X7_18 rfl (by decide) (by decide +kernel) s1 ?_
    obtain ⟨j8, e9, h⟩ := h
    obtain ⟨l10, h⟩ := h
    obtain ⟨r11, e12, h⟩ := h
    refine q_aaldS (q_rk0 G) e9 (by decide +kernel) s4 l10 b6 e12 ?_
    refine q_blk (pc' := 25) (lo' := [some (.ref a0), some (.ref r11)]) (st' := [.ref r11]) [.astore_n 1, .aload_n 1] (by decide +kernel) rfl ?_
    obtain ⟨s13, h⟩ := h
    obtain ⟨r14, e15, h⟩ := h
    refine q_getR fl_X7_22 rfl (by decide) (by decide +kernel) s13 e15 ?_
    obtain ⟨s18, h⟩ := h
    refine q_callV (ci := 2) (Mc := M_X2_clear) (z := 0) (b := r14) (As := []) (st := []) mo_X2_clear mi_X2_clear ml_X7_26_X2_clear rfl rfl (by decide) rfl (by decide) (by decide) rfl (Nat.le_of_ble_eq_true rfl) (by decide +kernel) s18 h (q_fV fun A16 h => ?_)
    show q_Wp _ _ _ _ 0 0 31 [some (.ref a0), some (.ref r11)] [] A16
    refine q_blk (pc' := 33) (lo' := [some (.ref a0), some (.ref r11)]) (st' := [.ref a0, .ref a0]) [.aload_n 0, .dup] (by decide +kernel) rfl ?_
    obtain ⟨s19, h⟩ := h
    refine q_getI fl_X7_18 rfl (by decide) (by decide +kernel) s19 ?_
    refine q_blk (pc' := 38) (lo' := [some (.ref a0), some (.ref r11)]) (st' := [.int ((q_I A16 a0 1) + (nI 1)), .ref a0]) [.iconst 1, .iadd] (by decide +kernel) rfl ?_
    refine q_putI fw_X7_18 rfl (by decide) (by decide +kernel) s19 ?_
    refine q_blk (pc' := 42) (lo' := [some (.ref a0), some (.ref r11)]) (st' := [.ref r11]) [.aload_n 1] (by decide +kernel) rfl ?_
    exact q_retR (r := (some r11)) rfl (Or.inl ⟨_, rfl⟩) (by decide) (by decide) (by decide +kernel) ⟨_, rfl, h⟩
  · have h := h.2 c7
    refine q_blk (pc' := 13) (lo' := [some (.ref a0), none]) (st' := [.null]) [.aconst_null] (by decide +kernel) rfl ?_
    exact q_retR (r := none) rfl (Or.inl ⟨_, rfl⟩) (by decide) (by decide) (by decide +kernel) ⟨_, rfl, h⟩
theorem f_X7_dropBale_0 {G : q_G} {X : String → q_H → Prop} {f : q_H → Prop} {A : q_H} {a0 : Nat} {x1 : Int32} (h : q_sh A a0 = (8, 0) ∧ q_Wc G M_X7_baleAt [.ref a0, .int x1] A (q_KR fun o4 A1 => (o4 = none → f A1) ∧ (∀ r2 : Nat, o4 = some r2 → q_Wp G M_X7_dropBale (q_KV f) X 0 0 15 [some (.ref a0), none, some (.ref r2), some (.int (x1 + (nI 1)))] [] A1)) q_nX) : q_Wc G M_X7_dropBale [.ref a0, .int x1] A (q_KV f) X := by
  refine q_Wc.of [some (.ref a0), some (.int x1), none, none] mo_X7_dropBale.2.2.2.2.2 rfl (Nat.le_of_ble_eq_true rfl) rfl ?_
  refine q_blk (pc' := 2) (lo' := [some (.ref a0), some (.int x1), none, none]) (st' := [.int x1, .ref a0]) [.aload_n 0, .iload_n 1] (by decide +kernel) rfl ?_
  obtain ⟨s3, h⟩ := h
  refine q_callV (ci := 7) (Mc := M_X7_baleAt) (z := 1) (b := a0) (As := [.int x1]) (st := []) mo_X7_baleAt mi_X7_baleAt ml_X7_31_X7_baleAt rfl rfl (by decide) rfl (by decide) (by decide) rfl (Nat.le_of_ble_eq_true rfl) (by decide +kernel) s3 h (q_fR (fun A1 h => ?_) (fun r2 A1 h => ?_))
  · have h := h.1 rfl
    show q_Wp _ _ _ _ 0 0 5 [some (.ref a0), some (.int x1), none, none] [.null] A1
    refine q_blk (pc' := 7) (lo' := [some (.ref a0), some (.int x1), some (.null), none]) (st' := [.null]) [.astore_n 2, .aload_n 2] (by decide +kernel) rfl ?_
    refine q_nnl_n (off := 4) (by decide +kernel) ?_
    exact q_ret0 rfl (by decide) (by decide) (by decide +kernel) ⟨rfl, h⟩
  · have h := h.2 r2 rfl
    show q_Wp _ _ _ _ 0 0 5 [some (.ref a0), some (.int x1), none, none] [.ref r2] A1
    refine q_blk (pc' := 7) (lo' := [some (.ref a0), some (.int x1), some (.ref r2), none]) (st' := [.ref r2]) [.astore_n 2, .aload_n 2] (by decide +kernel) rfl ?_
    refine q_nnl_y 11 (off := 4) (by decide +kernel) (by decide) ?_
    refine q_blk (pc' := 15) (lo' := [some (.ref a0), some (.int x1), some (.ref r2), some (.int (x1 + (nI 1)))]) (st' := []) [.iload_n 1, .iconst 1, .iadd, .istore_n 3] (by decide +kernel) rfl ?_
    exact q_wk [some (.ref a0), none, some (.ref r2), some (.int (x1 + (nI 1)))] (And.intro rfl (And.intro rfl (And.intro rfl trivial))) h
theorem f_X7_dropBale_15 {G : q_G} {X : String → q_H → Prop} {f : q_H → Prop} {A : q_H} {a0 : Nat} {a2 : Nat} {x3 : Int32} (h : q_sh A a0 = (8, 0) ∧ (((q_I A a0 1) ≤ x3 → ∃ r3 : Nat, q_R A a0 0 = some r3 ∧ ∃ z6 : Nat, q_sh A r3 = (60, z6) ∧ z6 < 2147483648 ∧ ∃ j8 : Nat, (q_I (q_setI A a0 1 ((q_I A a0 1) - (nI 1))) a0 1) = nI j8 ∧ j8 < z6 ∧ q_sh A a2 = (1, 0) ∧ f (q_setR (q_setI A a0 1 ((q_I A a0 1) - (nI 1))) r3 j8 (some a2))) ∧ (¬ (q_I A a0 1) ≤ x3 → ∃ r12 : Nat, q_R A a0 0 = some r12 ∧ ∃ z15 : Nat, q_sh A r12 = (60, z15) ∧ z15 < 2147483648 ∧ ∃ j17 : Nat, x3 = nI j17 ∧ j17 < z15 ∧ ∃ r20 : Nat, q_R A r12 j17 = some r20 ∧ ∃ j22 : Nat, (x3 - (nI 1)) = nI j22 ∧ j22 < z15 ∧ q_sh A r20 = (1, 0) ∧ q_Wp G M_X7_dropBale (q_KV f) X 0 0 15 [some (.ref a0), none, some (.ref a2), some (.int (x3 + (nI 1)))] [] (q_setR A r12 j22 (some r20))))) : q_Wp G M_X7_dropBale (q_KV f) X 0 0 15 [some (.ref a0), none, some (.ref a2), some (.int x3)] [] A := by
  refine q_blk (pc' := 17) (lo' := [some (.ref a0), none, some (.ref a2), some (.int x3)]) (st' := [.ref a0, .int x3]) [.iload_n 3, .aload_n 0] (by decide +kernel) rfl ?_
  obtain ⟨s1, h⟩ := h
  refine q_getI fl_X7_18 rfl (by decide) (by decide +kernel) s1 ?_
  refine q_icmp_ge 43 (off := 23) (by decide +kernel) (by decide) (fun c2 => ?_) (fun c2 => ?_)
  · have h := h.1 c2
    refine q_blk (pc' := 45) (lo' := [some (.ref a0), none, some (.ref a2), some (.int x3)]) (st' := [.ref a0, .ref a0]) [.aload_n 0, .dup] (by decide +kernel) rfl ?_
    refine q_getI fl_X7_18 rfl (by decide) (by decide +kernel) s1 ?_
    refine q_blk (pc' := 50) (lo' := [some (.ref a0), none, some (.ref a2), some (.int x3)]) (st' := [.int ((q_I A a0 1) - (nI 1)), .ref a0]) [.iconst 1, .isub] (by decide +kernel) rfl ?_
    refine q_putI fw_X7_18 rfl (by decide) (by decide +kernel) s1 ?_
    refine q_blk (pc' := 54) (lo' := [some (.ref a0), none, some (.ref a2), some (.int x3)]) (st' := [.ref a0]) [.aload_n 0] (by decide +kernel) rfl ?_
    obtain ⟨r3, e4, h⟩ := h
    refine q_getR fl_X7_11 rfl (by decide) (by decide +kernel) s1 e4 ?_
    refine q_blk (pc' := 58) (lo' := [some (.ref a0), none, some (.ref a2), some (.int x3)]) (st' := [.ref a0, .ref r3]) [.aload_n 0] (by decide +kernel) rfl ?_
    refine q_getI fl_X7_18 rfl (by decide) (by decide +kernel) s1 ?_
    refine q_blk (pc' := 62) (lo' := [some (.ref a0), none, some (.ref a2), some (.int x3)]) (st' := [.ref a2, .int (q_I (q_setI A a0 1 ((q_I A a0 1) - (nI 1))) a0 1), .ref r3]) [.aload_n 2] (by decide +kernel) rfl ?_
    obtain ⟨z6, s5, b7, h⟩ := h
    obtain ⟨j8, e9, h⟩ := h
    obtain ⟨l10, h⟩ := h
    obtain ⟨s11, h⟩ := h
    refine q_aast (r := some a2) (q_rk0 G) (by decide) e9 (by decide +kernel) s5 l10 b7 (fun _ q9 => by cases q9; exact s11) ?_
    exact q_ret0 rfl (by decide) (by decide) (by decide +kernel) ⟨rfl, h⟩
  · have h := h.2 c2
    refine q_blk (pc' := 24) (lo' := [some (.ref a0), none, some (.ref a2), some (.int x3)]) (st' := [.ref a0]) [.aload_n 0] (by decide +kernel) rfl ?_
    obtain ⟨r12, e13, h⟩ := h
    refine q_getR fl_X7_11 rfl (by decide) (by decide +kernel) s1 e13 ?_
    refine q_blk (pc' := 31) (lo' := [some (.ref a0), none, some (.ref a2), some (.int x3)]) (st' := [.ref a0, .int (x3 - (nI 1)), .ref r12]) [.iload_n 3, .iconst 1, .isub, .aload_n 0] (by decide +kernel) rfl ?_
    refine q_getR fl_X7_11 rfl (by decide) (by decide +kernel) s1 e13 ?_
    refine q_blk (pc' := 35) (lo' := [some (.ref a0), none, some (.ref a2), some (.int x3)]) (st' := [.int x3, .ref r12, .int (x3 - (nI 1)), .ref r12]) [.iload_n 3] (by decide +kernel) rfl ?_
    obtain ⟨z15, s14, b16, h⟩ := h
    obtain ⟨j17, e18, h⟩ := h
    obtain ⟨l19, h⟩ := h
    obtain ⟨r20, e21, h⟩ := h
    refine q_aaldS (q_rk0 G) e18 (by decide +kernel) s14 l19 b16 e21 ?_
    obtain ⟨j22, e23, h⟩ := h
    obtain ⟨l24, h⟩ := h
    obtain ⟨s25, h⟩ := h
    refine q_aast (r := some r20) (q_rk0 G) (by decide) e23 (by decide +kernel) s14 l24 b16 (fun _ q9 => by cases q9; exact s25) ?_
    refine q_blk (pc' := 40) (lo' := [some (.ref a0), none, some (.ref a2), some (.int (x3 + (nI 1)))]) (st' := []) [.iinc 3 1] (by decide +kernel) rfl ?_
    refine q_goto 15 (off := -25) (by decide +kernel) (by decide) ?_
    exact h
theorem f_X7_totalMass_0 {G : q_G} {X : String → q_H → Prop} {f : Int32 → q_H → Prop} {A : q_H} {a0 : Nat} (h : q_Wp G M_X7_totalMass (q_KI f) X 0 0 4 [some (.ref a0), some (.int (nI 0)), some (.int (nI 0))] [] A) : q_Wc G M_X7_totalMass [.ref a0] A (q_KI f) X := by
  refine q_Wc.of [some (.ref a0), none, none] mo_X7_totalMass.2.2.2.2.2 rfl (Nat.le_of_ble_eq_true rfl) rfl ?_
  refine q_blk (pc' := 4) (lo' := [some (.ref a0), some (.int (nI 0)), some (.int (nI 0))]) (st' := []) [.iconst 0, .istore_n 1, .iconst 0, .istore_n 2] (by decide +kernel) rfl ?_
  exact h
theorem f_X7_totalMass_4 {G : q_G} {X : String → q_H → Prop} {f : Int32 → q_H → Prop} {A : q_H} {a0 : Nat} {x1 : Int32} {x2 : Int32} (h : q_sh A a0 = (8, 0) ∧ (((q_I A a0 1) ≤ x2 → f x1 A) ∧ (¬ (q_I A a0 1) ≤ x2 → ∃ r3 : Nat, q_R A a0 0 = some r3 ∧ ∃ z6 : Nat, q_sh A r3 = (60, z6) ∧ z6 < 2147483648 ∧ ∃ j8 : Nat, x2 = nI j8 ∧ j8 < z6 ∧ ∃ r11 : Nat, q_R A r3 j8 = some r11 ∧ q_sh A r11 = (1, 0) ∧ ∃ r14 : Nat, q_R A r11 4 = some r14 ∧ q_sh A r14 = (3, 0) ∧ q_Wp G M_X7_totalMass (q_KI f) X 0 0 4 [some (.ref a0), some (.int (x1 + (q_I A r14 1))), some (.int (x2 + (nI 1)))] [] A))) : q_Wp G M_X7_totalMass (q_KI f) X 0 0 4 [some (.ref a0), some (.int x1), some (.int x2)] [] A := by
  refine q_blk (pc' := 6) (lo' := [some (.ref a0), some (.int x1), some (.int x2)]) (st' := [.ref a0, .int x2]) [.iload_n 2, .aload_n 0] (by decide +kernel) rfl ?_
  obtain ⟨s1, h⟩ := h
  refine q_getI fl_X7_18 rfl (by decide) (by decide +kernel) s1 ?_
  refine q_icmp_ge 33 (off := 24) (by decide +kernel) (by decide) (fun c2 => ?_) (fun c2 => ?_)
  · have h := h.1 c2
    refine q_blk (pc' := 34) (lo' := [some (.ref a0), some (.int x1), some (.int x2)]) (st' := [.int x1]) [.iload_n 1] (by decide +kernel) rfl ?_
    exact q_retI rfl (by decide) (by decide) (by decide +kernel) ⟨_, rfl, h⟩
  · have h := h.2 c2
    refine q_blk (pc' := 14) (lo' := [some (.ref a0), some (.int x1), some (.int x2)]) (st' := [.ref a0, .int x1]) [.iload_n 1, .aload_n 0] (by decide +kernel) rfl ?_
    obtain ⟨r3, e4, h⟩ := h
    refine q_getR fl_X7_11 rfl (by decide) (by decide +kernel) s1 e4 ?_
    refine q_blk (pc' := 18) (lo' := [some (.ref a0), some (.int x1), some (.int x2)]) (st' := [.int x2, .ref r3, .int x1]) [.iload_n 2] (by decide +kernel) rfl ?_
    obtain ⟨z6, s5, b7, h⟩ := h
    obtain ⟨j8, e9, h⟩ := h
    obtain ⟨l10, h⟩ := h
    obtain ⟨r11, e12, h⟩ := h
    refine q_aaldS (q_rk0 G) e9 (by decide +kernel) s5 l10 b7 e12 ?_
    obtain ⟨s13, h⟩ := h
    obtain ⟨r14, e15, h⟩ := h
    refine q_getR fl_X7_22 rfl (by decide) (by decide +kernel) s13 e15 ?_
    obtain ⟨s16, h⟩ := h
    refine q_getI fl_X7_35 rfl (by decide) (by decide +kernel) s16 ?_
    refine q_blk (pc' := 30) (lo' := [some (.ref a0), some (.int (x1 + (q_I A r14 1))), some (.int (x2 + (nI 1)))]) (st' := []) [.iadd, .istore_n 1, .iinc 2 1] (by decide +kernel) rfl ?_
    refine q_goto 4 (off := -26) (by decide +kernel) (by decide) ?_
    exact h
theorem f_X7_copyFrom_0 {G : q_G} {X : String → q_H → Prop} {f : q_H → Prop} {A : q_H} {a0 : Nat} {a1 : Nat} (h : q_sh A a1 = (8, 0) ∧ q_sh A a0 = (8, 0) ∧ q_Wp G M_X7_copyFrom (q_KV f) X 0 0 10 [some (.ref a0), some (.ref a1), some (.int (nI 0))] [] (q_setI A a0 1 (q_I A a1 1))) : q_Wc G M_X7_copyFrom [.ref a0, .ref a1] A (q_KV f) X := by
  refine q_Wc.of [some (.ref a0), some (.ref a1), none] mo_X7_copyFrom.2.2.2.2.2 rfl (Nat.le_of_ble_eq_true rfl) rfl ?_
  refine q_blk (pc' := 2) (lo' := [some (.ref a0), some (.ref a1), none]) (st' := [.ref a1, .ref a0]) [.aload_n 0, .aload_n 1] (by decide +kernel) rfl ?_
  obtain ⟨s1, h⟩ := h
  refine q_getI fl_X7_18 rfl (by decide) (by decide +kernel) s1 ?_
  obtain ⟨s2, h⟩ := h
  refine q_putI fw_X7_18 rfl (by decide) (by decide +kernel) s2 ?_
  refine q_blk (pc' := 10) (lo' := [some (.ref a0), some (.ref a1), some (.int (nI 0))]) (st' := []) [.iconst 0, .istore_n 2] (by decide +kernel) rfl ?_
  exact h
theorem f_X7_copyFrom_10 {G : q_G} {X : String → q_H → Prop} {f : q_H → Prop} {A : q_H} {a0 : Nat} {a1 : Nat} {x2 : Int32} (h : q_sh A a0 = (8, 0) ∧ (((q_I A a0 1) ≤ x2 → f A) ∧ (¬ (q_I A a0 1) ≤ x2 → ∃ r3 : Nat, q_R A a0 0 = some r3 ∧ ∃ z6 : Nat, q_sh A r3 = (60, z6) ∧ z6 < 2147483648 ∧ ∃ j8 : Nat, x2 = nI j8 ∧ j8 < z6 ∧ ∃ r11 : Nat, q_R A r3 j8 = some r11 ∧ q_sh A a1 = (8, 0) ∧ ∃ r14 : Nat, q_R A a1 0 = some r14 ∧ ∃ z17 : Nat, q_sh A r14 = (60, z17) ∧ z17 < 2147483648 ∧ j8 < z17 ∧ ∃ r20 : Nat, q_R A r14 j8 = some r20 ∧ q_sh A r11 = (1, 0) ∧ q_Wc G M_X0_copyFrom [.ref r11, .ref r20] A (q_KV fun A22 => q_Wp G M_X7_copyFrom (q_KV f) X 0 0 10 [some (.ref a0), some (.ref a1), some (.int (x2 + (nI 1)))] [] A22) q_nX))) : q_Wp G M_X7_copyFrom (q_KV f) X 0 0 10 [some (.ref a0), some (.ref a1), some (.int x2)] [] A := by
  refine q_blk (pc' := 12) (lo' := [some (.ref a0), some (.ref a1), some (.int x2)]) (st' := [.ref a0, .int x2]) [.iload_n 2, .aload_n 0] (by decide +kernel) rfl ?_
  obtain ⟨s1, h⟩ := h
  refine q_getI fl_X7_18 rfl (by decide) (by decide +kernel) s1 ?_
  refine q_icmp_ge 39 (off := 24) (by decide +kernel) (by decide) (fun c2 => ?_) (fun c2 => ?_)
  · have h := h.1 c2
    exact q_ret0 rfl (by decide) (by decide) (by decide +kernel) ⟨rfl, h⟩
  · have h := h.2 c2
    refine q_blk (pc' := 19) (lo' := [some (.ref a0), some (.ref a1), some (.int x2)]) (st' := [.ref a0]) [.aload_n 0] (by decide +kernel) rfl ?_
    obtain ⟨r3, e4, h⟩ := h
    refine q_getR fl_X7_11 rfl (by decide) (by decide +kernel) s1 e4 ?_
    refine q_blk (pc' := 23) (lo' := [some (.ref a0), some (.ref a1), some (.int x2)]) (st' := [.int x2, .ref r3]) [.iload_n 2] (by decide +kernel) rfl ?_
    obtain ⟨z6, s5, b7, h⟩ := h
    obtain ⟨j8, e9, h⟩ := h
    obtain ⟨l10, h⟩ := h
    obtain ⟨r11, e12, h⟩ := h
    refine q_aaldS (q_rk0 G) e9 (by decide +kernel) s5 l10 b7 e12 ?_
    refine q_blk (pc' := 25) (lo' := [some (.ref a0), some (.ref a1), some (.int x2)]) (st' := [.ref a1, .ref r11]) [.aload_n 1] (by decide +kernel) rfl ?_
    obtain ⟨s13, h⟩ := h
    obtain ⟨r14, e15, h⟩ := h
    refine q_getR fl_X7_11 rfl (by decide) (by decide +kernel) s13 e15 ?_
    refine q_blk (pc' := 29) (lo' := [some (.ref a0), some (.ref a1), some (.int x2)]) (st' := [.int x2, .ref r14, .ref r11]) [.iload_n 2] (by decide +kernel) rfl ?_
    obtain ⟨z17, s16, b18, h⟩ := h
    obtain ⟨l19, h⟩ := h
    obtain ⟨r20, e21, h⟩ := h
    refine q_aaldS (q_rk0 G) e9 (by decide +kernel) s16 l19 b18 e21 ?_
    obtain ⟨s24, h⟩ := h
    refine q_callV (ci := 0) (Mc := M_X0_copyFrom) (z := 1) (b := r11) (As := [.ref r20]) (st := []) mo_X0_copyFrom mi_X0_copyFrom ml_X7_38_X0_copyFrom rfl rfl (by decide) rfl (by decide) (by decide) rfl (Nat.le_of_ble_eq_true rfl) (by decide +kernel) s24 h (q_fV fun A22 h => ?_)
    show q_Wp _ _ _ _ 0 0 33 [some (.ref a0), some (.ref a1), some (.int x2)] [] A22
    refine q_blk (pc' := 36) (lo' := [some (.ref a0), some (.ref a1), some (.int (x2 + (nI 1)))]) (st' := []) [.iinc 2 1] (by decide +kernel) rfl ?_
    refine q_goto 10 (off := -26) (by decide +kernel) (by decide) ?_
    exact h
theorem f_X1_init_0 {G : q_G} {X : String → q_H → Prop} {f : q_H → Prop} {A : q_H} {a0 : Nat} (h : f A) : q_Wc G M_X1_init [.ref a0] A (q_KV f) X := by
  refine q_Wc.of [some (.ref a0)] mo_X1_init.2.2.2.2.2 rfl (Nat.le_of_ble_eq_true rfl) rfl ?_
  refine q_blk (pc' := 1) (lo' := [some (.ref a0)]) (st' := [.ref a0]) [.aload_n 0] (by decide +kernel) rfl ?_
  refine q_obj ob_X1_1.1 ob_X1_1.2.1 ob_X1_1.2.2 (by decide) (Nat.le_of_ble_eq_true rfl) (by decide +kernel) ?_
  exact q_ret0 rfl (by decide) (by decide) (by decide +kernel) ⟨rfl, h⟩
theorem f_X1_takes_0 {G : q_G} {X : String → q_H → Prop} {f : Bool → q_H → Prop} {A : q_H} {a0 : Nat} {a1 : Nat} (h : q_sh A a1 = (1, 0) ∧ q_sh A a0 = (2, 0) ∧ (((q_I A a1 1) = (q_I A a0 1) → (((q_I A a0 2) < (q_I A a1 3) → f false A) ∧ (¬ (q_I A a0 2) < (q_I A a1 3) → f true A))) ∧ (¬ (q_I A a1 1) = (q_I A a0 1) → f false A))) : q_Wc G M_X1_takes [.ref a0, .ref a1] A (q_KB f) X := by
  refine q_Wc.of [some (.ref a0), some (.ref a1)] mo_X1_takes.2.2.2.2.2 rfl (Nat.le_of_ble_eq_true rfl) rfl ?_
  refine q_blk (pc' := 1) (lo' := [some (.ref a0), some (.ref a1)]) (st' := [.ref a1]) [.aload_n 1] (by decide +kernel) rfl ?_
  obtain ⟨s1, h⟩ := h
  refine q_getI fl_X1_7 rfl (by decide) (by decide +kernel) s1 ?_
  refine q_blk (pc' := 5) (lo' := [some (.ref a0), some (.ref a1)]) (st' := [.ref a0, .int (q_I A a1 1)]) [.aload_n 0] (by decide +kernel) rfl ?_
  obtain ⟨s2, h⟩ := h
  refine q_getI fl_X1_13 rfl (by decide) (by decide +kernel) s2 ?_
  refine q_icmp_ne 26 (off := 18) (by decide +kernel) (by decide) (fun c3 => ?_) (fun c3 => ?_)
  · have h := h.2 c3
    refine q_blk (pc' := 27) (lo' := [some (.ref a0), some (.ref a1)]) (st' := [.int (nI 0)]) [.iconst 0] (by decide +kernel) rfl ?_
    exact q_retZ (r := q_i false) rfl (q_nz _) (by decide) (by decide) (by decide +kernel) ⟨false, rfl, h⟩
  · have h := h.1 c3
    refine q_blk (pc' := 12) (lo' := [some (.ref a0), some (.ref a1)]) (st' := [.ref a1]) [.aload_n 1] (by decide +kernel) rfl ?_
    refine q_getI fl_X1_16 rfl (by decide) (by decide +kernel) s1 ?_
    refine q_blk (pc' := 16) (lo' := [some (.ref a0), some (.ref a1)]) (st' := [.ref a0, .int (q_I A a1 3)]) [.aload_n 0] (by decide +kernel) rfl ?_
    refine q_getI fl_X1_19 rfl (by decide) (by decide +kernel) s2 ?_
    refine q_icmp_gt 26 (off := 7) (by decide +kernel) (by decide) (fun c4 => ?_) (fun c4 => ?_)
    · have h := h.1 c4
      refine q_blk (pc' := 27) (lo' := [some (.ref a0), some (.ref a1)]) (st' := [.int (nI 0)]) [.iconst 0] (by decide +kernel) rfl ?_
      exact q_retZ (r := q_i false) rfl (q_nz _) (by decide) (by decide) (by decide +kernel) ⟨false, rfl, h⟩
    · have h := h.2 c4
      refine q_blk (pc' := 23) (lo' := [some (.ref a0), some (.ref a1)]) (st' := [.int (nI 1)]) [.iconst 1] (by decide +kernel) rfl ?_
      refine q_goto 27 (off := 4) (by decide +kernel) (by decide) ?_
      exact q_retZ (r := q_i true) rfl (q_nz _) (by decide) (by decide) (by decide +kernel) ⟨true, rfl, h⟩
theorem f_X1_sendsBack_0 {G : q_G} {X : String → q_H → Prop} {f : Bool → q_H → Prop} {A : q_H} {a0 : Nat} {a1 : Nat} (h : q_sh A a1 = (1, 0) ∧ q_sh A a0 = (2, 0) ∧ ((((nI 100) - (q_I A a1 2)) ≤ (q_I A a0 5) → f false A) ∧ (¬ ((nI 100) - (q_I A a1 2)) ≤ (q_I A a0 5) → f true A))) : q_Wc G M_X1_sendsBack [.ref a0, .ref a1] A (q_KB f) X := by
  refine q_Wc.of [some (.ref a0), some (.ref a1)] mo_X1_sendsBack.2.2.2.2.2 rfl (Nat.le_of_ble_eq_true rfl) rfl ?_
  refine q_blk (pc' := 3) (lo' := [some (.ref a0), some (.ref a1)]) (st' := [.ref a1, .int (nI 100)]) [.bipush 100, .aload_n 1] (by decide +kernel) rfl ?_
  obtain ⟨s1, h⟩ := h
  refine q_getI fl_X1_22 rfl (by decide) (by decide +kernel) s1 ?_
  refine q_blk (pc' := 8) (lo' := [some (.ref a0), some (.ref a1)]) (st' := [.ref a0, .int ((nI 100) - (q_I A a1 2))]) [.isub, .aload_n 0] (by decide +kernel) rfl ?_
  obtain ⟨s2, h⟩ := h
  refine q_getI fl_X1_25 rfl (by decide) (by decide +kernel) s2 ?_
  refine q_icmp_le 18 (off := 7) (by decide +kernel) (by decide) (fun c3 => ?_) (fun c3 => ?_)
  · have h := h.1 c3
    refine q_blk (pc' := 19) (lo' := [some (.ref a0), some (.ref a1)]) (st' := [.int (nI 0)]) [.iconst 0] (by decide +kernel) rfl ?_
    exact q_retZ (r := q_i false) rfl (q_nz _) (by decide) (by decide) (by decide +kernel) ⟨false, rfl, h⟩
  · have h := h.2 c3
    refine q_blk (pc' := 15) (lo' := [some (.ref a0), some (.ref a1)]) (st' := [.int (nI 1)]) [.iconst 1] (by decide +kernel) rfl ?_
    refine q_goto 19 (off := 4) (by decide +kernel) (by decide) ?_
    exact q_retZ (r := q_i true) rfl (q_nz _) (by decide) (by decide) (by decide +kernel) ⟨true, rfl, h⟩
theorem f_X1_claimsFor_0 {G : q_G} {X : String → q_H → Prop} {f : Bool → q_H → Prop} {A : q_H} {a0 : Nat} {a1 : Nat} (h : q_sh A a1 = (1, 0) ∧ q_sh A a0 = (2, 0) ∧ ((((nI 100) - (q_I A a1 2)) ≤ (q_I A a0 4) → f false A) ∧ (¬ ((nI 100) - (q_I A a1 2)) ≤ (q_I A a0 4) → f true A))) : q_Wc G M_X1_claimsFor [.ref a0, .ref a1] A (q_KB f) X := by
  refine q_Wc.of [some (.ref a0), some (.ref a1)] mo_X1_claimsFor.2.2.2.2.2 rfl (Nat.le_of_ble_eq_true rfl) rfl ?_
  refine q_blk (pc' := 3) (lo' := [some (.ref a0), some (.ref a1)]) (st' := [.ref a1, .int (nI 100)]) [.bipush 100, .aload_n 1] (by decide +kernel) rfl ?_
  obtain ⟨s1, h⟩ := h
  refine q_getI fl_X1_22 rfl (by decide) (by decide +kernel) s1 ?_
  refine q_blk (pc' := 8) (lo' := [some (.ref a0), some (.ref a1)]) (st' := [.ref a0, .int ((nI 100) - (q_I A a1 2))]) [.isub, .aload_n 0] (by decide +kernel) rfl ?_
  obtain ⟨s2, h⟩ := h
  refine q_getI fl_X1_28 rfl (by decide) (by decide +kernel) s2 ?_
  refine q_icmp_le 18 (off := 7) (by decide +kernel) (by decide) (fun c3 => ?_) (fun c3 => ?_)
  · have h := h.1 c3
    refine q_blk (pc' := 19) (lo' := [some (.ref a0), some (.ref a1)]) (st' := [.int (nI 0)]) [.iconst 0] (by decide +kernel) rfl ?_
    exact q_retZ (r := q_i false) rfl (q_nz _) (by decide) (by decide) (by decide +kernel) ⟨false, rfl, h⟩
  · have h := h.2 c3
    refine q_blk (pc' := 15) (lo' := [some (.ref a0), some (.ref a1)]) (st' := [.int (nI 1)]) [.iconst 1] (by decide +kernel) rfl ?_
    refine q_goto 19 (off := 4) (by decide +kernel) (by decide) ?_
    exact q_retZ (r := q_i true) rfl (q_nz _) (by decide) (by decide) (by decide +kernel) ⟨true, rfl, h⟩
theorem f_X1_payFor_0 {G : q_G} {X : String → q_H → Prop} {f : Int32 → q_H → Prop} {A : q_H} {a0 : Nat} {a1 : Nat} {x2 : Int32} (h : q_sh A a1 = (1, 0) ∧ q_sh A a0 = (2, 0) ∧ q_Wc G M_X1_worthOf [.ref a0, .int (q_I A a1 3)] A (q_KI fun r3 A2 => q_sh A2 a0 = (2, 0) ∧ q_Wc G M_X1_claimsFor [.ref a0, .ref a1] A2 (q_KB fun b6 A5 => ((b6 = true → q_sh A5 a0 = (2, 0) ∧ q_sh A5 a1 = (1, 0) ∧ f (r3 - (if r3 < ((((q_I A5 a0 3) * (((nI 100) - (q_I A5 a1 2)) - (q_I A5 a0 4))) * x2) / (nI 100)) then r3 else ((((q_I A5 a0 3) * (((nI 100) - (q_I A5 a1 2)) - (q_I A5 a0 4))) * x2) / (nI 100)))) A5) ∧ (b6 = false → f r3 A5))) q_nX) q_nX) : q_Wc G M_X1_payFor [.ref a0, .ref a1, .int x2] A (q_KI f) X := by
  refine q_Wc.of [some (.ref a0), some (.ref a1), some (.int x2), none, none] mo_X1_payFor.2.2.2.2.2 rfl (Nat.le_of_ble_eq_true rfl) rfl ?_
  refine q_blk (pc' := 2) (lo' := [some (.ref a0), some (.ref a1), some (.int x2), none, none]) (st' := [.ref a1, .ref a0]) [.aload_n 0, .aload_n 1] (by decide +kernel) rfl ?_
  obtain ⟨s1, h⟩ := h
  refine q_getI fl_X1_16 rfl (by decide) (by decide +kernel) s1 ?_
  obtain ⟨s4, h⟩ := h
  refine q_callV (ci := 1) (Mc := M_X1_worthOf) (z := 1) (b := a0) (As := [.int (q_I A a1 3)]) (st := []) mo_X1_worthOf mi_X1_worthOf ml_X1_31_X1_worthOf rfl rfl (by decide) rfl (by decide) (by decide) rfl (Nat.le_of_ble_eq_true rfl) (by decide +kernel) s4 h (q_fI fun r3 A2 h => ?_)
  show q_Wp _ _ _ _ 0 0 8 [some (.ref a0), some (.ref a1), some (.int x2), none, none] [.int r3] A2
  refine q_blk (pc' := 11) (lo' := [some (.ref a0), some (.ref a1), some (.int x2), some (.int r3), none]) (st' := [.ref a1, .ref a0]) [.istore_n 3, .aload_n 0, .aload_n 1] (by decide +kernel) rfl ?_
  obtain ⟨s7, h⟩ := h
  refine q_callV (ci := 1) (Mc := M_X1_claimsFor) (z := 1) (b := a0) (As := [.ref a1]) (st := []) mo_X1_claimsFor mi_X1_claimsFor ml_X1_35_X1_claimsFor rfl rfl (by decide) rfl (by decide) (by decide) rfl (Nat.le_of_ble_eq_true rfl) (by decide +kernel) s7 h (q_fB fun b6 A5 h => ?_)
  show q_Wp _ _ _ _ 0 0 14 [some (.ref a0), some (.ref a1), some (.int x2), some (.int r3), none] [.int (q_i b6)] A5
  refine q_ifB_ne 19 (off := 5) (by decide +kernel) (by decide) (fun c8 => ?_) (fun c8 => ?_)
  · have h := h.1 c8
    refine q_blk (pc' := 20) (lo' := [some (.ref a0), some (.ref a1), some (.int x2), some (.int r3), none]) (st' := [.ref a0]) [.aload_n 0] (by decide +kernel) rfl ?_
    obtain ⟨s10, h⟩ := h
    refine q_getI fl_X1_39 rfl (by decide) (by decide +kernel) s10 ?_
    refine q_blk (pc' := 26) (lo' := [some (.ref a0), some (.ref a1), some (.int x2), some (.int r3), none]) (st' := [.ref a1, .int (nI 100), .int (q_I A5 a0 3)]) [.bipush 100, .aload_n 1] (by decide +kernel) rfl ?_
    obtain ⟨s11, h⟩ := h
    refine q_getI fl_X1_22 rfl (by decide) (by decide +kernel) s11 ?_
    refine q_blk (pc' := 31) (lo' := [some (.ref a0), some (.ref a1), some (.int x2), some (.int r3), none]) (st' := [.ref a0, .int ((nI 100) - (q_I A5 a1 2)), .int (q_I A5 a0 3)]) [.isub, .aload_n 0] (by decide +kernel) rfl ?_
    refine q_getI fl_X1_28 rfl (by decide) (by decide +kernel) s10 ?_
    refine q_blk (pc' := 40) (lo' := [some (.ref a0), some (.ref a1), some (.int x2), some (.int r3), none]) (st' := [.int (nI 100), .int (((q_I A5 a0 3) * (((nI 100) - (q_I A5 a1 2)) - (q_I A5 a0 4))) * x2)]) [.isub, .imul, .iload_n 2, .imul, .bipush 100] (by decide +kernel) rfl ?_
    refine q_idiv (by decide +kernel) (by decide) ?_
    refine q_blk (pc' := 47) (lo' := [some (.ref a0), some (.ref a1), some (.int x2), some (.int r3), some (.int ((((q_I A5 a0 3) * (((nI 100) - (q_I A5 a1 2)) - (q_I A5 a0 4))) * x2) / (nI 100)))]) (st' := [.int r3, .int ((((q_I A5 a0 3) * (((nI 100) - (q_I A5 a1 2)) - (q_I A5 a0 4))) * x2) / (nI 100)), .int r3]) [.istore 4, .iload_n 3, .iload 4, .iload_n 3] (by decide +kernel) rfl ?_
    refine q_mmin mm_X1_42_i.1 mm_X1_42_i.2.1 mm_X1_42_i.2.2.1 mm_X1_42_i.2.2.2 (by decide) (Nat.le_of_ble_eq_true rfl) (by decide) (by decide) (by decide +kernel) ?_
    refine q_blk (pc' := 51) (lo' := [some (.ref a0), some (.ref a1), some (.int x2), some (.int r3), some (.int ((((q_I A5 a0 3) * (((nI 100) - (q_I A5 a1 2)) - (q_I A5 a0 4))) * x2) / (nI 100)))]) (st' := [.int (r3 - (if r3 < ((((q_I A5 a0 3) * (((nI 100) - (q_I A5 a1 2)) - (q_I A5 a0 4))) * x2) / (nI 100)) then r3 else ((((q_I A5 a0 3) * (((nI 100) - (q_I A5 a1 2)) - (q_I A5 a0 4))) * x2) / (nI 100))))]) [.isub] (by decide +kernel) rfl ?_
    exact q_retI rfl (by decide) (by decide) (by decide +kernel) ⟨_, rfl, h⟩
  · have h := h.2 c8
    refine q_blk (pc' := 18) (lo' := [some (.ref a0), some (.ref a1), some (.int x2), some (.int r3), none]) (st' := [.int r3]) [.iload_n 3] (by decide +kernel) rfl ?_
    exact q_retI rfl (by decide) (by decide) (by decide +kernel) ⟨_, rfl, h⟩
theorem f_X1_worthOf_0 {G : q_G} {X : String → q_H → Prop} {f : Int32 → q_H → Prop} {A : q_H} {a0 : Nat} {x1 : Int32} (h : ((x1 = nI 0 → q_sh A a0 = (2, 0) ∧ f (q_I A a0 3) A) ∧ (x1 = nI 1 → q_sh A a0 = (2, 0) ∧ f (((q_I A a0 3) * (nI 70)) / (nI 100)) A) ∧ (¬ x1 = nI 0 → ¬ x1 = nI 1 → q_sh A a0 = (2, 0) ∧ f (((q_I A a0 3) * (nI 40)) / (nI 100)) A))) : q_Wc G M_X1_worthOf [.ref a0, .int x1] A (q_KI f) X := by
  refine q_Wc.of [some (.ref a0), some (.int x1)] mo_X1_worthOf.2.2.2.2.2 rfl (Nat.le_of_ble_eq_true rfl) rfl ?_
  refine q_blk (pc' := 1) (lo' := [some (.ref a0), some (.int x1)]) (st' := [.int x1]) [.iload_n 1] (by decide +kernel) rfl ?_
  refine q_lsw 28 33 44 sw_X1_worthOf_1 (by decide) (by decide) (by decide) (fun c1 => ?_) (fun c1 => ?_) (fun c1 c2 => ?_)
  · have h := h.1 c1
    refine q_blk (pc' := 29) (lo' := [some (.ref a0), some (.int x1)]) (st' := [.ref a0]) [.aload_n 0] (by decide +kernel) rfl ?_
    obtain ⟨s1, h⟩ := h
    refine q_getI fl_X1_39 rfl (by decide) (by decide +kernel) s1 ?_
    exact q_retI rfl (by decide) (by decide) (by decide +kernel) ⟨_, rfl, h⟩
  · have h := h.2.1 c1
    refine q_blk (pc' := 34) (lo' := [some (.ref a0), some (.int x1)]) (st' := [.ref a0]) [.aload_n 0] (by decide +kernel) rfl ?_
    obtain ⟨s2, h⟩ := h
    refine q_getI fl_X1_39 rfl (by decide) (by decide +kernel) s2 ?_
    refine q_blk (pc' := 42) (lo' := [some (.ref a0), some (.int x1)]) (st' := [.int (nI 100), .int ((q_I A a0 3) * (nI 70))]) [.bipush 70, .imul, .bipush 100] (by decide +kernel) rfl ?_
    refine q_idiv (by decide +kernel) (by decide) ?_
    exact q_retI rfl (by decide) (by decide) (by decide +kernel) ⟨_, rfl, h⟩
  · have h := h.2.2 c1 c2
    refine q_blk (pc' := 45) (lo' := [some (.ref a0), some (.int x1)]) (st' := [.ref a0]) [.aload_n 0] (by decide +kernel) rfl ?_
    obtain ⟨s3, h⟩ := h
    refine q_getI fl_X1_39 rfl (by decide) (by decide +kernel) s3 ?_
    refine q_blk (pc' := 53) (lo' := [some (.ref a0), some (.int x1)]) (st' := [.int (nI 100), .int ((q_I A a0 3) * (nI 40))]) [.bipush 40, .imul, .bipush 100] (by decide +kernel) rfl ?_
    refine q_idiv (by decide +kernel) (by decide) ?_
    exact q_retI rfl (by decide) (by decide) (by decide +kernel) ⟨_, rfl, h⟩
theorem f_X1_copyFrom_0 {G : q_G} {X : String → q_H → Prop} {f : q_H → Prop} {A : q_H} {a0 : Nat} {a1 : Nat} (h : q_sh A a1 = (2, 0) ∧ q_sh A a0 = (2, 0) ∧ (∀ A3 : q_H, A3 = (q_setI (q_setI (q_setI A a0 0 (q_I A a1 0)) a0 1 (q_I (q_setI A a0 0 (q_I A a1 0)) a1 1)) a0 2 (q_I (q_setI (q_setI A a0 0 (q_I A a1 0)) a0 1 (q_I (q_setI A a0 0 (q_I A a1 0)) a1 1)) a1 2)) → (∀ A4 : q_H, A4 = (q_setI (q_setI (q_setI A3 a0 3 (q_I A3 a1 3)) a0 4 (q_I (q_setI A3 a0 3 (q_I A3 a1 3)) a1 4)) a0 5 (q_I (q_setI (q_setI A3 a0 3 (q_I A3 a1 3)) a0 4 (q_I (q_setI A3 a0 3 (q_I A3 a1 3)) a1 4)) a1 5)) → f (q_setI A4 a0 6 (q_I A4 a1 6))))) : q_Wc G M_X1_copyFrom [.ref a0, .ref a1] A (q_KV f) X := by
  refine q_Wc.of [some (.ref a0), some (.ref a1)] mo_X1_copyFrom.2.2.2.2.2 rfl (Nat.le_of_ble_eq_true rfl) rfl ?_
  refine q_blk (pc' := 2) (lo' := [some (.ref a0), some (.ref a1)]) (st' := [.ref a1, .ref a0]) [.aload_n 0, .aload_n 1] (by decide +kernel) rfl ?_
  obtain ⟨s1, h⟩ := h
  refine q_getI fl_X1_48 rfl (by decide) (by decide +kernel) s1 ?_
  obtain ⟨s2, h⟩ := h
  refine q_putI fw_X1_48 rfl (by decide) (by decide +kernel) s2 ?_
  refine q_blk (pc' := 10) (lo' := [some (.ref a0), some (.ref a1)]) (st' := [.ref a1, .ref a0]) [.aload_n 0, .aload_n 1] (by decide +kernel) rfl ?_
  refine q_getI fl_X1_13 rfl (by decide) (by decide +kernel) s1 ?_
  refine q_putI fw_X1_13 rfl (by decide) (by decide +kernel) s2 ?_
  refine q_blk (pc' := 18) (lo' := [some (.ref a0), some (.ref a1)]) (st' := [.ref a1, .ref a0]) [.aload_n 0, .aload_n 1] (by decide +kernel) rfl ?_
  refine q_getI fl_X1_19 rfl (by decide) (by decide +kernel) s1 ?_
  refine q_putI fw_X1_19 rfl (by decide) (by decide +kernel) s2 ?_
  let A3 : q_H := (q_setI (q_setI (q_setI A a0 0 (q_I A a1 0)) a0 1 (q_I (q_setI A a0 0 (q_I A a1 0)) a1 1)) a0 2 (q_I (q_setI (q_setI A a0 0 (q_I A a1 0)) a0 1 (q_I (q_setI A a0 0 (q_I A a1 0)) a1 1)) a1 2))
  have h := h A3 rfl
  show q_Wp _ _ _ _ 0 0 24 [some (.ref a0), some (.ref a1)] [] A3
  refine q_blk (pc' := 26) (lo' := [some (.ref a0), some (.ref a1)]) (st' := [.ref a1, .ref a0]) [.aload_n 0, .aload_n 1] (by decide +kernel) rfl ?_
  refine q_getI fl_X1_39 rfl (by decide) (by decide +kernel) s1 ?_
  refine q_putI fw_X1_39 rfl (by decide) (by decide +kernel) s2 ?_
  refine q_blk (pc' := 34) (lo' := [some (.ref a0), some (.ref a1)]) (st' := [.ref a1, .ref a0]) [.aload_n 0, .aload_n 1] (by decide +kernel) rfl ?_
  refine q_getI fl_X1_28 rfl (by decide) (by decide +kernel) s1 ?_
  refine q_putI fw_X1_28 rfl (by decide) (by decide +kernel) s2 ?_
  refine q_blk (pc' := 42) (lo' := [some (.ref a0), some (.ref a1)]) (st' := [.ref a1, .ref a0]) [.aload_n 0, .aload_n 1] (by decide +kernel) rfl ?_
  refine q_getI fl_X1_25 rfl (by decide) (by decide +kernel) s1 ?_
  refine q_putI fw_X1_25 rfl (by decide) (by decide +kernel) s2 ?_
  let A4 : q_H := (q_setI (q_setI (q_setI A3 a0 3 (q_I A3 a1 3)) a0 4 (q_I (q_setI A3 a0 3 (q_I A3 a1 3)) a1 4)) a0 5 (q_I (q_setI (q_setI A3 a0 3 (q_I A3 a1 3)) a0 4 (q_I (q_setI A3 a0 3 (q_I A3 a1 3)) a1 4)) a1 5))
  have h := h A4 rfl
  show q_Wp _ _ _ _ 0 0 48 [some (.ref a0), some (.ref a1)] [] A4
  refine q_blk (pc' := 50) (lo' := [some (.ref a0), some (.ref a1)]) (st' := [.ref a1, .ref a0]) [.aload_n 0, .aload_n 1] (by decide +kernel) rfl ?_
  refine q_getI fl_X1_51 rfl (by decide) (by decide +kernel) s1 ?_
  refine q_putI fw_X1_51 rfl (by decide) (by decide +kernel) s2 ?_
  exact q_ret0 rfl (by decide) (by decide) (by decide +kernel) ⟨rfl, h⟩
theorem f_X8_init_0 {G : q_G} {X : String → q_H → Prop} {f : q_H → Prop} {A : q_H} {a0 : Nat} (h : f A) : q_Wc G M_X8_init [.ref a0] A (q_KV f) X := by
  refine q_Wc.of [some (.ref a0)] mo_X8_init.2.2.2.2.2 rfl (Nat.le_of_ble_eq_true rfl) rfl ?_
  refine q_blk (pc' := 1) (lo' := [some (.ref a0)]) (st' := [.ref a0]) [.aload_n 0] (by decide +kernel) rfl ?_
  refine q_obj ob_X8_1.1 ob_X8_1.2.1 ob_X8_1.2.2 (by decide) (Nat.le_of_ble_eq_true rfl) (by decide +kernel) ?_
  exact q_ret0 rfl (by decide) (by decide) (by decide +kernel) ⟨rfl, h⟩
theorem f_X8_copyFrom_0 {G : q_G} {X : String → q_H → Prop} {f : q_H → Prop} {A : q_H} {a0 : Nat} {a1 : Nat} (h : q_sh A a1 = (9, 0) ∧ q_sh A a0 = (9, 0) ∧ (∀ A3 : q_H, A3 = (q_setI (q_setI (q_setI A a0 0 (q_I A a1 0)) a0 1 (q_I (q_setI A a0 0 (q_I A a1 0)) a1 1)) a0 2 (q_I (q_setI (q_setI A a0 0 (q_I A a1 0)) a0 1 (q_I (q_setI A a0 0 (q_I A a1 0)) a1 1)) a1 2)) → (∀ A4 : q_H, A4 = (q_setI (q_setI (q_setI A3 a0 3 (q_I A3 a1 3)) a0 4 (q_I (q_setI A3 a0 3 (q_I A3 a1 3)) a1 4)) a0 5 (q_I (q_setI (q_setI A3 a0 3 (q_I A3 a1 3)) a0 4 (q_I (q_setI A3 a0 3 (q_I A3 a1 3)) a1 4)) a1 5)) → (∀ A5 : q_H, A5 = (q_setI (q_setI (q_setI A4 a0 6 (q_I A4 a1 6)) a0 7 (q_I (q_setI A4 a0 6 (q_I A4 a1 6)) a1 7)) a0 8 (q_I (q_setI (q_setI A4 a0 6 (q_I A4 a1 6)) a0 7 (q_I (q_setI A4 a0 6 (q_I A4 a1 6)) a1 7)) a1 8)) → f (q_setI A5 a0 9 (q_I A5 a1 9)))))) : q_Wc G M_X8_copyFrom [.ref a0, .ref a1] A (q_KV f) X := by
  refine q_Wc.of [some (.ref a0), some (.ref a1)] mo_X8_copyFrom.2.2.2.2.2 rfl (Nat.le_of_ble_eq_true rfl) rfl ?_
  refine q_blk (pc' := 2) (lo' := [some (.ref a0), some (.ref a1)]) (st' := [.ref a1, .ref a0]) [.aload_n 0, .aload_n 1] (by decide +kernel) rfl ?_
  obtain ⟨s1, h⟩ := h
  refine q_getI fl_X8_7 rfl (by decide) (by decide +kernel) s1 ?_
  obtain ⟨s2, h⟩ := h
  refine q_putI fw_X8_7 rfl (by decide) (by decide +kernel) s2 ?_
  refine q_blk (pc' := 10) (lo' := [some (.ref a0), some (.ref a1)]) (st' := [.ref a1, .ref a0]) [.aload_n 0, .aload_n 1] (by decide +kernel) rfl ?_
  refine q_getI fl_X8_13 rfl (by decide) (by decide +kernel) s1 ?_
  refine q_putI fw_X8_13 rfl (by decide) (by decide +kernel) s2 ?_
  refine q_blk (pc' := 18) (lo' := [some (.ref a0), some (.ref a1)]) (st' := [.ref a1, .ref a0]) [.aload_n 0, .aload_n 1] (by decide +kernel) rfl ?_
  refine q_getI fl_X8_16 rfl (by decide) (by decide +kernel) s1 ?_
  refine q_putI fw_X8_16 rfl (by decide) (by decide +kernel) s2 ?_
  let A3 : q_H := (q_setI (q_setI (q_setI A a0 0 (q_I A a1 0)) a0 1 (q_I (q_setI A a0 0 (q_I A a1 0)) a1 1)) a0 2 (q_I (q_setI (q_setI A a0 0 (q_I A a1 0)) a0 1 (q_I (q_setI A a0 0 (q_I A a1 0)) a1 1)) a1 2))
  have h := h A3 rfl
  show q_Wp _ _ _ _ 0 0 24 [some (.ref a0), some (.ref a1)] [] A3
  refine q_blk (pc' := 26) (lo' := [some (.ref a0), some (.ref a1)]) (st' := [.ref a1, .ref a0]) [.aload_n 0, .aload_n 1] (by decide +kernel) rfl ?_
  refine q_getI fl_X8_19 rfl (by decide) (by decide +kernel) s1 ?_
  refine q_putI fw_X8_19 rfl (by decide) (by decide +kernel) s2 ?_
  refine q_blk (pc' := 34) (lo' := [some (.ref a0), some (.ref a1)]) (st' := [.ref a1, .ref a0]) [.aload_n 0, .aload_n 1] (by decide +kernel) rfl ?_
  refine q_getI fl_X8_22 rfl (by decide) (by decide +kernel) s1 ?_
  refine q_putI fw_X8_22 rfl (by decide) (by decide +kernel) s2 ?_
  refine q_blk (pc' := 42) (lo' := [some (.ref a0), some (.ref a1)]) (st' := [.ref a1, .ref a0]) [.aload_n 0, .aload_n 1] (by decide +kernel) rfl ?_
  refine q_getI fl_X8_25 rfl (by decide) (by decide +kernel) s1 ?_
  refine q_putI fw_X8_25 rfl (by decide) (by decide +kernel) s2 ?_
  let A4 : q_H := (q_setI (q_setI (q_setI A3 a0 3 (q_I A3 a1 3)) a0 4 (q_I (q_setI A3 a0 3 (q_I A3 a1 3)) a1 4)) a0 5 (q_I (q_setI (q_setI A3 a0 3 (q_I A3 a1 3)) a0 4 (q_I (q_setI A3 a0 3 (q_I A3 a1 3)) a1 4)) a1 5))
  have h := h A4 rfl
  show q_Wp _ _ _ _ 0 0 48 [some (.ref a0), some (.ref a1)] [] A4
  refine q_blk (pc' := 50) (lo' := [some (.ref a0), some (.ref a1)]) (st' := [.ref a1, .ref a0]) [.aload_n 0, .aload_n 1] (by decide +kernel) rfl ?_
  refine q_getI fl_X8_28 rfl (by decide) (by decide +kernel) s1 ?_
  refine q_putI fw_X8_28 rfl (by decide) (by decide +kernel) s2 ?_
  refine q_blk (pc' := 58) (lo' := [some (.ref a0), some (.ref a1)]) (st' := [.ref a1, .ref a0]) [.aload_n 0, .aload_n 1] (by decide +kernel) rfl ?_
  refine q_getI fl_X8_31 rfl (by decide) (by decide +kernel) s1 ?_
  refine q_putI fw_X8_31 rfl (by decide) (by decide +kernel) s2 ?_
  refine q_blk (pc' := 66) (lo' := [some (.ref a0), some (.ref a1)]) (st' := [.ref a1, .ref a0]) [.aload_n 0, .aload_n 1] (by decide +kernel) rfl ?_
  refine q_getI fl_X8_34 rfl (by decide) (by decide +kernel) s1 ?_
  refine q_putI fw_X8_34 rfl (by decide) (by decide +kernel) s2 ?_
  let A5 : q_H := (q_setI (q_setI (q_setI A4 a0 6 (q_I A4 a1 6)) a0 7 (q_I (q_setI A4 a0 6 (q_I A4 a1 6)) a1 7)) a0 8 (q_I (q_setI (q_setI A4 a0 6 (q_I A4 a1 6)) a0 7 (q_I (q_setI A4 a0 6 (q_I A4 a1 6)) a1 7)) a1 8))
  have h := h A5 rfl
  show q_Wp _ _ _ _ 0 0 72 [some (.ref a0), some (.ref a1)] [] A5
  refine q_blk (pc' := 74) (lo' := [some (.ref a0), some (.ref a1)]) (st' := [.ref a1, .ref a0]) [.aload_n 0, .aload_n 1] (by decide +kernel) rfl ?_
  refine q_getI fl_X8_37 rfl (by decide) (by decide +kernel) s1 ?_
  refine q_putI fw_X8_37 rfl (by decide) (by decide +kernel) s2 ?_
  exact q_ret0 rfl (by decide) (by decide) (by decide +kernel) ⟨rfl, h⟩
end
