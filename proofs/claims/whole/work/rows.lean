section
-- ===== PART A: goes FIRST, ahead of the names: the tables' words, and 'selects' of the private methods out of them =====
/-- a private method of a class that the tables say can be made, by its rows of tables_1 -/
def lw_okq (q : MethodName × Nat) : Prop := (q.1.cls ≠ "java/lang/invoke/MethodHandle" ∧ q.1.cls ≠ "java/lang/invoke/VarHandle") ∧ Cond.instantiable q.1.cls q.2 ∈ tables_1 ∧ Cond.privateMethod q.1 ∈ tables_1 ∧ Cond.instanceMethod q.1 ∈ tables_1
theorem lw_p0 : lw_okq (⟨"SpeechTiers", "needRange", "(III)V"⟩, 12) := ⟨⟨by decide +kernel, by decide +kernel⟩, List.mem_of_getElem? (i := 21) (by decide +kernel), List.mem_of_getElem? (i := 281) (by decide +kernel), List.mem_of_getElem? (i := 282) (by decide +kernel)⟩
theorem lw_p1 : lw_okq (⟨"SpeechTiers", "refuseArgument", "()V"⟩, 12) := ⟨⟨by decide +kernel, by decide +kernel⟩, List.mem_of_getElem? (i := 21) (by decide +kernel), List.mem_of_getElem? (i := 285) (by decide +kernel), List.mem_of_getElem? (i := 286) (by decide +kernel)⟩
theorem lw_p2 : lw_okq (⟨"java/lang/Throwable", "fillInStackTrace", "(I)Ljava/lang/Throwable;"⟩, 6) := ⟨⟨by decide +kernel, by decide +kernel⟩, List.mem_of_getElem? (i := 327) (by decide +kernel), List.mem_of_getElem? (i := 325) (by decide +kernel), List.mem_of_getElem? (i := 326) (by decide +kernel)⟩
theorem lw_p3 : lw_okq (⟨"SpeechTiers", "needTier", "(I)V"⟩, 12) := ⟨⟨by decide +kernel, by decide +kernel⟩, List.mem_of_getElem? (i := 21) (by decide +kernel), List.mem_of_getElem? (i := 612) (by decide +kernel), List.mem_of_getElem? (i := 613) (by decide +kernel)⟩
theorem lw_p4 : lw_okq (⟨"SpeechTiers", "refuseMissing", "()V"⟩, 12) := ⟨⟨by decide +kernel, by decide +kernel⟩, List.mem_of_getElem? (i := 21) (by decide +kernel), List.mem_of_getElem? (i := 617) (by decide +kernel), List.mem_of_getElem? (i := 618) (by decide +kernel)⟩
theorem lw_p5 : lw_okq (⟨"SpeechTiers", "needSpan", "(II)V"⟩, 12) := ⟨⟨by decide +kernel, by decide +kernel⟩, List.mem_of_getElem? (i := 21) (by decide +kernel), List.mem_of_getElem? (i := 636) (by decide +kernel), List.mem_of_getElem? (i := 637) (by decide +kernel)⟩
theorem lw_p6 : lw_okq (⟨"SpeechTiers", "needTime", "(I)V"⟩, 12) := ⟨⟨by decide +kernel, by decide +kernel⟩, List.mem_of_getElem? (i := 21) (by decide +kernel), List.mem_of_getElem? (i := 640) (by decide +kernel), List.mem_of_getElem? (i := 641) (by decide +kernel)⟩
theorem lw_p7 : lw_okq (⟨"SpeechTiers", "needState", "(Z)V"⟩, 12) := ⟨⟨by decide +kernel, by decide +kernel⟩, List.mem_of_getElem? (i := 21) (by decide +kernel), List.mem_of_getElem? (i := 646) (by decide +kernel), List.mem_of_getElem? (i := 647) (by decide +kernel)⟩
theorem lw_p8 : lw_okq (⟨"SpeechTiers", "needMark", "(II)V"⟩, 12) := ⟨⟨by decide +kernel, by decide +kernel⟩, List.mem_of_getElem? (i := 21) (by decide +kernel), List.mem_of_getElem? (i := 688) (by decide +kernel), List.mem_of_getElem? (i := 689) (by decide +kernel)⟩
theorem lw_p9 : lw_okq (⟨"SpeechTiers", "needStop", "(II)V"⟩, 12) := ⟨⟨by decide +kernel, by decide +kernel⟩, List.mem_of_getElem? (i := 21) (by decide +kernel), List.mem_of_getElem? (i := 764) (by decide +kernel), List.mem_of_getElem? (i := 765) (by decide +kernel)⟩
theorem lw_p10 : lw_okq (⟨"SpeechTiers", "twinOf", "(LSpeechTiers$Row;)LSpeechTiers$Row;"⟩, 12) := ⟨⟨by decide +kernel, by decide +kernel⟩, List.mem_of_getElem? (i := 21) (by decide +kernel), List.mem_of_getElem? (i := 861) (by decide +kernel), List.mem_of_getElem? (i := 862) (by decide +kernel)⟩
theorem lw_p11 : lw_okq (⟨"SpeechTiers", "goalOfSnap", "(III)I"⟩, 12) := ⟨⟨by decide +kernel, by decide +kernel⟩, List.mem_of_getElem? (i := 21) (by decide +kernel), List.mem_of_getElem? (i := 883) (by decide +kernel), List.mem_of_getElem? (i := 884) (by decide +kernel)⟩
theorem lw_p12 : lw_okq (⟨"SpeechTiers", "weighPairs", "(I)I"⟩, 12) := ⟨⟨by decide +kernel, by decide +kernel⟩, List.mem_of_getElem? (i := 21) (by decide +kernel), List.mem_of_getElem? (i := 1040) (by decide +kernel), List.mem_of_getElem? (i := 1041) (by decide +kernel)⟩
theorem lw_p13 : lw_okq (⟨"SpeechTiersModel", "puts", "(I)V"⟩, 21) := ⟨⟨by decide +kernel, by decide +kernel⟩, List.mem_of_getElem? (i := 1050) (by decide +kernel), List.mem_of_getElem? (i := 1124) (by decide +kernel), List.mem_of_getElem? (i := 1125) (by decide +kernel)⟩
theorem lw_p14 : lw_okq (⟨"SpeechTiersModel", "isFine", "(ZII)Z"⟩, 21) := ⟨⟨by decide +kernel, by decide +kernel⟩, List.mem_of_getElem? (i := 1050) (by decide +kernel), List.mem_of_getElem? (i := 1135) (by decide +kernel), List.mem_of_getElem? (i := 1136) (by decide +kernel)⟩
theorem lw_p15 : lw_okq (⟨"SpeechTiersModel", "sign", "()I"⟩, 21) := ⟨⟨by decide +kernel, by decide +kernel⟩, List.mem_of_getElem? (i := 1050) (by decide +kernel), List.mem_of_getElem? (i := 1142) (by decide +kernel), List.mem_of_getElem? (i := 1143) (by decide +kernel)⟩
def lw_privs_1 : List (MethodName × Nat) := [(⟨"SpeechTiers", "needRange", "(III)V"⟩, 12), (⟨"SpeechTiers", "refuseArgument", "()V"⟩, 12), (⟨"java/lang/Throwable", "fillInStackTrace", "(I)Ljava/lang/Throwable;"⟩, 6), (⟨"SpeechTiers", "needTier", "(I)V"⟩, 12), (⟨"SpeechTiers", "refuseMissing", "()V"⟩, 12), (⟨"SpeechTiers", "needSpan", "(II)V"⟩, 12), (⟨"SpeechTiers", "needTime", "(I)V"⟩, 12), (⟨"SpeechTiers", "needState", "(Z)V"⟩, 12), (⟨"SpeechTiers", "needMark", "(II)V"⟩, 12), (⟨"SpeechTiers", "needStop", "(II)V"⟩, 12), (⟨"SpeechTiers", "twinOf", "(LSpeechTiers$Row;)LSpeechTiers$Row;"⟩, 12), (⟨"SpeechTiers", "goalOfSnap", "(III)I"⟩, 12), (⟨"SpeechTiers", "weighPairs", "(I)I"⟩, 12), (⟨"SpeechTiersModel", "puts", "(I)V"⟩, 21), (⟨"SpeechTiersModel", "isFine", "(ZII)Z"⟩, 21), (⟨"SpeechTiersModel", "sign", "()I"⟩, 21)]
theorem lw_r1 : ∀ q ∈ lw_privs_1, lw_okq q := List.forall_mem_cons.mpr ⟨lw_p0, List.forall_mem_cons.mpr ⟨lw_p1, List.forall_mem_cons.mpr ⟨lw_p2, List.forall_mem_cons.mpr ⟨lw_p3, List.forall_mem_cons.mpr ⟨lw_p4, List.forall_mem_cons.mpr ⟨lw_p5, List.forall_mem_cons.mpr ⟨lw_p6, List.forall_mem_cons.mpr ⟨lw_p7, List.forall_mem_cons.mpr ⟨lw_p8, List.forall_mem_cons.mpr ⟨lw_p9, List.forall_mem_cons.mpr ⟨lw_p10, List.forall_mem_cons.mpr ⟨lw_p11, List.forall_mem_cons.mpr ⟨lw_p12, List.forall_mem_cons.mpr ⟨lw_p13, List.forall_mem_cons.mpr ⟨lw_p14, List.forall_mem_cons.mpr ⟨lw_p15, fun _ h => absurd h List.not_mem_nil⟩⟩⟩⟩⟩⟩⟩⟩⟩⟩⟩⟩⟩⟩⟩⟩
theorem lw_p16 : lw_okq (⟨"SpeechTiersModel", "oneLine", "()V"⟩, 21) := ⟨⟨by decide +kernel, by decide +kernel⟩, List.mem_of_getElem? (i := 1050) (by decide +kernel), List.mem_of_getElem? (i := 1146) (by decide +kernel), List.mem_of_getElem? (i := 1147) (by decide +kernel)⟩
theorem lw_p17 : lw_okq (⟨"SpeechTiersModel", "passes", "(Ljava/lang/String;)Z"⟩, 21) := ⟨⟨by decide +kernel, by decide +kernel⟩, List.mem_of_getElem? (i := 1050) (by decide +kernel), List.mem_of_getElem? (i := 1151) (by decide +kernel), List.mem_of_getElem? (i := 1152) (by decide +kernel)⟩
theorem lw_p18 : lw_okq (⟨"SpeechTiersModel", "isSmall", "(I)Z"⟩, 21) := ⟨⟨by decide +kernel, by decide +kernel⟩, List.mem_of_getElem? (i := 1050) (by decide +kernel), List.mem_of_getElem? (i := 1156) (by decide +kernel), List.mem_of_getElem? (i := 1157) (by decide +kernel)⟩
theorem lw_p19 : lw_okq (⟨"SpeechTiersModel", "tierTold", "(I)V"⟩, 21) := ⟨⟨by decide +kernel, by decide +kernel⟩, List.mem_of_getElem? (i := 1050) (by decide +kernel), List.mem_of_getElem? (i := 1161) (by decide +kernel), List.mem_of_getElem? (i := 1162) (by decide +kernel)⟩
theorem lw_p20 : lw_okq (⟨"SpeechTiersModel", "tiers", "()I"⟩, 21) := ⟨⟨by decide +kernel, by decide +kernel⟩, List.mem_of_getElem? (i := 1050) (by decide +kernel), List.mem_of_getElem? (i := 1165) (by decide +kernel), List.mem_of_getElem? (i := 1166) (by decide +kernel)⟩
theorem lw_p21 : lw_okq (⟨"SpeechTiersModel", "wrong", "(II)V"⟩, 21) := ⟨⟨by decide +kernel, by decide +kernel⟩, List.mem_of_getElem? (i := 1050) (by decide +kernel), List.mem_of_getElem? (i := 1169) (by decide +kernel), List.mem_of_getElem? (i := 1170) (by decide +kernel)⟩
theorem lw_p22 : lw_okq (⟨"SpeechTiersModel", "word", "(IZ)I"⟩, 21) := ⟨⟨by decide +kernel, by decide +kernel⟩, List.mem_of_getElem? (i := 1050) (by decide +kernel), List.mem_of_getElem? (i := 1173) (by decide +kernel), List.mem_of_getElem? (i := 1174) (by decide +kernel)⟩
theorem lw_p23 : lw_okq (⟨"SpeechTiersModel", "tierNamed", "([II)I"⟩, 21) := ⟨⟨by decide +kernel, by decide +kernel⟩, List.mem_of_getElem? (i := 1050) (by decide +kernel), List.mem_of_getElem? (i := 1177) (by decide +kernel), List.mem_of_getElem? (i := 1178) (by decide +kernel)⟩
theorem lw_p24 : lw_okq (⟨"SpeechTiersModel", "isWordHere", "()Z"⟩, 21) := ⟨⟨by decide +kernel, by decide +kernel⟩, List.mem_of_getElem? (i := 1050) (by decide +kernel), List.mem_of_getElem? (i := 1188) (by decide +kernel), List.mem_of_getElem? (i := 1189) (by decide +kernel)⟩
theorem lw_p25 : lw_okq (⟨"SpeechTiersModel", "known", "()I"⟩, 21) := ⟨⟨by decide +kernel, by decide +kernel⟩, List.mem_of_getElem? (i := 1050) (by decide +kernel), List.mem_of_getElem? (i := 1192) (by decide +kernel), List.mem_of_getElem? (i := 1193) (by decide +kernel)⟩
theorem lw_p26 : lw_okq (⟨"SpeechTiersModel", "kind", "(I)I"⟩, 21) := ⟨⟨by decide +kernel, by decide +kernel⟩, List.mem_of_getElem? (i := 1050) (by decide +kernel), List.mem_of_getElem? (i := 1196) (by decide +kernel), List.mem_of_getElem? (i := 1197) (by decide +kernel)⟩
theorem lw_p27 : lw_okq (⟨"SpeechTiersModel", "many", "(I)I"⟩, 21) := ⟨⟨by decide +kernel, by decide +kernel⟩, List.mem_of_getElem? (i := 1050) (by decide +kernel), List.mem_of_getElem? (i := 1200) (by decide +kernel), List.mem_of_getElem? (i := 1201) (by decide +kernel)⟩
theorem lw_p28 : lw_okq (⟨"SpeechTiersModel", "from", "(II)I"⟩, 21) := ⟨⟨by decide +kernel, by decide +kernel⟩, List.mem_of_getElem? (i := 1050) (by decide +kernel), List.mem_of_getElem? (i := 1204) (by decide +kernel), List.mem_of_getElem? (i := 1205) (by decide +kernel)⟩
theorem lw_p29 : lw_okq (⟨"SpeechTiersModel", "to", "(II)I"⟩, 21) := ⟨⟨by decide +kernel, by decide +kernel⟩, List.mem_of_getElem? (i := 1050) (by decide +kernel), List.mem_of_getElem? (i := 1211) (by decide +kernel), List.mem_of_getElem? (i := 1212) (by decide +kernel)⟩
theorem lw_p30 : lw_okq (⟨"SpeechTiersModel", "inserts", "(IIII)I"⟩, 21) := ⟨⟨by decide +kernel, by decide +kernel⟩, List.mem_of_getElem? (i := 1050) (by decide +kernel), List.mem_of_getElem? (i := 1215) (by decide +kernel), List.mem_of_getElem? (i := 1216) (by decide +kernel)⟩
theorem lw_p31 : lw_okq (⟨"SpeechTiersModel", "markTold", "()V"⟩, 21) := ⟨⟨by decide +kernel, by decide +kernel⟩, List.mem_of_getElem? (i := 1050) (by decide +kernel), List.mem_of_getElem? (i := 1220) (by decide +kernel), List.mem_of_getElem? (i := 1221) (by decide +kernel)⟩
def lw_privs_2 : List (MethodName × Nat) := [(⟨"SpeechTiersModel", "oneLine", "()V"⟩, 21), (⟨"SpeechTiersModel", "passes", "(Ljava/lang/String;)Z"⟩, 21), (⟨"SpeechTiersModel", "isSmall", "(I)Z"⟩, 21), (⟨"SpeechTiersModel", "tierTold", "(I)V"⟩, 21), (⟨"SpeechTiersModel", "tiers", "()I"⟩, 21), (⟨"SpeechTiersModel", "wrong", "(II)V"⟩, 21), (⟨"SpeechTiersModel", "word", "(IZ)I"⟩, 21), (⟨"SpeechTiersModel", "tierNamed", "([II)I"⟩, 21), (⟨"SpeechTiersModel", "isWordHere", "()Z"⟩, 21), (⟨"SpeechTiersModel", "known", "()I"⟩, 21), (⟨"SpeechTiersModel", "kind", "(I)I"⟩, 21), (⟨"SpeechTiersModel", "many", "(I)I"⟩, 21), (⟨"SpeechTiersModel", "from", "(II)I"⟩, 21), (⟨"SpeechTiersModel", "to", "(II)I"⟩, 21), (⟨"SpeechTiersModel", "inserts", "(IIII)I"⟩, 21), (⟨"SpeechTiersModel", "markTold", "()V"⟩, 21)]
theorem lw_r2 : ∀ q ∈ lw_privs_2, lw_okq q := List.forall_mem_cons.mpr ⟨lw_p16, List.forall_mem_cons.mpr ⟨lw_p17, List.forall_mem_cons.mpr ⟨lw_p18, List.forall_mem_cons.mpr ⟨lw_p19, List.forall_mem_cons.mpr ⟨lw_p20, List.forall_mem_cons.mpr ⟨lw_p21, List.forall_mem_cons.mpr ⟨lw_p22, List.forall_mem_cons.mpr ⟨lw_p23, List.forall_mem_cons.mpr ⟨lw_p24, List.forall_mem_cons.mpr ⟨lw_p25, List.forall_mem_cons.mpr ⟨lw_p26, List.forall_mem_cons.mpr ⟨lw_p27, List.forall_mem_cons.mpr ⟨lw_p28, List.forall_mem_cons.mpr ⟨lw_p29, List.forall_mem_cons.mpr ⟨lw_p30, List.forall_mem_cons.mpr ⟨lw_p31, fun _ h => absurd h List.not_mem_nil⟩⟩⟩⟩⟩⟩⟩⟩⟩⟩⟩⟩⟩⟩⟩⟩
theorem lw_p32 : lw_okq (⟨"SpeechTiersModel", "number", "(I)I"⟩, 21) := ⟨⟨by decide +kernel, by decide +kernel⟩, List.mem_of_getElem? (i := 1050) (by decide +kernel), List.mem_of_getElem? (i := 1224) (by decide +kernel), List.mem_of_getElem? (i := 1225) (by decide +kernel)⟩
theorem lw_p33 : lw_okq (⟨"SpeechTiersModel", "mayPut", "(III)Z"⟩, 21) := ⟨⟨by decide +kernel, by decide +kernel⟩, List.mem_of_getElem? (i := 1050) (by decide +kernel), List.mem_of_getElem? (i := 1230) (by decide +kernel), List.mem_of_getElem? (i := 1231) (by decide +kernel)⟩
theorem lw_p34 : lw_okq (⟨"SpeechTiersModel", "isClear", "(III)Z"⟩, 21) := ⟨⟨by decide +kernel, by decide +kernel⟩, List.mem_of_getElem? (i := 1050) (by decide +kernel), List.mem_of_getElem? (i := 1234) (by decide +kernel), List.mem_of_getElem? (i := 1235) (by decide +kernel)⟩
theorem lw_p35 : lw_okq (⟨"SpeechTiersModel", "parent", "(I)I"⟩, 21) := ⟨⟨by decide +kernel, by decide +kernel⟩, List.mem_of_getElem? (i := 1050) (by decide +kernel), List.mem_of_getElem? (i := 1238) (by decide +kernel), List.mem_of_getElem? (i := 1239) (by decide +kernel)⟩
theorem lw_p36 : lw_okq (⟨"SpeechTiersModel", "around", "(III)I"⟩, 21) := ⟨⟨by decide +kernel, by decide +kernel⟩, List.mem_of_getElem? (i := 1050) (by decide +kernel), List.mem_of_getElem? (i := 1242) (by decide +kernel), List.mem_of_getElem? (i := 1243) (by decide +kernel)⟩
theorem lw_p37 : lw_okq (⟨"SpeechTiersModel", "hasRoom", "(I)Z"⟩, 21) := ⟨⟨by decide +kernel, by decide +kernel⟩, List.mem_of_getElem? (i := 1050) (by decide +kernel), List.mem_of_getElem? (i := 1246) (by decide +kernel), List.mem_of_getElem? (i := 1247) (by decide +kernel)⟩
theorem lw_p38 : lw_okq (⟨"SpeechTiersModel", "isCutFrom", "(II)Z"⟩, 21) := ⟨⟨by decide +kernel, by decide +kernel⟩, List.mem_of_getElem? (i := 1050) (by decide +kernel), List.mem_of_getElem? (i := 1250) (by decide +kernel), List.mem_of_getElem? (i := 1251) (by decide +kernel)⟩
theorem lw_p39 : lw_okq (⟨"SpeechTiersModel", "labelHere", "()I"⟩, 21) := ⟨⟨by decide +kernel, by decide +kernel⟩, List.mem_of_getElem? (i := 1050) (by decide +kernel), List.mem_of_getElem? (i := 1254) (by decide +kernel), List.mem_of_getElem? (i := 1255) (by decide +kernel)⟩
theorem lw_p40 : lw_okq (⟨"SpeechTiersModel", "puts", "(IIII)I"⟩, 21) := ⟨⟨by decide +kernel, by decide +kernel⟩, List.mem_of_getElem? (i := 1050) (by decide +kernel), List.mem_of_getElem? (i := 1258) (by decide +kernel), List.mem_of_getElem? (i := 1259) (by decide +kernel)⟩
theorem lw_p41 : lw_okq (⟨"SpeechTiersModel", "pointTold", "()V"⟩, 21) := ⟨⟨by decide +kernel, by decide +kernel⟩, List.mem_of_getElem? (i := 1050) (by decide +kernel), List.mem_of_getElem? (i := 1263) (by decide +kernel), List.mem_of_getElem? (i := 1264) (by decide +kernel)⟩
theorem lw_p42 : lw_okq (⟨"SpeechTiersModel", "mayPoint", "(II)Z"⟩, 21) := ⟨⟨by decide +kernel, by decide +kernel⟩, List.mem_of_getElem? (i := 1050) (by decide +kernel), List.mem_of_getElem? (i := 1267) (by decide +kernel), List.mem_of_getElem? (i := 1268) (by decide +kernel)⟩
theorem lw_p43 : lw_okq (⟨"SpeechTiersModel", "splitTold", "()V"⟩, 21) := ⟨⟨by decide +kernel, by decide +kernel⟩, List.mem_of_getElem? (i := 1050) (by decide +kernel), List.mem_of_getElem? (i := 1272) (by decide +kernel), List.mem_of_getElem? (i := 1273) (by decide +kernel)⟩
theorem lw_p44 : lw_okq (⟨"SpeechTiersModel", "markWith", "(II)I"⟩, 21) := ⟨⟨by decide +kernel, by decide +kernel⟩, List.mem_of_getElem? (i := 1050) (by decide +kernel), List.mem_of_getElem? (i := 1276) (by decide +kernel), List.mem_of_getElem? (i := 1277) (by decide +kernel)⟩
theorem lw_p45 : lw_okq (⟨"SpeechTiersModel", "maySplit", "(II)Z"⟩, 21) := ⟨⟨by decide +kernel, by decide +kernel⟩, List.mem_of_getElem? (i := 1050) (by decide +kernel), List.mem_of_getElem? (i := 1280) (by decide +kernel), List.mem_of_getElem? (i := 1281) (by decide +kernel)⟩
theorem lw_p46 : lw_okq (⟨"SpeechTiersModel", "isBelow", "(II)Z"⟩, 21) := ⟨⟨by decide +kernel, by decide +kernel⟩, List.mem_of_getElem? (i := 1050) (by decide +kernel), List.mem_of_getElem? (i := 1284) (by decide +kernel), List.mem_of_getElem? (i := 1285) (by decide +kernel)⟩
theorem lw_p47 : lw_okq (⟨"SpeechTiersModel", "hasRoomToSplit", "(II)Z"⟩, 21) := ⟨⟨by decide +kernel, by decide +kernel⟩, List.mem_of_getElem? (i := 1050) (by decide +kernel), List.mem_of_getElem? (i := 1288) (by decide +kernel), List.mem_of_getElem? (i := 1289) (by decide +kernel)⟩
def lw_privs_3 : List (MethodName × Nat) := [(⟨"SpeechTiersModel", "number", "(I)I"⟩, 21), (⟨"SpeechTiersModel", "mayPut", "(III)Z"⟩, 21), (⟨"SpeechTiersModel", "isClear", "(III)Z"⟩, 21), (⟨"SpeechTiersModel", "parent", "(I)I"⟩, 21), (⟨"SpeechTiersModel", "around", "(III)I"⟩, 21), (⟨"SpeechTiersModel", "hasRoom", "(I)Z"⟩, 21), (⟨"SpeechTiersModel", "isCutFrom", "(II)Z"⟩, 21), (⟨"SpeechTiersModel", "labelHere", "()I"⟩, 21), (⟨"SpeechTiersModel", "puts", "(IIII)I"⟩, 21), (⟨"SpeechTiersModel", "pointTold", "()V"⟩, 21), (⟨"SpeechTiersModel", "mayPoint", "(II)Z"⟩, 21), (⟨"SpeechTiersModel", "splitTold", "()V"⟩, 21), (⟨"SpeechTiersModel", "markWith", "(II)I"⟩, 21), (⟨"SpeechTiersModel", "maySplit", "(II)Z"⟩, 21), (⟨"SpeechTiersModel", "isBelow", "(II)Z"⟩, 21), (⟨"SpeechTiersModel", "hasRoomToSplit", "(II)Z"⟩, 21)]
theorem lw_r3 : ∀ q ∈ lw_privs_3, lw_okq q := List.forall_mem_cons.mpr ⟨lw_p32, List.forall_mem_cons.mpr ⟨lw_p33, List.forall_mem_cons.mpr ⟨lw_p34, List.forall_mem_cons.mpr ⟨lw_p35, List.forall_mem_cons.mpr ⟨lw_p36, List.forall_mem_cons.mpr ⟨lw_p37, List.forall_mem_cons.mpr ⟨lw_p38, List.forall_mem_cons.mpr ⟨lw_p39, List.forall_mem_cons.mpr ⟨lw_p40, List.forall_mem_cons.mpr ⟨lw_p41, List.forall_mem_cons.mpr ⟨lw_p42, List.forall_mem_cons.mpr ⟨lw_p43, List.forall_mem_cons.mpr ⟨lw_p44, List.forall_mem_cons.mpr ⟨lw_p45, List.forall_mem_cons.mpr ⟨lw_p46, List.forall_mem_cons.mpr ⟨lw_p47, fun _ h => absurd h List.not_mem_nil⟩⟩⟩⟩⟩⟩⟩⟩⟩⟩⟩⟩⟩⟩⟩⟩
theorem lw_p48 : lw_okq (⟨"SpeechTiersModel", "splits", "(II)I"⟩, 21) := ⟨⟨by decide +kernel, by decide +kernel⟩, List.mem_of_getElem? (i := 1050) (by decide +kernel), List.mem_of_getElem? (i := 1292) (by decide +kernel), List.mem_of_getElem? (i := 1293) (by decide +kernel)⟩
theorem lw_p49 : lw_okq (⟨"SpeechTiersModel", "splitsOne", "(II)I"⟩, 21) := ⟨⟨by decide +kernel, by decide +kernel⟩, List.mem_of_getElem? (i := 1050) (by decide +kernel), List.mem_of_getElem? (i := 1296) (by decide +kernel), List.mem_of_getElem? (i := 1297) (by decide +kernel)⟩
theorem lw_p50 : lw_okq (⟨"SpeechTiersModel", "labelOf", "(II)I"⟩, 21) := ⟨⟨by decide +kernel, by decide +kernel⟩, List.mem_of_getElem? (i := 1050) (by decide +kernel), List.mem_of_getElem? (i := 1300) (by decide +kernel), List.mem_of_getElem? (i := 1301) (by decide +kernel)⟩
theorem lw_p51 : lw_okq (⟨"SpeechTiersModel", "labelTold", "()V"⟩, 21) := ⟨⟨by decide +kernel, by decide +kernel⟩, List.mem_of_getElem? (i := 1050) (by decide +kernel), List.mem_of_getElem? (i := 1305) (by decide +kernel), List.mem_of_getElem? (i := 1306) (by decide +kernel)⟩
theorem lw_p52 : lw_okq (⟨"SpeechTiersModel", "markAt", "(II)I"⟩, 21) := ⟨⟨by decide +kernel, by decide +kernel⟩, List.mem_of_getElem? (i := 1050) (by decide +kernel), List.mem_of_getElem? (i := 1309) (by decide +kernel), List.mem_of_getElem? (i := 1310) (by decide +kernel)⟩
theorem lw_p53 : lw_okq (⟨"SpeechTiersModel", "allMarks", "([I)I"⟩, 21) := ⟨⟨by decide +kernel, by decide +kernel⟩, List.mem_of_getElem? (i := 1050) (by decide +kernel), List.mem_of_getElem? (i := 1313) (by decide +kernel), List.mem_of_getElem? (i := 1314) (by decide +kernel)⟩
theorem lw_p54 : lw_okq (⟨"SpeechTiersModel", "isTier", "(I)Z"⟩, 21) := ⟨⟨by decide +kernel, by decide +kernel⟩, List.mem_of_getElem? (i := 1050) (by decide +kernel), List.mem_of_getElem? (i := 1325) (by decide +kernel), List.mem_of_getElem? (i := 1326) (by decide +kernel)⟩
theorem lw_p55 : lw_okq (⟨"SpeechTiersModel", "keeps", "()V"⟩, 21) := ⟨⟨by decide +kernel, by decide +kernel⟩, List.mem_of_getElem? (i := 1050) (by decide +kernel), List.mem_of_getElem? (i := 1329) (by decide +kernel), List.mem_of_getElem? (i := 1330) (by decide +kernel)⟩
theorem lw_p56 : lw_okq (⟨"SpeechTiersModel", "isMark", "(II)Z"⟩, 21) := ⟨⟨by decide +kernel, by decide +kernel⟩, List.mem_of_getElem? (i := 1050) (by decide +kernel), List.mem_of_getElem? (i := 1341) (by decide +kernel), List.mem_of_getElem? (i := 1342) (by decide +kernel)⟩
theorem lw_p57 : lw_okq (⟨"SpeechTiersModel", "beside", "(III)I"⟩, 21) := ⟨⟨by decide +kernel, by decide +kernel⟩, List.mem_of_getElem? (i := 1050) (by decide +kernel), List.mem_of_getElem? (i := 1345) (by decide +kernel), List.mem_of_getElem? (i := 1346) (by decide +kernel)⟩
theorem lw_p58 : lw_okq (⟨"SpeechTiersModel", "parentsOf", "(II)I"⟩, 21) := ⟨⟨by decide +kernel, by decide +kernel⟩, List.mem_of_getElem? (i := 1050) (by decide +kernel), List.mem_of_getElem? (i := 1349) (by decide +kernel), List.mem_of_getElem? (i := 1350) (by decide +kernel)⟩
theorem lw_p59 : lw_okq (⟨"SpeechTiersModel", "takesCut", "(II)I"⟩, 21) := ⟨⟨by decide +kernel, by decide +kernel⟩, List.mem_of_getElem? (i := 1050) (by decide +kernel), List.mem_of_getElem? (i := 1353) (by decide +kernel), List.mem_of_getElem? (i := 1354) (by decide +kernel)⟩
theorem lw_p60 : lw_okq (⟨"SpeechTiersModel", "removes", "(II)V"⟩, 21) := ⟨⟨by decide +kernel, by decide +kernel⟩, List.mem_of_getElem? (i := 1050) (by decide +kernel), List.mem_of_getElem? (i := 1357) (by decide +kernel), List.mem_of_getElem? (i := 1358) (by decide +kernel)⟩
theorem lw_p61 : lw_okq (⟨"SpeechTiersModel", "takesAll", "(II)I"⟩, 21) := ⟨⟨by decide +kernel, by decide +kernel⟩, List.mem_of_getElem? (i := 1050) (by decide +kernel), List.mem_of_getElem? (i := 1361) (by decide +kernel), List.mem_of_getElem? (i := 1362) (by decide +kernel)⟩
theorem lw_p62 : lw_okq (⟨"SpeechTiersModel", "clears", "(III)I"⟩, 21) := ⟨⟨by decide +kernel, by decide +kernel⟩, List.mem_of_getElem? (i := 1050) (by decide +kernel), List.mem_of_getElem? (i := 1365) (by decide +kernel), List.mem_of_getElem? (i := 1366) (by decide +kernel)⟩
theorem lw_p63 : lw_okq (⟨"SpeechTiersModel", "isStopOf", "(II)Z"⟩, 21) := ⟨⟨by decide +kernel, by decide +kernel⟩, List.mem_of_getElem? (i := 1050) (by decide +kernel), List.mem_of_getElem? (i := 1381) (by decide +kernel), List.mem_of_getElem? (i := 1382) (by decide +kernel)⟩
def lw_privs_4 : List (MethodName × Nat) := [(⟨"SpeechTiersModel", "splits", "(II)I"⟩, 21), (⟨"SpeechTiersModel", "splitsOne", "(II)I"⟩, 21), (⟨"SpeechTiersModel", "labelOf", "(II)I"⟩, 21), (⟨"SpeechTiersModel", "labelTold", "()V"⟩, 21), (⟨"SpeechTiersModel", "markAt", "(II)I"⟩, 21), (⟨"SpeechTiersModel", "allMarks", "([I)I"⟩, 21), (⟨"SpeechTiersModel", "isTier", "(I)Z"⟩, 21), (⟨"SpeechTiersModel", "keeps", "()V"⟩, 21), (⟨"SpeechTiersModel", "isMark", "(II)Z"⟩, 21), (⟨"SpeechTiersModel", "beside", "(III)I"⟩, 21), (⟨"SpeechTiersModel", "parentsOf", "(II)I"⟩, 21), (⟨"SpeechTiersModel", "takesCut", "(II)I"⟩, 21), (⟨"SpeechTiersModel", "removes", "(II)V"⟩, 21), (⟨"SpeechTiersModel", "takesAll", "(II)I"⟩, 21), (⟨"SpeechTiersModel", "clears", "(III)I"⟩, 21), (⟨"SpeechTiersModel", "isStopOf", "(II)Z"⟩, 21)]
theorem lw_r4 : ∀ q ∈ lw_privs_4, lw_okq q := List.forall_mem_cons.mpr ⟨lw_p48, List.forall_mem_cons.mpr ⟨lw_p49, List.forall_mem_cons.mpr ⟨lw_p50, List.forall_mem_cons.mpr ⟨lw_p51, List.forall_mem_cons.mpr ⟨lw_p52, List.forall_mem_cons.mpr ⟨lw_p53, List.forall_mem_cons.mpr ⟨lw_p54, List.forall_mem_cons.mpr ⟨lw_p55, List.forall_mem_cons.mpr ⟨lw_p56, List.forall_mem_cons.mpr ⟨lw_p57, List.forall_mem_cons.mpr ⟨lw_p58, List.forall_mem_cons.mpr ⟨lw_p59, List.forall_mem_cons.mpr ⟨lw_p60, List.forall_mem_cons.mpr ⟨lw_p61, List.forall_mem_cons.mpr ⟨lw_p62, List.forall_mem_cons.mpr ⟨lw_p63, fun _ h => absurd h List.not_mem_nil⟩⟩⟩⟩⟩⟩⟩⟩⟩⟩⟩⟩⟩⟩⟩⟩
theorem lw_p64 : lw_okq (⟨"SpeechTiersModel", "topOf", "(I)I"⟩, 21) := ⟨⟨by decide +kernel, by decide +kernel⟩, List.mem_of_getElem? (i := 1050) (by decide +kernel), List.mem_of_getElem? (i := 1385) (by decide +kernel), List.mem_of_getElem? (i := 1386) (by decide +kernel)⟩
theorem lw_p65 : lw_okq (⟨"SpeechTiersModel", "isStop", "(II)Z"⟩, 21) := ⟨⟨by decide +kernel, by decide +kernel⟩, List.mem_of_getElem? (i := 1050) (by decide +kernel), List.mem_of_getElem? (i := 1389) (by decide +kernel), List.mem_of_getElem? (i := 1390) (by decide +kernel)⟩
theorem lw_p66 : lw_okq (⟨"SpeechTiersModel", "mayMove", "(III)Z"⟩, 21) := ⟨⟨by decide +kernel, by decide +kernel⟩, List.mem_of_getElem? (i := 1050) (by decide +kernel), List.mem_of_getElem? (i := 1393) (by decide +kernel), List.mem_of_getElem? (i := 1394) (by decide +kernel)⟩
theorem lw_p67 : lw_okq (⟨"SpeechTiersModel", "stopAhead", "(II)I"⟩, 21) := ⟨⟨by decide +kernel, by decide +kernel⟩, List.mem_of_getElem? (i := 1050) (by decide +kernel), List.mem_of_getElem? (i := 1397) (by decide +kernel), List.mem_of_getElem? (i := 1398) (by decide +kernel)⟩
theorem lw_p68 : lw_okq (⟨"SpeechTiersModel", "stopBehind", "(II)I"⟩, 21) := ⟨⟨by decide +kernel, by decide +kernel⟩, List.mem_of_getElem? (i := 1050) (by decide +kernel), List.mem_of_getElem? (i := 1401) (by decide +kernel), List.mem_of_getElem? (i := 1402) (by decide +kernel)⟩
theorem lw_p69 : lw_okq (⟨"SpeechTiersModel", "endsAt", "(II)I"⟩, 21) := ⟨⟨by decide +kernel, by decide +kernel⟩, List.mem_of_getElem? (i := 1050) (by decide +kernel), List.mem_of_getElem? (i := 1405) (by decide +kernel), List.mem_of_getElem? (i := 1406) (by decide +kernel)⟩
theorem lw_p70 : lw_okq (⟨"SpeechTiersModel", "moves", "(III)V"⟩, 21) := ⟨⟨by decide +kernel, by decide +kernel⟩, List.mem_of_getElem? (i := 1050) (by decide +kernel), List.mem_of_getElem? (i := 1409) (by decide +kernel), List.mem_of_getElem? (i := 1410) (by decide +kernel)⟩
theorem lw_p71 : lw_okq (⟨"SpeechTiersModel", "latest", "()I"⟩, 21) := ⟨⟨by decide +kernel, by decide +kernel⟩, List.mem_of_getElem? (i := 1050) (by decide +kernel), List.mem_of_getElem? (i := 1417) (by decide +kernel), List.mem_of_getElem? (i := 1418) (by decide +kernel)⟩
theorem lw_p72 : lw_okq (⟨"SpeechTiersModel", "stopsFrom", "(I)I"⟩, 21) := ⟨⟨by decide +kernel, by decide +kernel⟩, List.mem_of_getElem? (i := 1050) (by decide +kernel), List.mem_of_getElem? (i := 1422) (by decide +kernel), List.mem_of_getElem? (i := 1423) (by decide +kernel)⟩
theorem lw_p73 : lw_okq (⟨"SpeechTiersModel", "otherTier", "(I)I"⟩, 21) := ⟨⟨by decide +kernel, by decide +kernel⟩, List.mem_of_getElem? (i := 1050) (by decide +kernel), List.mem_of_getElem? (i := 1437) (by decide +kernel), List.mem_of_getElem? (i := 1438) (by decide +kernel)⟩
theorem lw_p74 : lw_okq (⟨"SpeechTiersModel", "adopted", "(III)I"⟩, 21) := ⟨⟨by decide +kernel, by decide +kernel⟩, List.mem_of_getElem? (i := 1050) (by decide +kernel), List.mem_of_getElem? (i := 1441) (by decide +kernel), List.mem_of_getElem? (i := 1442) (by decide +kernel)⟩
theorem lw_p75 : lw_okq (⟨"SpeechTiersModel", "families", "()I"⟩, 21) := ⟨⟨by decide +kernel, by decide +kernel⟩, List.mem_of_getElem? (i := 1050) (by decide +kernel), List.mem_of_getElem? (i := 1472) (by decide +kernel), List.mem_of_getElem? (i := 1473) (by decide +kernel)⟩
theorem lw_p76 : lw_okq (⟨"SpeechTiersModel", "depthOf", "(I)I"⟩, 21) := ⟨⟨by decide +kernel, by decide +kernel⟩, List.mem_of_getElem? (i := 1050) (by decide +kernel), List.mem_of_getElem? (i := 1480) (by decide +kernel), List.mem_of_getElem? (i := 1481) (by decide +kernel)⟩
theorem lw_p77 : lw_okq (⟨"SpeechTiersModel", "timeOf", "(I)I"⟩, 21) := ⟨⟨by decide +kernel, by decide +kernel⟩, List.mem_of_getElem? (i := 1050) (by decide +kernel), List.mem_of_getElem? (i := 1484) (by decide +kernel), List.mem_of_getElem? (i := 1485) (by decide +kernel)⟩
theorem lw_p78 : lw_okq (⟨"SpeechTiersModel", "childMany", "(I)I"⟩, 21) := ⟨⟨by decide +kernel, by decide +kernel⟩, List.mem_of_getElem? (i := 1050) (by decide +kernel), List.mem_of_getElem? (i := 1488) (by decide +kernel), List.mem_of_getElem? (i := 1489) (by decide +kernel)⟩
theorem lw_p79 : lw_okq (⟨"SpeechTiersModel", "stopMany", "(I)I"⟩, 21) := ⟨⟨by decide +kernel, by decide +kernel⟩, List.mem_of_getElem? (i := 1050) (by decide +kernel), List.mem_of_getElem? (i := 1492) (by decide +kernel), List.mem_of_getElem? (i := 1493) (by decide +kernel)⟩
def lw_privs_5 : List (MethodName × Nat) := [(⟨"SpeechTiersModel", "topOf", "(I)I"⟩, 21), (⟨"SpeechTiersModel", "isStop", "(II)Z"⟩, 21), (⟨"SpeechTiersModel", "mayMove", "(III)Z"⟩, 21), (⟨"SpeechTiersModel", "stopAhead", "(II)I"⟩, 21), (⟨"SpeechTiersModel", "stopBehind", "(II)I"⟩, 21), (⟨"SpeechTiersModel", "endsAt", "(II)I"⟩, 21), (⟨"SpeechTiersModel", "moves", "(III)V"⟩, 21), (⟨"SpeechTiersModel", "latest", "()I"⟩, 21), (⟨"SpeechTiersModel", "stopsFrom", "(I)I"⟩, 21), (⟨"SpeechTiersModel", "otherTier", "(I)I"⟩, 21), (⟨"SpeechTiersModel", "adopted", "(III)I"⟩, 21), (⟨"SpeechTiersModel", "families", "()I"⟩, 21), (⟨"SpeechTiersModel", "depthOf", "(I)I"⟩, 21), (⟨"SpeechTiersModel", "timeOf", "(I)I"⟩, 21), (⟨"SpeechTiersModel", "childMany", "(I)I"⟩, 21), (⟨"SpeechTiersModel", "stopMany", "(I)I"⟩, 21)]
theorem lw_r5 : ∀ q ∈ lw_privs_5, lw_okq q := List.forall_mem_cons.mpr ⟨lw_p64, List.forall_mem_cons.mpr ⟨lw_p65, List.forall_mem_cons.mpr ⟨lw_p66, List.forall_mem_cons.mpr ⟨lw_p67, List.forall_mem_cons.mpr ⟨lw_p68, List.forall_mem_cons.mpr ⟨lw_p69, List.forall_mem_cons.mpr ⟨lw_p70, List.forall_mem_cons.mpr ⟨lw_p71, List.forall_mem_cons.mpr ⟨lw_p72, List.forall_mem_cons.mpr ⟨lw_p73, List.forall_mem_cons.mpr ⟨lw_p74, List.forall_mem_cons.mpr ⟨lw_p75, List.forall_mem_cons.mpr ⟨lw_p76, List.forall_mem_cons.mpr ⟨lw_p77, List.forall_mem_cons.mpr ⟨lw_p78, List.forall_mem_cons.mpr ⟨lw_p79, fun _ h => absurd h List.not_mem_nil⟩⟩⟩⟩⟩⟩⟩⟩⟩⟩⟩⟩⟩⟩⟩⟩
theorem lw_p80 : lw_okq (⟨"SpeechTiersModel", "lieIn", "(II)I"⟩, 21) := ⟨⟨by decide +kernel, by decide +kernel⟩, List.mem_of_getElem? (i := 1050) (by decide +kernel), List.mem_of_getElem? (i := 1500) (by decide +kernel), List.mem_of_getElem? (i := 1501) (by decide +kernel)⟩
theorem lw_p81 : lw_okq (⟨"SpeechTiersModel", "pairsOf", "(III)V"⟩, 21) := ⟨⟨by decide +kernel, by decide +kernel⟩, List.mem_of_getElem? (i := 1050) (by decide +kernel), List.mem_of_getElem? (i := 1547) (by decide +kernel), List.mem_of_getElem? (i := 1548) (by decide +kernel)⟩
theorem lw_p82 : lw_okq (⟨"SpeechTiersModel", "better", "(III)V"⟩, 21) := ⟨⟨by decide +kernel, by decide +kernel⟩, List.mem_of_getElem? (i := 1050) (by decide +kernel), List.mem_of_getElem? (i := 1551) (by decide +kernel), List.mem_of_getElem? (i := 1552) (by decide +kernel)⟩
def lw_privs_6 : List (MethodName × Nat) := [(⟨"SpeechTiersModel", "lieIn", "(II)I"⟩, 21), (⟨"SpeechTiersModel", "pairsOf", "(III)V"⟩, 21), (⟨"SpeechTiersModel", "better", "(III)V"⟩, 21)]
theorem lw_r6 : ∀ q ∈ lw_privs_6, lw_okq q := List.forall_mem_cons.mpr ⟨lw_p80, List.forall_mem_cons.mpr ⟨lw_p81, List.forall_mem_cons.mpr ⟨lw_p82, fun _ h => absurd h List.not_mem_nil⟩⟩⟩
def lw_privs : List (MethodName × Nat) := lw_privs_1 ++ (lw_privs_2 ++ (lw_privs_3 ++ (lw_privs_4 ++ (lw_privs_5 ++ (lw_privs_6)))))
def lw_tbl : List Cond := k2_sels lw_privs ++ tables_1
theorem lw_privs_ok : ∀ q ∈ lw_privs, lw_okq q := by
  show ∀ q ∈ lw_privs_1 ++ (lw_privs_2 ++ (lw_privs_3 ++ (lw_privs_4 ++ (lw_privs_5 ++ (lw_privs_6))))), lw_okq q
  exact List.forall_mem_append.mpr ⟨lw_r1, List.forall_mem_append.mpr ⟨lw_r2, List.forall_mem_append.mpr ⟨lw_r3, List.forall_mem_append.mpr ⟨lw_r4, List.forall_mem_append.mpr ⟨lw_r5, lw_r6⟩⟩⟩⟩⟩
end
section
/-! ===== BEGIN words of one list among another's, by their places ===== -/
theorem goodIn_r {big : List Cond} (ws : List Cond) (ps : List Nat) (hp : ws = ps.filterMap (fun i => big[i]?)) (h : ws.all goodWord = true) : GoodIn big ws := by
  intro w hw
  have h1 := List.all_eq_true.mp h w hw
  rw [hp] at hw
  obtain ⟨i, -, hi⟩ := List.mem_filterMap.mp hw
  have hm : w ∈ big := by first | exact List.mem_of_getElem? hi | exact List.getElem?_mem hi
  exact ⟨hm, good_of_word h1⟩
theorem goodIn_app {big a b : List Cond} (ha : GoodIn big a) (hb : GoodIn big b) : GoodIn big (a ++ b) := fun w h => (List.mem_append.mp h).elim (ha w) (hb w)
theorem goodIn_ca {big a b : List Cond} {c : Cond} (ha : GoodIn big (c :: a)) (hb : GoodIn big b) : GoodIn big (c :: (a ++ b)) := fun w h => (List.mem_cons.mp h).elim (fun e => ha w (List.mem_cons.mpr (Or.inl e))) (fun h => (List.mem_append.mp h).elim (fun h => ha w (List.mem_cons.mpr (Or.inr h))) (hb w))
theorem goodIn_sub {big ws : List Cond} (hm : ∀ w ∈ ws, w ∈ big) (h : ws.all goodWord = true) : GoodIn big ws := fun w hw => ⟨hm w hw, good_of_word (List.all_eq_true.mp h w hw)⟩
/-! ===== END ===== -/

/-! ===== BEGIN exceptions that leave a method, and their catching by the caller (launches without stack traces) ===== -/
section VXA
/-! The laws vx_back, vx_callV, vx_callS, vx_callSW, vx_throw0, vx_throwS follow proofs of the library, with one case more: JvmDerived/Free/Laws.lean (Back.of_free), Shelf42/LK1.lean (callV, callS), Shelf/KitTraced.lean (throwNew0V, throwNewS). -/
/-- where a method has thrown q: the class by its name, the cell, what was written, the world -/
def vx_T (XC : String → State → State → Prop) (st : State) (q : Addr) (t : State) (mc ms : Nat) (free : Addr → Prop) : Prop :=
  ∃ (E : String) (ce : Cell) (L : List Loc), XC E st t ∧ t.heap[q]? = some ce ∧ ce.vm = .none ∧ st.vm.findClass E = some ce.cls ∧ st.WarmedH t.vm ∧ st.sameButNew ({ t with vm := st.vm } : State) L mc ms ∧ ∀ z ∈ L, free z.base
def vx_Q (Qc : Array Value → State → Outcome → State → Prop) (XC : String → State → State → Prop) (mc ms : Nat) (free : Addr → Prop) : Array Value → State → Outcome → State → Prop := fun a st o t =>
  (Qc a st o t ∧ ∃ L, FrameEnd st o t L mc ms ∧ ∀ q ∈ L, free q.base) ∨ ∃ q, o = .threw q ∧ vx_T XC st q t mc ms free
/-- a callee that returns or throws -/
def vx_Met (l : Launch) (y : MethodName) (ws : List Cond) (rm : Room) (Pc : Array Value → State → Prop) (Qc : Array Value → State → Outcome → State → Prop) (XC : String → State → State → Prop) (mc ms : Nat) (free : Addr → Prop) : Prop :=
  MetFree l y (headSpec ws rm) Pc (fun _ _ _ _ _ => True) (vx_Q Qc XC mc ms free)
def vx_Post (XC : String → State → State → Prop) (mc ms : Nat) (free : Addr → Prop) : Pt → Array Value → Addr → Pt → Prop := fun A a q B =>
  ∃ (g : JFrame) (mk : MethodId) (t : State) (L : List Loc) (E : String) (ce : Cell), B.U.heap = t.heap ∧ B.U.vm = t.vm ∧ XC E (A.U.calling g mk a) t ∧ t.heap[q]? = some ce ∧ ce.vm = .none ∧ A.U.vm.findClass E = some ce.cls ∧ B.locs = A.locs ++ L ∧ (∀ z ∈ L, free z.base) ∧ B.cells = A.cells + mc ∧ B.slots = A.slots + ms
def vx_Back (l : Launch) (R : Room) (p : Program) (e : Env) (below : List Frame) (s : State) (sargs : Array Value) (y : MethodName) (len W9 : Nat)
    (Pre : Pt → Array Value → Prop) (Post : Pt → Array Value → Option Value → Pt → Prop) (PostX : Pt → Array Value → Addr → Pt → Prop) : Prop :=
  ∀ (m : MethodId) (meth : Method) (c : Code) (A : Pt) (g : JFrame) (ig : Instr) (mk : MethodId) (a : Array Value),
    Stand p l e R s m sargs below meth c A.U A.locs A.cells A.slots → g.method = m → g.locals.size = c.maxLocals → decode c.code g.pc = .ok (ig, len) →
    2 * g.monitorRoom + (g.stack.map fun v => v.category).sum ≤ W9 → A.U.methodNamed? y = some mk → Pre A a →
    (∃ (v : Option Value) (B : Pt), Stand p l e R s m sargs below meth c B.U B.locs B.cells B.slots ∧ Post A a v B ∧
      Steps p.tables e below (doInvoke e (A.U.setTop g) [] mk a).1 (B.U.setTop { g with pc := g.pc + len, stack := v.toList ++ g.stack })) ∨
    (∃ (q : Addr) (B : Pt), Stand p l e R s m sargs below meth c B.U B.locs B.cells B.slots ∧ PostX A a q B ∧
      Steps p.tables e below (doInvoke e (A.U.setTop g) [] mk a).1 ((B.U.setTop g).pushFrame (.throwing q)))
section Payer
variable {l : Launch} {R : Room} {p : Program} {e : Env} {below : List Frame} {s : State} {sargs : Array Value} {y : MethodName} {len W9 : Nat}
theorem vx_back {ws : List Cond} {rm : Room} {Pc : Array Value → State → Prop} {Qc : Array Value → State → Outcome → State → Prop} {XC : String → State → State → Prop} {mc ms : Nat} {free : Addr → Prop} {bytes : ByteArray} {maxL : Nat} {ret : Option FieldType}
    (hM : vx_Met l y ws rm Pc Qc XC mc ms free) (hblind : FrameBlind Pc) (hrc : rm.cells = mc) (hrs : rm.slots = ms)
    (hframes : rm.frames + 1 ≤ R.frames) (hlocals : W9 + (maxL + 11) + rm.locals ≤ R.locals)
    (hws : ∀ w ∈ ws, ∀ a' U, s.WarmedH U.vm → w.before a' U = true) (hcode : Cond.code y bytes maxL ret ∈ ws) (hinit : ∀ a' U, s.WarmedH U.vm → (Cond.initialized y.cls).before a' U = true) :
    vx_Back l R p e below s sargs y len W9 (PreOf R mc ms Pc) (PostOf Qc mc ms free) (vx_Post XC mc ms free) := by
  intro m meth c A g ig mk a X hg hsize hdg hW hn hp
  have h1 : (headSpec ws rm).pre.before a A.U = true := atoms_intro fun w hw => hws w hw _ _ X.warmed
  have h2 : (Cond.code y bytes maxL ret).before a A.U = true := hws _ hcode _ _ X.warmed
  have h3 : (Cond.initialized y.cls).before a A.U = true := hinit _ _ X.warmed
  have h4 : A.cells + (headSpec ws rm).room.cells ≤ R.cells := by rw [show (headSpec ws rm).room.cells = mc from hrc]; exact hp.1
  have h5 : A.slots + (headSpec ws rm).room.slots ≤ R.slots := by rw [show (headSpec ws rm).room.slots = ms from hrs]; exact hp.2.1
  have hPc : Pc a (A.U.calling g mk a) := hblind _ _ _ _ hp.2.2
  obtain ⟨U, Ls, c0, s0⟩ := A
  dsimp only [Pt.U, Pt.locs, Pt.cells, Pt.slots] at h1 h2 h3 h4 h5 X hn hPc ⊢
  obtain ⟨methY, cY, hmY, hcY, -, hlY, -, -, -, -⟩ := Cond.code_spec hn h2
  obtain ⟨kY, hkY, -⟩ := className_of_methodNamed hn
  have hinitY : kY.init = .initialized := Cond.initialized_spec (findClass_of_methodNamed hn) hkY h3
  have h : At U g.method c below := by rw [hg]; exact X.here
  have hlocals9 : W9 + (maxL + 11) + (headSpec ws rm).room.locals ≤ R.locals := hlocals
  have happ : (headSpec ws rm).appliesLoose y e.platform (U.calling g mk a) = true :=
    Spec.appliesLoose_calling (g := g) h hdg hn hkY hinitY
      (X.room_calling (g := g) (R' := (headSpec ws rm).room) hsize hmY hcY hframes (by rw [hlY]; omega) h4 h5) h1
  obtain ⟨mid, hmid⟩ := h.above
  have hfr : (U.setTop g).frames = (.java g :: mid) ++ below := by rw [State.frames_setTop' g h.top, hmid]; rfl
  obtain ⟨o, s₂, hsteps, -, hend, hq⟩ := Steps.callFree hM p X.admits X.cas X.clock (acts := []) hfr happ hPc trivial
  have hq' : vx_Q Qc XC mc ms free a (U.calling g mk a) o s₂ := hq
  rw [State.frames_setTop' g h.top] at hend
  obtain ⟨g₀, hg0⟩ := Option.isSome_iff_exists.mp h.top
  obtain ⟨r, hr⟩ := State.topJava?_eq_some.mp hg0
  have hr' : (({ U with heap := s₂.heap, slotsUsed := s₂.slotsUsed } : State).setVm s₂.vm).frames = .java g₀ :: r := hr
  rcases hq' with ⟨hqc, L, hfe, hL⟩ | ⟨q, rfl, E, ce, L, hx, hce, hcv, hcl, hW₂, hsm, hL⟩
  · obtain ⟨⟨v, rfl⟩, hW₂, e2, q2, q3, q4, q5, q6⟩ := id hfe
    have e3 : s₂ = ({ (U.calling g mk a).setFrames s₂.frames with heap := s₂.heap, slotsUsed := s₂.slotsUsed } : State).setVm s₂.vm := by
      have : s₂ = ({ s₂ with vm := (U.calling g mk a).vm } : State).setVm s₂.vm := rfl
      rw [e2] at this
      exact this
    obtain ⟨c₂, i₂, len₂, hc₂, hd₂, hf₂⟩ := hend
    have hW' : U.WarmedH s₂.vm := hW₂
    have hcc : c₂ = c := by
      have h1 : s₂.code? g.method = U.code? g.method := by
        rw [State.code?_eq, State.code?_eq, hW'.alike.method?]
      exact Option.some.inj (hc₂.symm.trans (h1.trans h.code))
    subst hcc
    have hlen : len₂ = len := by rw [hdg] at hd₂; cases hd₂; rfl
    subst hlen
    have hs₂ : s₂ = (({ U with heap := s₂.heap, slotsUsed := s₂.slotsUsed } : State).setVm s₂.vm).setTop { g with pc := g.pc + len₂, stack := v.toList ++ g.stack } := by
      refine e3.trans ?_
      rw [hf₂, State.calling_eq h.top, State.setFrames_setFrames, State.setTop_of_frames _ hr', hr]
      rfl
    have hsame : U.sameButNew ({ U with heap := s₂.heap, slotsUsed := s₂.slotsUsed } : State) L mc ms := by
      refine ⟨?_, q2, q3, q4, q5, q6⟩
      obtain ⟨t, ht, -⟩ := State.frames_cons hr
      show ({ U with heap := s₂.heap, slotsUsed := s₂.slotsUsed } : State) = { U.setFrames U.frames with heap := s₂.heap, slotsUsed := s₂.slotsUsed }
      rw [State.setFrames_self ht]
    subst hg
    refine Or.inl ⟨v, ⟨(({ U with heap := s₂.heap, slotsUsed := s₂.slotsUsed } : State).setVm s₂.vm), Ls ++ L, c0 + mc, s0 + ms⟩,
      ⟨X.admits, X.cas, X.clock, X.frames, X.room, X.hears, X.method, X.code, (X.here.setHeapUsed s₂.heap s₂.slotsUsed).setVm hW'.alike, X.tail, State.WarmedH.trans X.warmed hW', X.limits, X.bytes, X.same.trans (hsame.setVm s.vm)⟩,
      ⟨g, mk, s₂, L, rfl, rfl, hqc, rfl, hL, rfl, rfl⟩, ?_⟩
    show Steps p.tables e below _ ((({ U with heap := s₂.heap, slotsUsed := s₂.slotsUsed } : State).setVm s₂.vm).setTop { g with pc := g.pc + len₂, stack := v.toList ++ g.stack })
    rw [← hs₂]
    exact hsteps
  · obtain ⟨e2, q2, q3, q4, q5, q6⟩ := id hsm
    have e3 : s₂ = ({ (U.calling g mk a).setFrames s₂.frames with heap := s₂.heap, slotsUsed := s₂.slotsUsed } : State).setVm s₂.vm := by
      have : s₂ = ({ s₂ with vm := (U.calling g mk a).vm } : State).setVm s₂.vm := rfl
      rw [e2] at this
      exact this
    have hf₂ : s₂.frames = .throwing q :: .java g :: U.frames.tail := hend
    have hW' : U.WarmedH s₂.vm := hW₂
    have hs₂ : s₂ = ((({ U with heap := s₂.heap, slotsUsed := s₂.slotsUsed } : State).setVm s₂.vm).setTop g).pushFrame (.throwing q) := by
      refine e3.trans ?_
      rw [hf₂, State.calling_eq h.top, State.setFrames_setFrames, State.pushFrame, State.frames_setTop _ hr', State.setTop_of_frames _ hr', State.setFrames_setFrames, hr]
      rfl
    have hsame : U.sameButNew ({ U with heap := s₂.heap, slotsUsed := s₂.slotsUsed } : State) L mc ms := by
      refine ⟨?_, q2, q3, q4, q5, q6⟩
      obtain ⟨t, ht, -⟩ := State.frames_cons hr
      show ({ U with heap := s₂.heap, slotsUsed := s₂.slotsUsed } : State) = { U.setFrames U.frames with heap := s₂.heap, slotsUsed := s₂.slotsUsed }
      rw [State.setFrames_self ht]
    subst hg
    refine Or.inr ⟨q, ⟨(({ U with heap := s₂.heap, slotsUsed := s₂.slotsUsed } : State).setVm s₂.vm), Ls ++ L, c0 + mc, s0 + ms⟩,
      ⟨X.admits, X.cas, X.clock, X.frames, X.room, X.hears, X.method, X.code, (X.here.setHeapUsed s₂.heap s₂.slotsUsed).setVm hW'.alike, X.tail, State.WarmedH.trans X.warmed hW', X.limits, X.bytes, X.same.trans (hsame.setVm s.vm)⟩,
      ⟨g, mk, s₂, L, E, ce, rfl, rfl, hx, hce, hcv, hcl, rfl, hL, rfl, rfl⟩, ?_⟩
    show Steps p.tables e below _ (((({ U with heap := s₂.heap, slotsUsed := s₂.slotsUsed } : State).setVm s₂.vm).setTop g).pushFrame (.throwing q))
    rw [← hs₂]
    exact hsteps
end Payer
section Calls
variable {p : Program} {l : Launch} {e : Env} {R : Room} {s : State} {m : MethodId} {args : Array Value} {below : List Frame} {meth : Method} {c : Code} {T : State} {locs : List Loc} {cells slots : Nat}
theorem vx_callV (X : Stand p l e R s m args below meth c T locs cells slots) (hexec : p.tables.exec = Jvm.exec) {own C : String} {index : Nat} {y : MethodName} {bytes : ByteArray} {maxL : Nat} {ret : Option FieldType}
    (hown : s.vm.findClass own = some m.cls) (hlink : (Cond.methodLink own index y).before args s = true) (hinst : (Cond.instanceMethod y).before args s = true) (hsel : (Cond.selects C y y).before args s = true)
    (hcode : (Cond.code y bytes maxL ret).before args s = true) (hy : y.cls ≠ "java/lang/invoke/MethodHandle" ∧ y.cls ≠ "java/lang/invoke/VarHandle")
    {W9 : Nat} {Pre : Pt → Array Value → Prop} {Post : Pt → Array Value → Option Value → Pt → Prop} {PostX : Pt → Array Value → Addr → Pt → Prop} (hK : vx_Back l R p e below s args y 3 W9 Pre Post PostX)
    {b : Addr} {cellB : Cell} (hcell : T.heap[b]? = some cellB) (hobj : cellB.vm.isStatics = false) (hcls : s.vm.findClass C = some cellB.cls)
    {g : JFrame} (hg : g.method = m) (hsize : g.locals.size = c.maxLocals) {argsL rest : List Value} (hlen : ∀ sig, parseMethodDescriptor y.desc = some sig → argsL.length = sig.parameters.length)
    (hstack : g.stack = argsL.reverse ++ .ref b :: rest) (hW : 2 * g.monitorRoom + (rest.map fun v => v.category).sum ≤ W9) (hdg : decode c.code g.pc = .ok (.invokevirtual index, 3))
    (hpre : ∀ vm₁, s.WarmedH vm₁ → Pre ⟨T.setVm vm₁, locs, cells, slots⟩ (Value.ref b :: argsL).toArray) :
    (∃ (v : Option Value) (vm₁ : Vm) (B : Pt), s.WarmedH vm₁ ∧ Stand p l e R s m args below meth c B.U B.locs B.cells B.slots ∧ Post ⟨T.setVm vm₁, locs, cells, slots⟩ (Value.ref b :: argsL).toArray v B ∧
      ∀ target, Steps p.tables e below (B.U.setTop { g with pc := g.pc + 3, stack := v.toList ++ rest }) target → Steps p.tables e below (T.setTop g) target) ∨
    (∃ (q : Addr) (vm₁ : Vm) (B : Pt), s.WarmedH vm₁ ∧ Stand p l e R s m args below meth c B.U B.locs B.cells B.slots ∧ PostX ⟨T.setVm vm₁, locs, cells, slots⟩ (Value.ref b :: argsL).toArray q B ∧
      Steps p.tables e below (T.setTop g) ((B.U.setTop { g with stack := rest }).pushFrame (.throwing q))) := by
  obtain ⟨mk, methM, hnamed, hmethM, hstM, habM⟩ := Cond.instanceMethod_spec hinst
  obtain ⟨methM', cM, hmethM', -, -, -, -, -, -, hsigM⟩ := Cond.code_spec hnamed hcode
  cases hmethM.symm.trans hmethM'
  obtain ⟨c2, r2, m2, q1, q2, q3, q4, kP, hkP, hkPi⟩ := Cond.selects_spec hsel
  cases hcls.symm.trans q1
  cases (State.methodFound?_of_named hnamed hy).symm.trans q2
  cases hnamed.symm.trans q3
  have hselP : selectMethod e.platform s.vm cellB.cls mk = .method mk := by rw [Launch.admits_selectMethod X.admits]; exact q4
  obtain ⟨vm₁, X₁, hstep₁⟩ := X.invokevirtual hexec hown hlink hnamed hmethM hstM hkP hkPi hy (a := b) (cell := cellB) hcell
    (fun z h => by rw [h] at hobj; cases hobj) hselP hmethM habM hkP hkPi (g := g) hg (argsL := argsL) (rest := rest) (hlen _ hsigM) hstack hdg
  rcases hK m meth c ⟨T.setVm vm₁, locs, cells, slots⟩ { g with stack := rest } (.invokevirtual index) mk (Value.ref b :: argsL).toArray X₁ hg hsize hdg hW (X₁.named hnamed) (hpre vm₁ X₁.warmed) with ⟨v, B, X', hpost, hsteps⟩ | ⟨q, B, X', hpost, hsteps⟩
  · exact Or.inl ⟨v, vm₁, B, X₁.warmed, X', hpost, fun target h => hstep₁ _ fun acts => by rw [doInvoke_state]; exact hsteps.trans h⟩
  · exact Or.inr ⟨q, vm₁, B, X₁.warmed, X', hpost, hstep₁ _ fun acts => by rw [doInvoke_state]; exact hsteps⟩
theorem vx_callS (X : Stand p l e R s m args below meth c T locs cells slots) (hexec : p.tables.exec = Jvm.exec) {own : String} {index : Nat} {y : MethodName} {bytes : ByteArray} {maxL : Nat} {ret : Option FieldType}
    (hown : s.vm.findClass own = some m.cls) (hlink : (Cond.methodLink own index y).before args s = true) (hstat : (Cond.static y).before args s = true) (hinit : (Cond.initialized y.cls).before args s = true)
    (hcode : (Cond.code y bytes maxL ret).before args s = true) (hy : y.cls ≠ "java/lang/invoke/MethodHandle" ∧ y.cls ≠ "java/lang/invoke/VarHandle")
    {W9 : Nat} {Pre : Pt → Array Value → Prop} {Post : Pt → Array Value → Option Value → Pt → Prop} {PostX : Pt → Array Value → Addr → Pt → Prop} (hK : vx_Back l R p e below s args y 3 W9 Pre Post PostX)
    {g : JFrame} (hg : g.method = m) (hsize : g.locals.size = c.maxLocals) {argsL rest : List Value} (hlen : ∀ sig, parseMethodDescriptor y.desc = some sig → argsL.length = sig.parameters.length)
    (hstack : g.stack = argsL.reverse ++ rest) (hW : 2 * g.monitorRoom + (rest.map fun v => v.category).sum ≤ W9) (hdg : decode c.code g.pc = .ok (.invokestatic index, 3))
    (hpre : ∀ vm₁, s.WarmedH vm₁ → Pre ⟨T.setVm vm₁, locs, cells, slots⟩ argsL.toArray) :
    (∃ (v : Option Value) (vm₁ : Vm) (B : Pt), s.WarmedH vm₁ ∧ Stand p l e R s m args below meth c B.U B.locs B.cells B.slots ∧ Post ⟨T.setVm vm₁, locs, cells, slots⟩ argsL.toArray v B ∧
      ∀ target, Steps p.tables e below (B.U.setTop { g with pc := g.pc + 3, stack := v.toList ++ rest }) target → Steps p.tables e below (T.setTop g) target) ∨
    (∃ (q : Addr) (vm₁ : Vm) (B : Pt), s.WarmedH vm₁ ∧ Stand p l e R s m args below meth c B.U B.locs B.cells B.slots ∧ PostX ⟨T.setVm vm₁, locs, cells, slots⟩ argsL.toArray q B ∧
      Steps p.tables e below (T.setTop g) ((B.U.setTop { g with stack := rest }).pushFrame (.throwing q))) := by
  obtain ⟨mk, hnamed⟩ := Cond.code_named hcode
  obtain ⟨methM, cM, hmethM, -, -, -, -, -, -, hsigM⟩ := Cond.code_spec hnamed hcode
  have hstatic : methM.isStatic = true := Cond.static_spec hnamed hmethM hstat
  obtain ⟨kP, hkP, -⟩ := className_of_methodNamed hnamed
  have hinitP : kP.init = .initialized := Cond.initialized_spec (findClass_of_methodNamed hnamed) hkP hinit
  obtain ⟨vm₁, X₁, hstep₁⟩ := X.invokestatic hexec hown hlink hnamed hmethM hstatic hkP hinitP hy (g := g) hg (argsL := argsL) (rest := rest) (hlen _ hsigM) hstack hdg
  rcases hK m meth c ⟨T.setVm vm₁, locs, cells, slots⟩ { g with stack := rest } (.invokestatic index) mk argsL.toArray X₁ hg hsize hdg hW (X₁.named hnamed) (hpre vm₁ X₁.warmed) with ⟨v, B, X', hpost, hsteps⟩ | ⟨q, B, X', hpost, hsteps⟩
  · exact Or.inl ⟨v, vm₁, B, X₁.warmed, X', hpost, fun target h => hstep₁ _ fun acts => by rw [doInvoke_state]; exact hsteps.trans h⟩
  · exact Or.inr ⟨q, vm₁, B, X₁.warmed, X', hpost, hstep₁ _ fun acts => by rw [doInvoke_state]; exact hsteps⟩
end Calls
theorem vx_cls {s : State} {T : State} {vm₁ : Vm} {E : String} {k : ClassId} (hW : s.WarmedH vm₁) (h : (T.setVm vm₁).vm.findClass E = some k) : s.vm.findClass E = some k := by
  have h1 : vm₁.findClass E = some k := h
  rw [hW.alike.findClass] at h1
  exact h1
/-- the method's frame g, with q thrown over it -/
def vx_W (p : Program) (l : Launch) (e : Env) (R : Room) (s : State) (m : MethodId) (args : Array Value) (below : List Frame) (meth : Method) (c : Code) (H : Heap) (locs : List Loc) (cells slots : Nat) (Q : State → Prop) (g : JFrame) (q : Addr) : Prop :=
  ∀ T : State, T.heap = H → Stand p l e R s m args below meth c T locs cells slots → ∃ t, Steps p.tables e below ((T.setTop g).pushFrame (.throwing q)) t ∧ Q t
def vx_Run (p : Program) (l : Launch) (e : Env) (R : Room) (s : State) (m : MethodId) (args : Array Value) (below : List Frame) (meth : Method) (c : Code) (H : Heap) (locs : List Loc) (cells slots mc ms : Nat) (g : JFrame) (rest : List Value) (Qa : State → Outcome → State → Prop) (XC : String → State → State → Prop) (free : Addr → Prop) : Prop :=
  ∀ T : State, T.heap = H → Stand p l e R s m args below meth c T locs cells slots →
    (∃ (v : Option Value) (st₀ t T' : State) (L : List Loc), st₀.heap = H ∧ Stand p l e R s m args below meth c T' (locs ++ L) (cells + mc) (slots + ms) ∧ (∀ q ∈ L, free q.base) ∧ T'.heap = t.heap ∧ T'.vm = t.vm ∧ Qa st₀ (.returned v) t ∧
      Goes p e below T g T' { g with pc := g.pc + 3, stack := v.toList ++ rest }) ∨
    (∃ (q : Addr) (st₀ t T' : State) (L : List Loc) (E : String) (ce : Cell), st₀.heap = H ∧ Stand p l e R s m args below meth c T' (locs ++ L) (cells + mc) (slots + ms) ∧ (∀ z ∈ L, free z.base) ∧ T'.heap = t.heap ∧ T'.vm = t.vm ∧ XC E st₀ t ∧ t.heap[q]? = some ce ∧ ce.vm = .none ∧ s.vm.findClass E = some ce.cls ∧
      Steps p.tables e below (T.setTop g) ((T'.setTop { g with stack := rest }).pushFrame (.throwing q)))
def vx_X {S : Type} (px : S → Prop) (B : String → S → State → Prop) (A : Nat → Prop) : String → State → State → Prop := fun E st t => ∃ u : S, px u ∧ B E u t ∧ va_F A st t
section Runs
variable {p : Program} {l : Launch} {e : Env} {R : Room} {s : State} {m : MethodId} {args : Array Value} {below : List Frame} {meth : Method} {c : Code} {H : Heap} {locs : List Loc} {cells slots : Nat}
variable {y : MethodName} {bytes cc : ByteArray} {maxL nL mc ms n index : Nat} {ret : Option FieldType} {ws : List Cond} {rm : Room} {Pc : Array Value → State → Prop} {Qc : Array Value → State → Outcome → State → Prop} {XC : String → State → State → Prop} {free : Addr → Prop} {Ts : List Cond} {own C : String} {b : Addr} {As rest : List Value} {g : JFrame}
theorem vx_callBack (cb : CallB R s args own index y bytes maxL ret ws rm mc ms n) (hM : vx_Met l y ws rm Pc Qc XC mc ms free) (hbl : FrameBlind Pc) : vx_Back l R p e below s args y 3 8 (PreOf R mc ms Pc) (PostOf Qc mc ms free) (vx_Post XC mc ms free) := by
  obtain ⟨hrc, hrs, hfr, hlo, hws, hcw, -, hini, -⟩ := cb
  exact vx_back (bytes := bytes) (maxL := maxL) (ret := ret) hM hbl hrc hrs hfr hlo hws hcw (fun a' U hW => word_at hW (Or.inl (by first | rfl | simp [Cond.onTables, Cond.keeps, Cond.steady])) hini)
theorem vx_runV (S : CallFix p m c cc nL s args Ts own) (hM : vx_Met l y ws rm Pc Qc XC mc ms free) (cw : CallW R s args own C index y bytes maxL ret ws rm mc ms n) (hp : PreV s H C b Pc As)
    (hg : g.method = m) (hn : As.length = n) (hsize : g.locals.size = nL) (hstack : g.stack = As.reverse ++ .ref b :: rest) (hW : 2 * g.monitorRoom + (rest.map fun v => v.category).sum ≤ 8) (hdg : decode cc g.pc = .ok (.invokevirtual index, 3)) (hf : cells + mc ≤ R.cells ∧ slots + ms ≤ R.slots) :
    vx_Run p l e R s m args below meth c H locs cells slots mc ms g rest (Qc (Value.ref b :: As).toArray) XC free := by
  have hK : vx_Back l R p e below s args y 3 8 (PreOf R mc ms Pc) (PostOf Qc mc ms free) (vx_Post XC mc ms free) := vx_callBack cw.1 hM hp.1
  obtain ⟨⟨-, -, -, -, -, -, hcode, -, hy, hlen, hl⟩, hin, hse⟩ := cw
  obtain ⟨hx, hb, hml, ho, -⟩ := S
  obtain ⟨-, ⟨cellB, hcB, hoB, hclB⟩, hPc⟩ := hp
  intro T hT X
  rcases vx_callV X hx (C := C) (bytes := bytes) (maxL := maxL) (ret := ret) ho hl hin hse hcode hy hK (by rw [hT]; exact hcB) hoB hclB hg (hsize.trans hml.symm) (argsL := As) (rest := rest) (fun sig h => hn.trans (hlen sig h)) hstack hW (by rw [hb]; exact hdg)
    (fun vm₁ hW₁ => ⟨hf.1, hf.2, hPc (T.setVm vm₁) hT hW₁⟩) with ⟨v, vm₁, ⟨U', l2, c2, s2⟩, hW₁, X', ⟨g', mk, t, L, e1, e2, hq, h1, hL, h2, h3⟩, st⟩ | ⟨q, vm₁, ⟨U', l2, c2, s2⟩, hW₁, X', ⟨g', mk, t, L, E, ce, e1, e2, hq, hce, hcv, hcl, h1, hL, h2, h3⟩, st⟩
  · dsimp only [Pt.U, Pt.locs, Pt.cells, Pt.slots] at X' e1 e2 h1 h2 h3 st
    subst h1; subst h2; subst h3
    exact Or.inl ⟨v, (T.setVm vm₁).calling g' mk (Value.ref b :: As).toArray, t, U', L, hT, X', hL, e1, e2, hq, st⟩
  · dsimp only [Pt.U, Pt.locs, Pt.cells, Pt.slots] at X' e1 e2 h1 h2 h3 st hcl
    subst h1; subst h2; subst h3
    exact Or.inr ⟨q, (T.setVm vm₁).calling g' mk (Value.ref b :: As).toArray, t, U', L, E, ce, hT, X', hL, e1, e2, hq, hce, hcv, vx_cls hW₁ hcl, st⟩
theorem vx_runS (S : CallFix p m c cc nL s args Ts own) (hM : vx_Met l y ws rm Pc Qc XC mc ms free) (cw : CallB R s args own index y bytes maxL ret ws rm mc ms n ∧ (Cond.static y).before args s = true) (hp : PreS s H Pc As)
    (hg : g.method = m) (hn : As.length = n) (hsize : g.locals.size = nL) (hstack : g.stack = As.reverse ++ rest) (hW : 2 * g.monitorRoom + (rest.map fun v => v.category).sum ≤ 8) (hdg : decode cc g.pc = .ok (.invokestatic index, 3)) (hf : cells + mc ≤ R.cells ∧ slots + ms ≤ R.slots) :
    vx_Run p l e R s m args below meth c H locs cells slots mc ms g rest (Qc As.toArray) XC free := by
  have hK : vx_Back l R p e below s args y 3 8 (PreOf R mc ms Pc) (PostOf Qc mc ms free) (vx_Post XC mc ms free) := vx_callBack cw.1 hM hp.1
  obtain ⟨⟨-, -, -, -, -, -, hcode, hini, hy, hlen, hl⟩, hstt⟩ := cw
  obtain ⟨hx, hb, hml, ho, -⟩ := S
  intro T hT X
  rcases vx_callS X hx (bytes := bytes) (maxL := maxL) (ret := ret) ho hl hstt hini hcode hy hK hg (hsize.trans hml.symm) (argsL := As) (rest := rest) (fun sig h => hn.trans (hlen sig h)) hstack hW (by rw [hb]; exact hdg)
    (fun vm₁ hW₁ => ⟨hf.1, hf.2, hp.2 (T.setVm vm₁) hT hW₁⟩) with ⟨v, vm₁, ⟨U', l2, c2, s2⟩, hW₁, X', ⟨g', mk, t, L, e1, e2, hq, h1, hL, h2, h3⟩, st⟩ | ⟨q, vm₁, ⟨U', l2, c2, s2⟩, hW₁, X', ⟨g', mk, t, L, E, ce, e1, e2, hq, hce, hcv, hcl, h1, hL, h2, h3⟩, st⟩
  · dsimp only [Pt.U, Pt.locs, Pt.cells, Pt.slots] at X' e1 e2 h1 h2 h3 st
    subst h1; subst h2; subst h3
    exact Or.inl ⟨v, (T.setVm vm₁).calling g' mk As.toArray, t, U', L, hT, X', hL, e1, e2, hq, st⟩
  · dsimp only [Pt.U, Pt.locs, Pt.cells, Pt.slots] at X' e1 e2 h1 h2 h3 st hcl
    subst h1; subst h2; subst h3
    exact Or.inr ⟨q, (T.setVm vm₁).calling g' mk As.toArray, t, U', L, E, ce, hT, X', hL, e1, e2, hq, hce, hcv, vx_cls hW₁ hcl, st⟩
end Runs
section Rows
variable {p : Program} {l : Launch} {e : Env} {R : Room} {s : State} {m : MethodId} {args : Array Value} {below : List Frame} {meth : Method} {c : Code} {H : Heap} {locs : List Loc} {cells slots : Nat} {Q : State → Prop}
variable {mc ms : Nat} {free : Addr → Prop} {A0 A1 : Nat → Prop} {H0 : Heap} {a : Array Value} {pc : Nat} {ls : Array Slot} {st0 rest : List Value}
theorem vx_keep {st₀ t T' : State} {L : List Loc} (h0 : st₀.heap = H) (e1 : T'.heap = t.heap) (hS : va_S A0 H0 H locs) (hA : ∀ q, q < H.size → A1 q → A0 q) (hf : ∀ q, free q → A0 q) (hL : ∀ q ∈ L, free q.base) (hF : va_F A1 st₀ t) :
    H.size ≤ T'.heap.size ∧ (∀ q : Nat, q < H.size → ¬ A1 q → T'.heap[q]? = H[q]?) ∧ va_S A0 H0 T'.heap (locs ++ L) := by
  obtain ⟨hz, hk⟩ := hF
  rw [h0] at hz hk
  exact ⟨by rw [e1]; exact hz, fun q h1 h2 => by rw [e1]; exact hk q h1 h2,
    ⟨Nat.le_trans hS.1 (by rw [e1]; exact hz), fun q h1 h2 => by rw [e1, hk q (Nat.lt_of_lt_of_le h1 hS.1) (fun z => h2 (hA q (Nat.lt_of_lt_of_le h1 hS.1) z))]; exact hS.2.1 q h1 h2, fun q hq => by
      rcases List.mem_append.mp hq with h | h
      · exact hS.2.2 q h
      · exact hf _ (hL q h)⟩⟩
theorem vx_calli {S SX : Type} {post : Int32 → S → Prop} {px : SX → Prop} {B : S → State → Prop} {BX : String → SX → State → Prop} {AX : Nat → Prop} (hr : vx_Run p l e R s m args below meth c H locs cells slots mc ms (F0 m pc ls st0) rest (va_Qi post B A1 a) (vx_X px BX AX) free) (hS : va_S A0 H0 H locs) (hA : ∀ q, q < H.size → A1 q → A0 q) (hf : ∀ q, free q → A0 q) (hAX : ∀ q, q < H.size → AX q → A0 q)
    (kx : ∀ (E : String) (ce : Cell) (q9 : Addr) (u : SX) (t : State) (H1 : Heap) (locs1 : List Loc), t.heap = H1 → s.vm.Alike t.vm → px u → BX E u t → H.size ≤ H1.size → (∀ q : Nat, q < H.size → ¬ AX q → H1[q]? = H[q]?) → va_S A0 H0 H1 locs1 → H1[q9]? = some ce → ce.vm = .none → s.vm.findClass E = some ce.cls → vx_W p l e R s m args below meth c H1 locs1 (cells + mc) (slots + ms) Q (F0 m pc ls rest) q9)
    (kk : ∀ (r : Int32) (u : S) (t : State) (H1 : Heap) (locs1 : List Loc), t.heap = H1 → s.vm.Alike t.vm → post r u → B u t → H.size ≤ H1.size → (∀ q : Nat, q < H.size → ¬ A1 q → H1[q]? = H[q]?) → va_S A0 H0 H1 locs1 → W p l e R s m args below meth c H1 locs1 (cells + mc) (slots + ms) Q (F0 m (pc + 3) ls (.int r :: rest))) : W p l e R s m args below meth c H locs cells slots Q (F0 m pc ls st0) := by
  intro T hT X
  rcases hr T hT X with ⟨v, st₀, t, T', L, h0, X', hL, e1, e2, ⟨⟨r, u, hv, hp, hb⟩, hF⟩, st⟩ | ⟨q, st₀, t, T', L, E, ce, h0, X', hL, e1, e2, ⟨u, hp, hb, hF⟩, hce, hcv, hcl, st⟩
  · cases hv
    obtain ⟨k1, k2, k3⟩ := vx_keep h0 e1 hS hA hf hL hF
    obtain ⟨t2, a1, b1⟩ := kk r u t T'.heap (locs ++ L) e1.symm (by rw [← e2]; exact X'.warmed.alike) hp hb k1 k2 k3 T' rfl X'
    exact ⟨t2, st t2 a1, b1⟩
  · obtain ⟨k1, k2, k3⟩ := vx_keep h0 e1 hS hAX hf hL hF
    obtain ⟨t2, a1, b1⟩ := kx E ce q u t T'.heap (locs ++ L) e1.symm (by rw [← e2]; exact X'.warmed.alike) hp hb k1 k2 k3 (by rw [e1]; exact hce) hcv hcl T' rfl X'
    exact ⟨t2, st.trans a1, b1⟩
theorem vx_calll {S SX : Type} {post : Int64 → S → Prop} {px : SX → Prop} {B : S → State → Prop} {BX : String → SX → State → Prop} {AX : Nat → Prop} (hr : vx_Run p l e R s m args below meth c H locs cells slots mc ms (F0 m pc ls st0) rest (va_Ql post B A1 a) (vx_X px BX AX) free) (hS : va_S A0 H0 H locs) (hA : ∀ q, q < H.size → A1 q → A0 q) (hf : ∀ q, free q → A0 q) (hAX : ∀ q, q < H.size → AX q → A0 q)
    (kx : ∀ (E : String) (ce : Cell) (q9 : Addr) (u : SX) (t : State) (H1 : Heap) (locs1 : List Loc), t.heap = H1 → s.vm.Alike t.vm → px u → BX E u t → H.size ≤ H1.size → (∀ q : Nat, q < H.size → ¬ AX q → H1[q]? = H[q]?) → va_S A0 H0 H1 locs1 → H1[q9]? = some ce → ce.vm = .none → s.vm.findClass E = some ce.cls → vx_W p l e R s m args below meth c H1 locs1 (cells + mc) (slots + ms) Q (F0 m pc ls rest) q9)
    (kk : ∀ (r : Int64) (u : S) (t : State) (H1 : Heap) (locs1 : List Loc), t.heap = H1 → s.vm.Alike t.vm → post r u → B u t → H.size ≤ H1.size → (∀ q : Nat, q < H.size → ¬ A1 q → H1[q]? = H[q]?) → va_S A0 H0 H1 locs1 → W p l e R s m args below meth c H1 locs1 (cells + mc) (slots + ms) Q (F0 m (pc + 3) ls (.long r :: rest))) : W p l e R s m args below meth c H locs cells slots Q (F0 m pc ls st0) := by
  intro T hT X
  rcases hr T hT X with ⟨v, st₀, t, T', L, h0, X', hL, e1, e2, ⟨⟨r, u, hv, hp, hb⟩, hF⟩, st⟩ | ⟨q, st₀, t, T', L, E, ce, h0, X', hL, e1, e2, ⟨u, hp, hb, hF⟩, hce, hcv, hcl, st⟩
  · cases hv
    obtain ⟨k1, k2, k3⟩ := vx_keep h0 e1 hS hA hf hL hF
    obtain ⟨t2, a1, b1⟩ := kk r u t T'.heap (locs ++ L) e1.symm (by rw [← e2]; exact X'.warmed.alike) hp hb k1 k2 k3 T' rfl X'
    exact ⟨t2, st t2 a1, b1⟩
  · obtain ⟨k1, k2, k3⟩ := vx_keep h0 e1 hS hAX hf hL hF
    obtain ⟨t2, a1, b1⟩ := kx E ce q u t T'.heap (locs ++ L) e1.symm (by rw [← e2]; exact X'.warmed.alike) hp hb k1 k2 k3 (by rw [e1]; exact hce) hcv hcl T' rfl X'
    exact ⟨t2, st.trans a1, b1⟩
theorem vx_callf {S SX : Type} {post : UInt32 → S → Prop} {px : SX → Prop} {B : S → State → Prop} {BX : String → SX → State → Prop} {AX : Nat → Prop} (hr : vx_Run p l e R s m args below meth c H locs cells slots mc ms (F0 m pc ls st0) rest (va_Qf post B A1 a) (vx_X px BX AX) free) (hS : va_S A0 H0 H locs) (hA : ∀ q, q < H.size → A1 q → A0 q) (hf : ∀ q, free q → A0 q) (hAX : ∀ q, q < H.size → AX q → A0 q)
    (kx : ∀ (E : String) (ce : Cell) (q9 : Addr) (u : SX) (t : State) (H1 : Heap) (locs1 : List Loc), t.heap = H1 → s.vm.Alike t.vm → px u → BX E u t → H.size ≤ H1.size → (∀ q : Nat, q < H.size → ¬ AX q → H1[q]? = H[q]?) → va_S A0 H0 H1 locs1 → H1[q9]? = some ce → ce.vm = .none → s.vm.findClass E = some ce.cls → vx_W p l e R s m args below meth c H1 locs1 (cells + mc) (slots + ms) Q (F0 m pc ls rest) q9)
    (kk : ∀ (r : UInt32) (u : S) (t : State) (H1 : Heap) (locs1 : List Loc), t.heap = H1 → s.vm.Alike t.vm → post r u → B u t → H.size ≤ H1.size → (∀ q : Nat, q < H.size → ¬ A1 q → H1[q]? = H[q]?) → va_S A0 H0 H1 locs1 → W p l e R s m args below meth c H1 locs1 (cells + mc) (slots + ms) Q (F0 m (pc + 3) ls (.float r :: rest))) : W p l e R s m args below meth c H locs cells slots Q (F0 m pc ls st0) := by
  intro T hT X
  rcases hr T hT X with ⟨v, st₀, t, T', L, h0, X', hL, e1, e2, ⟨⟨r, u, hv, hp, hb⟩, hF⟩, st⟩ | ⟨q, st₀, t, T', L, E, ce, h0, X', hL, e1, e2, ⟨u, hp, hb, hF⟩, hce, hcv, hcl, st⟩
  · cases hv
    obtain ⟨k1, k2, k3⟩ := vx_keep h0 e1 hS hA hf hL hF
    obtain ⟨t2, a1, b1⟩ := kk r u t T'.heap (locs ++ L) e1.symm (by rw [← e2]; exact X'.warmed.alike) hp hb k1 k2 k3 T' rfl X'
    exact ⟨t2, st t2 a1, b1⟩
  · obtain ⟨k1, k2, k3⟩ := vx_keep h0 e1 hS hAX hf hL hF
    obtain ⟨t2, a1, b1⟩ := kx E ce q u t T'.heap (locs ++ L) e1.symm (by rw [← e2]; exact X'.warmed.alike) hp hb k1 k2 k3 (by rw [e1]; exact hce) hcv hcl T' rfl X'
    exact ⟨t2, st.trans a1, b1⟩
theorem vx_calld {S SX : Type} {post : UInt64 → S → Prop} {px : SX → Prop} {B : S → State → Prop} {BX : String → SX → State → Prop} {AX : Nat → Prop} (hr : vx_Run p l e R s m args below meth c H locs cells slots mc ms (F0 m pc ls st0) rest (va_Qd post B A1 a) (vx_X px BX AX) free) (hS : va_S A0 H0 H locs) (hA : ∀ q, q < H.size → A1 q → A0 q) (hf : ∀ q, free q → A0 q) (hAX : ∀ q, q < H.size → AX q → A0 q)
    (kx : ∀ (E : String) (ce : Cell) (q9 : Addr) (u : SX) (t : State) (H1 : Heap) (locs1 : List Loc), t.heap = H1 → s.vm.Alike t.vm → px u → BX E u t → H.size ≤ H1.size → (∀ q : Nat, q < H.size → ¬ AX q → H1[q]? = H[q]?) → va_S A0 H0 H1 locs1 → H1[q9]? = some ce → ce.vm = .none → s.vm.findClass E = some ce.cls → vx_W p l e R s m args below meth c H1 locs1 (cells + mc) (slots + ms) Q (F0 m pc ls rest) q9)
    (kk : ∀ (r : UInt64) (u : S) (t : State) (H1 : Heap) (locs1 : List Loc), t.heap = H1 → s.vm.Alike t.vm → post r u → B u t → H.size ≤ H1.size → (∀ q : Nat, q < H.size → ¬ A1 q → H1[q]? = H[q]?) → va_S A0 H0 H1 locs1 → W p l e R s m args below meth c H1 locs1 (cells + mc) (slots + ms) Q (F0 m (pc + 3) ls (.double r :: rest))) : W p l e R s m args below meth c H locs cells slots Q (F0 m pc ls st0) := by
  intro T hT X
  rcases hr T hT X with ⟨v, st₀, t, T', L, h0, X', hL, e1, e2, ⟨⟨r, u, hv, hp, hb⟩, hF⟩, st⟩ | ⟨q, st₀, t, T', L, E, ce, h0, X', hL, e1, e2, ⟨u, hp, hb, hF⟩, hce, hcv, hcl, st⟩
  · cases hv
    obtain ⟨k1, k2, k3⟩ := vx_keep h0 e1 hS hA hf hL hF
    obtain ⟨t2, a1, b1⟩ := kk r u t T'.heap (locs ++ L) e1.symm (by rw [← e2]; exact X'.warmed.alike) hp hb k1 k2 k3 T' rfl X'
    exact ⟨t2, st t2 a1, b1⟩
  · obtain ⟨k1, k2, k3⟩ := vx_keep h0 e1 hS hAX hf hL hF
    obtain ⟨t2, a1, b1⟩ := kx E ce q u t T'.heap (locs ++ L) e1.symm (by rw [← e2]; exact X'.warmed.alike) hp hb k1 k2 k3 (by rw [e1]; exact hce) hcv hcl T' rfl X'
    exact ⟨t2, st.trans a1, b1⟩
theorem vx_callv {S SX : Type} {post : S → Prop} {px : SX → Prop} {B : S → State → Prop} {BX : String → SX → State → Prop} {AX : Nat → Prop} (hr : vx_Run p l e R s m args below meth c H locs cells slots mc ms (F0 m pc ls st0) rest (va_Qv post B A1 a) (vx_X px BX AX) free) (hS : va_S A0 H0 H locs) (hA : ∀ q, q < H.size → A1 q → A0 q) (hf : ∀ q, free q → A0 q) (hAX : ∀ q, q < H.size → AX q → A0 q)
    (kx : ∀ (E : String) (ce : Cell) (q9 : Addr) (u : SX) (t : State) (H1 : Heap) (locs1 : List Loc), t.heap = H1 → s.vm.Alike t.vm → px u → BX E u t → H.size ≤ H1.size → (∀ q : Nat, q < H.size → ¬ AX q → H1[q]? = H[q]?) → va_S A0 H0 H1 locs1 → H1[q9]? = some ce → ce.vm = .none → s.vm.findClass E = some ce.cls → vx_W p l e R s m args below meth c H1 locs1 (cells + mc) (slots + ms) Q (F0 m pc ls rest) q9)
    (kk : ∀ (u : S) (t : State) (H1 : Heap) (locs1 : List Loc), t.heap = H1 → s.vm.Alike t.vm → post u → B u t → H.size ≤ H1.size → (∀ q : Nat, q < H.size → ¬ A1 q → H1[q]? = H[q]?) → va_S A0 H0 H1 locs1 → W p l e R s m args below meth c H1 locs1 (cells + mc) (slots + ms) Q (F0 m (pc + 3) ls (rest))) : W p l e R s m args below meth c H locs cells slots Q (F0 m pc ls st0) := by
  intro T hT X
  rcases hr T hT X with ⟨v, st₀, t, T', L, h0, X', hL, e1, e2, ⟨⟨u, hv, hp, hb⟩, hF⟩, st⟩ | ⟨q, st₀, t, T', L, E, ce, h0, X', hL, e1, e2, ⟨u, hp, hb, hF⟩, hce, hcv, hcl, st⟩
  · cases hv
    obtain ⟨k1, k2, k3⟩ := vx_keep h0 e1 hS hA hf hL hF
    obtain ⟨t2, a1, b1⟩ := kk u t T'.heap (locs ++ L) e1.symm (by rw [← e2]; exact X'.warmed.alike) hp hb k1 k2 k3 T' rfl X'
    exact ⟨t2, st t2 a1, b1⟩
  · obtain ⟨k1, k2, k3⟩ := vx_keep h0 e1 hS hAX hf hL hF
    obtain ⟨t2, a1, b1⟩ := kx E ce q u t T'.heap (locs ++ L) e1.symm (by rw [← e2]; exact X'.warmed.alike) hp hb k1 k2 k3 (by rw [e1]; exact hce) hcv hcl T' rfl X'
    exact ⟨t2, st.trans a1, b1⟩
/-- caught by the row x of this method's table; the rows ahead don't take it -/
theorem vx_catch {own name : String} {E : String} {ce : Cell} {q : Addr} (hown : s.vm.findClass own = some m.cls) (pre : List ExceptionTableEntry) (x : ExceptionTableEntry) (suf : List ExceptionTableEntry) (hsplit : c.exceptionTable.toList = pre ++ x :: suf)
    (hpass : ∀ z ∈ pre, covers z pc = false ∨ (z.catchType ≠ 0 ∧ ∃ nm : String, (Cond.classLink own z.catchType nm).before args s = true ∧ va_Nc E nm s)) (hx : covers x pc = true) (h0 : x.catchType ≠ 0)
    (hlink : (Cond.classLink own x.catchType name).before args s = true) (hcast : (Cond.castable E name).before args s = true) (hcell : H[q]? = some ce) (hv : ce.vm = .none) (hcl : s.vm.findClass E = some ce.cls)
    (kk : W p l e R s m args below meth c H locs cells slots Q (F0 m x.handlerPc ls [.ref q])) : vx_W p l e R s m args below meth c H locs cells slots Q (F0 m pc ls rest) q := by
  intro T hT X
  have hpl : e.platform.magicAccessors = ({} : Platform).magicAccessors := by rw [X.admits.platform]
  obtain ⟨c3, c4, hc3, hc4, hasg⟩ := Cond.castable_spec hcast
  cases Option.some.inj (hc3.symm.trans hcl)
  obtain ⟨c5, hc5, hcl5⟩ := Cond.classLink_spec hown hlink e.platform hpl
  cases Option.some.inj (hc4.symm.trans hc5)
  obtain ⟨vm', X', st⟩ := X.thenCaughtThrough q (g := F0 m pc ls rest) rfl (Steps.refl _) (by rw [hT]; exact hcell) (by rw [hv]; rfl) (by obtain ⟨k9, h9, -⟩ := Vm.findClass_spec hcl; exact ⟨k9, h9⟩) pre x suf hsplit
    (fun z hz => by
      rcases hpass z hz with h | ⟨hz0, nm, hl1, hn1⟩
      · exact Or.inl h
      · obtain ⟨c6, hc6, hcl6⟩ := Cond.classLink_spec hown hl1 e.platform hpl
        obtain ⟨a8, b8, h1, h2, h3⟩ := hn1
        cases Option.some.inj (h1.symm.trans hcl)
        cases Option.some.inj (h2.symm.trans hc6)
        exact Or.inr ⟨hz0, _, hcl6, h3⟩) hx (Or.inr ⟨h0, c4, hcl5, hasg⟩)
  obtain ⟨t, a1, b1⟩ := kk (T.setVm vm') hT X'
  exact ⟨t, st.trans a1, b1⟩
end Rows
section Ends
variable {p : Program} {l : Launch} {e : Env} {R : Room} {s : State} {m : MethodId} {args : Array Value} {below : List Frame} {meth : Method} {c : Code} {H : Heap} {locs : List Loc} {cells slots : Nat} {Q : State → Prop}
variable {mc ms : Nat} {free : Addr → Prop} {A0 A1 : Nat → Prop} {H0 : Heap} {a : Array Value} {ls : Array Slot} {st0 rest : List Value}
variable {Qc : Array Value → State → Outcome → State → Prop} {XC : String → State → State → Prop}
/-- what a body that may throw owes at its end -/
def vx_MQ (below : List Frame) (Qc : Array Value → State → Outcome → State → Prop) (XC : String → State → State → Prop) (a : Array Value) (s : State) (mc ms : Nat) (free : Addr → Prop) : State → Prop := fun t =>
  ∃ o, t.status = .running ∧ Ended t below o ∧ vx_Q Qc XC mc ms free a s o t
theorem vx_ret {g : JFrame} {mc ms : Nat} (k : W p l e R s m args below meth c H locs cells slots (MQ below Qc args s mc ms free) g) : W p l e R s m args below meth c H locs cells slots (vx_MQ below Qc XC args s mc ms free) g := by
  intro T hT X
  obtain ⟨t, a1, o, b1, b2, b3, b4⟩ := k T hT X
  exact ⟨t, a1, o, b1, b2, Or.inl ⟨b3, b4⟩⟩
/-- not caught here: it goes on to the caller -/
theorem vx_widen {g : JFrame} {q : Addr} {k n : Nat} (h1 : cells ≤ k) (h2 : slots ≤ n) (kk : vx_W p l e R s m args below meth c H locs k n Q g q) : vx_W p l e R s m args below meth c H locs cells slots Q g q := fun T hT X => kk T hT (stand_widen X h1 h2)
theorem vx_out {pc : Nat} {E : String} {ce : Cell} {q : Addr} {mc ms : Nat} (hout : ∀ x ∈ c.exceptionTable.toList, covers x pc = false) (hlocks : meth.locks = false) (hcell : H[q]? = some ce) (hv : ce.vm = .none) (hcl : s.vm.findClass E = some ce.cls)
    (hx : ∀ t : State, t.heap = H → s.vm.Alike t.vm → XC E s t) (hf : ∀ z ∈ locs, free z.base) (hc : cells ≤ mc) (hs : slots ≤ ms) :
    vx_W p l e R s m args below meth c H locs cells slots (vx_MQ below Qc XC args s mc ms free) (F0 m pc ls rest) q := by
  intro T hT X
  obtain ⟨st1, hrun, hend, hW, hsm⟩ := X.leaveThrown q (g := F0 m pc ls rest) rfl rfl rfl hout hlocks
  have hcell9 : (T.setFrames (.throwing q :: below)).heap[q]? = some ce := by
    show T.heap[q]? = some ce
    rw [hT]; exact hcell
  exact ⟨_, st1, .threw q, hrun, hend, Or.inr ⟨q, rfl, E, ce, locs, hx _ hT hW.alike, hcell9, hv, hcl, hW, hsm.mono hc hs, hf⟩⟩
theorem vx_frame {U : State} {k n : Nat} (h : s.sameButNew ({ U with vm := s.vm } : State) locs k n) : s.heap.size ≤ U.heap.size ∧ ∀ q : Nat, q < s.heap.size → (∀ z ∈ locs, z.base ≠ q) → U.heap[q]? = s.heap[q]? := by
  obtain ⟨-, h2, -, -, -, h6⟩ := h
  refine ⟨h2, fun q hq hz => ?_⟩
  obtain ⟨c9, e1, e2, e3, e4⟩ := h6 q _ (Array.getElem?_eq_getElem hq)
  have hs : c9.slots = (s.heap[q]).slots := Array.ext_getElem? fun i => e4 i fun hm => hz _ hm rfl
  have h9 : c9 = s.heap[q] := by
    rw [hs] at e2
    exact e2
  have e5 : U.heap[q]? = some c9 := e1
  rw [e5, h9, Array.getElem?_eq_getElem hq]
/-- the words of a throw but the four that speak of the heap -/
def vx_no (w : Cond) : Bool := decide (w ≠ .isRef (.static Bundle.tN "UNASSIGNED_STACK" Bundle.steD)) && decide (w ≠ .isRef (.static Bundle.tN "SUPPRESSED_SENTINEL" Bundle.listD)) && decide (w ≠ .laysStatic Bundle.tN "UNASSIGNED_STACK" Bundle.steD) && decide (w ≠ .laysStatic Bundle.tN "SUPPRESSED_SENTINEL" Bundle.listD)
def vx_at0 (own : String) (ic : Nat) (X : String) (names : List String) : List Cond := (Bundle.ownAtoms0 own ic X names).filter vx_no
def vx_atS (own : String) (ic : Nat) (X : String) (names : List String) : List Cond := (Bundle.ownAtoms own ic X names).filter vx_no
/-- a word that the tables alone decide, or a good one -/
def vx_ot (w : Cond) : Bool := w.onTables || goodWord w
theorem vx_ot_at {args a' : Array Value} {s U : State} {w : Cond} (hW : s.WarmedH U.vm) (hvm : s.vm = U.vm) (hg : vx_ot w = true) (h : w.before args s = true) : w.before a' U = true := by
  simp only [vx_ot, Bool.or_eq_true] at hg
  rcases hg with hg | hg
  · exact va_tabs hg hvm h
  · exact word_at hW (good_of_word hg) h
/-- a list's words: the good ones out of the method's own list, the others by premises of their own -/
theorem vx_hat {args : Array Value} {s : State} {L B : List Cond} (h1 : ∀ w ∈ L.filter goodWord, w.before args s = true) (h2 : ∀ w ∈ L.filter (fun w => !goodWord w), w ∈ B) (h3 : ∀ w ∈ B, w.before args s = true) : ∀ w ∈ L, w.before args s = true := by
  intro w hw
  by_cases g : goodWord w = true
  · exact h1 w (List.mem_filter.mpr ⟨hw, g⟩)
  · refine h3 w (h2 w (List.mem_filter.mpr ⟨hw, ?_⟩))
    show (!goodWord w) = true
    cases hgw : goodWord w
    · rfl
    · exact absurd hgw g
theorem vx_c {args : Array Value} {s : State} {w : Cond} {B : List Cond} (h : w.before args s = true) (t : ∀ w ∈ B, w.before args s = true) : ∀ w' ∈ w :: B, w'.before args s = true := fun w' h' => (List.mem_cons.mp h').elim (fun e => by rw [e]; exact h) (t w')
theorem vx_n {args : Array Value} {s : State} : ∀ w ∈ ([] : List Cond), w.before args s = true := fun _ h => nomatch h
theorem vx_own {args : Array Value} {s : State} {L : List Cond} (h1 : ∀ w ∈ L.filter vx_no, w.before args s = true)
    (hU : (Cond.isRef (.static Bundle.tN "UNASSIGNED_STACK" Bundle.steD)).before args s = true) (hN : (Cond.isRef (.static Bundle.tN "SUPPRESSED_SENTINEL" Bundle.listD)).before args s = true)
    (lU : (Cond.laysStatic Bundle.tN "UNASSIGNED_STACK" Bundle.steD).before args s = true) (lN : (Cond.laysStatic Bundle.tN "SUPPRESSED_SENTINEL" Bundle.listD).before args s = true) : ∀ w ∈ L, w.before args s = true := by
  intro w hw
  by_cases e1 : w = .isRef (.static Bundle.tN "UNASSIGNED_STACK" Bundle.steD)
  · rw [e1]; exact hU
  · by_cases e2 : w = .isRef (.static Bundle.tN "SUPPRESSED_SENTINEL" Bundle.listD)
    · rw [e2]; exact hN
    · by_cases e3 : w = .laysStatic Bundle.tN "UNASSIGNED_STACK" Bundle.steD
      · rw [e3]; exact lU
      · by_cases e4 : w = .laysStatic Bundle.tN "SUPPRESSED_SENTINEL" Bundle.listD
        · rw [e4]; exact lN
        · exact h1 w (List.mem_filter.mpr ⟨hw, by unfold vx_no; rw [decide_eq_true e1, decide_eq_true e2, decide_eq_true e3, decide_eq_true e4]; rfl⟩)
/-- where a static field lies, its class's statics cell in H -/
def vx_L (C n d : String) (A : Nat → Prop) (U : State) (H : Heap) : Prop := ∃ (c : ClassId) (k : Class) (i : Nat) (f : Field) (a : Nat) (cell : Cell), U.vm.findClass C = some c ∧ U.fieldFound? C n d = some (c, k, i, f) ∧ f.isStatic = true ∧ k.statics = some a ∧ H[a]? = some cell ∧ cell.vm.isStatics = true ∧ cell.cls = c ∧ f.slot < cell.slots.size ∧ k.staticTypes[f.slot]? = some f.type ∧ ¬ A a
theorem vx_L.moved {C n d : String} {A : Nat → Prop} {u U : State} {H : Heap} (hvm : u.vm.Alike U.vm) (h : vx_L C n d A u H) : vx_L C n d A U H := by
  obtain ⟨c, k, i, f, a, cell, h1, h2, h3, h4, h5, h6, h7, h8, h9, h10⟩ := h
  obtain ⟨k', hi', he⟩ := State.fieldFound?_setVm hvm h2
  exact ⟨c, k', i, f, a, cell, by rw [hvm.findClass]; exact h1, hi', h3, by rw [he]; exact h4, h5, h6, h7, h8, by rw [he]; exact h9, h10⟩
theorem vx_L.kept {C n d : String} {A : Nat → Prop} {U : State} {H H1 : Heap} (h : vx_L C n d A U H) (hq : ∀ a : Nat, a < H.size → ¬ A a → H1[a]? = H[a]?) : vx_L C n d A U H1 := by
  obtain ⟨c, k, i, f, a, cell, h1, h2, h3, h4, h5, h6, h7, h8, h9, h10⟩ := h
  exact ⟨c, k, i, f, a, cell, h1, h2, h3, h4, by rw [hq a (Array.getElem?_eq_some_iff.mp h5).1 h10]; exact h5, h6, h7, h8, h9, h10⟩
theorem vx_L.narrow {C n d : String} {A B : Nat → Prop} {U : State} {H : Heap} (h : vx_L C n d A U H) (hAB : ∀ q, B q → A q) : vx_L C n d B U H := by
  obtain ⟨c, k, i, f, a, cell, h1, h2, h3, h4, h5, h6, h7, h8, h9, h10⟩ := h
  exact ⟨c, k, i, f, a, cell, h1, h2, h3, h4, h5, h6, h7, h8, h9, fun z => h10 (hAB _ z)⟩
theorem vx_L.word {C n d : String} {A : Nat → Prop} {s : State} {args : Array Value} (h : vx_L C n d A s s.heap) : (Cond.laysStatic C n d).before args s = true := by
  obtain ⟨c, k, i, f, a, cell, h1, h2, h3, h4, h5, h6, h7, h8, h9, -⟩ := h
  show (Cond.laysStatic C n d).holds args s none s [] = true
  exact Cond.laysStatic_of h1 h2 h3 h4 h5 h6 h7 h8 h9
/-- .. and what it holds: null or some reference -/
def vx_Zq (C n d : String) (A : Nat → Prop) (U : State) (H : Heap) : Prop := va_Zq C n d A U H ∧ vx_L C n d A U H
theorem vx_Zq.moved {C n d : String} {A : Nat → Prop} {u U : State} {H : Heap} (hvm : u.vm.Alike U.vm) (h : vx_Zq C n d A u H) : vx_Zq C n d A U H := ⟨va_Zq.moved hvm h.1, vx_L.moved hvm h.2⟩
theorem vx_Zq.kept {C n d : String} {A : Nat → Prop} {U : State} {H H1 : Heap} (h : vx_Zq C n d A U H) (hq : ∀ a : Nat, a < H.size → ¬ A a → H1[a]? = H[a]?) : vx_Zq C n d A U H1 := ⟨va_Zq.kept h.1 hq, vx_L.kept h.2 hq⟩
theorem vx_Zq.narrow {C n d : String} {A B : Nat → Prop} {U : State} {H : Heap} (h : vx_Zq C n d A U H) (hAB : ∀ q, B q → A q) : vx_Zq C n d B U H := ⟨va_Zq.narrow h.1 hAB, vx_L.narrow h.2 hAB⟩
theorem vx_Zqof {args : Array Value} {s : State} {C n d : String} {A : Nat → Prop} (hl : (Cond.laysStatic C n d).before args s = true) (hini : (Cond.initialized C).before args s = true) (h : (Cond.isRef (.static C n d)).before args s = true) (hA : ∀ a : Nat, a < s.heap.size → ¬ A a) : vx_Zq C n d A s s.heap := by
  refine ⟨va_Zqof hl hini h hA, ?_⟩
  obtain ⟨c, k, i, f, a, cell, h1, h2, h3, h4, h5, h6, h7, h8, h9⟩ := Cond.laysStatic_spec hl
  exact ⟨c, k, i, f, a, cell, h1, h2, h3, h4, h5, h6, h7, h8, h9, hA a (Array.getElem?_eq_some_iff.mp h5).1⟩
theorem vx_isRef {C n d : String} {v : Value} {A : Nat → Prop} {s : State} {args : Array Value} (h : va_Z C n d v A s s.heap) (hv : v.isRef = true) : (Cond.isRef (.static C n d)).before args s = true := by
  obtain ⟨cf, kf, fi, f, a, cell, h1, h2, h3, h4, h5, h6, h7, -⟩ := h
  have he : (Term.static C n d).eval args s none [] s = some v := by
    simp [Term.eval, State.fieldNamed?, h1, h2, h4, h5, h6, h7]
  simp only [Cond.before, Cond.holds, Cond.value, he]
  cases v <;> simp_all [Value.isRef]
theorem vx_isRefq {C n d : String} {A : Nat → Prop} {s : State} {args : Array Value} (h : va_Zq C n d A s s.heap) : (Cond.isRef (.static C n d)).before args s = true := by
  rcases h with h | ⟨t, h⟩
  · exact vx_isRef h rfl
  · exact vx_isRef h rfl
/-- the same frame, seen from here: as if the method were called anew in this heap -/
theorem vx_rebase {T : State} (X : Stand p l e R s m args below meth c T locs cells slots) {R' : Room} (hf : R'.frames ≤ R.frames) (hl : R'.locals ≤ R.locals) (hc : cells + R'.cells ≤ R.cells) (hs : slots + R'.slots ≤ R.slots) :
    Stand p l e R' ((T.setVm s.vm).setFrames (.invoking m args :: below)) m args below meth c T [] 0 0 := by
  have htop : (T.setVm s.vm).topJava?.isSome := X.here.top
  have hF : ((T.setVm s.vm).setFrames (.invoking m args :: below)).frames = .invoking m args :: below := State.frames_setFrames _ (State.cur_lt_of_top htop)
  obtain ⟨g₀, hg0⟩ := Option.isSome_iff_exists.mp htop
  obtain ⟨r, hr⟩ := State.topJava?_eq_some.mp hg0
  have hl9 : e.platform.stackLimits (T.setVm s.vm).me = e.platform.stackLimits s.me := X.limits
  have hb9 : (T.setVm s.vm).me.stackBytes = s.me.stackBytes := X.bytes
  refine ⟨X.admits, X.cas, X.clock, hF, ?_, X.hears, X.method, X.code, X.here, X.tail, X.warmed, ?_, ?_, ?_⟩
  · have h := X.room
    have hU : ((T.setVm s.vm).setFrames (.invoking m args :: below)).localsInUse = s.localsInUse := by
      rw [State.localsInUse_invoking hF (meth := meth) (c := c) X.method X.code, State.localsInUse_invoking X.frames X.method X.code]
    simp only [State.hasRoom, Bool.and_eq_true, decide_eq_true_eq] at h ⊢
    obtain ⟨⟨⟨⟨h1, h2, h3, h4, h5, h6⟩, h7⟩, h8⟩, h9⟩ := h
    rw [X.frames, List.length_cons] at h2 h3
    have q1 := X.heapSize
    have q2 := X.used
    simp only [hF, hU, List.length_cons, State.stackLimits_setFrames, State.stackBytes_setFrames, hl9, hb9]
    refine ⟨⟨⟨⟨by omega, by omega, by omega, by omega, by omega, h6⟩, ?_⟩, ?_⟩, X.book⟩
    · show T.heap.size + R'.cells ≤ e.platform.maxCells
      omega
    · show T.slotsUsed + R'.slots ≤ e.platform.maxSlots
      omega
  · rw [State.stackLimits_setFrames]; rfl
  · rw [State.stackBytes_setFrames]; rfl
  · refine ⟨?_, Nat.le_refl _, Nat.le_refl _, ?_, ?_, fun a c9 h9 => ⟨c9, h9, rfl, rfl, fun _ _ => rfl⟩⟩
    · obtain ⟨t, ht, -⟩ := State.frames_cons hr
      show T.setVm s.vm = { ((T.setVm s.vm).setFrames (.invoking m args :: below)).setFrames (T.setVm s.vm).frames with heap := T.heap, slotsUsed := T.slotsUsed }
      rw [State.setFrames_setFrames, State.setFrames_self ht]
      rfl
    · show T.slotsUsed = T.slotsUsed + ((T.heap.toList.drop T.heap.size).map (·.slots.size)).sum
      rw [List.drop_eq_nil_of_le (Nat.le_of_eq Array.length_toList)]
      rfl
    · show ((T.heap.toList.drop T.heap.size).map (·.slots.size)).sum ≤ 0
      rw [List.drop_eq_nil_of_le (Nat.le_of_eq Array.length_toList)]
      exact Nat.le_refl _
/-- 'throw new E()': new; dup; invokespecial; athrow -/
theorem vx_throw0 {cc : ByteArray} {pc : Nat} (hexec : p.tables.exec = Jvm.exec) (hb : c.code = cc) (hl : l.stackTraces = false) {own cls : String} {names : List String} {ik ic mc ms : Nat} {A : Nat → Prop}
    (hown : s.vm.findClass own = some m.cls) (hcls : Bundle.fit cls = true) (hnames : ∀ n ∈ names, Bundle.fit n = true)
    (hk : (Cond.classLink own ik cls).before args s = true) (hini : (Cond.initialized cls).before args s = true) (hat : ∀ w ∈ vx_at0 own ic cls names, w.before args s = true)
    (hgood : ∀ w ∈ Cond.classLink own ik cls :: Cond.initialized cls :: vx_at0 own ic cls names, vx_ot w = true)
    (hU : vx_Zq Bundle.tN "UNASSIGNED_STACK" Bundle.steD A s s.heap) (hN : vx_Zq Bundle.tN "SUPPRESSED_SENTINEL" Bundle.listD A s s.heap) (hS : va_S A s.heap H locs) (hsize : ls.size = c.maxLocals)
    (d0 : decode cc pc = .ok (.new ik, 3)) (d3 : decode cc (pc + 3) = .ok (.dup, 1)) (d4 : decode cc (pc + 4) = .ok (.invokespecial ic, 3)) (d7 : decode cc (pc + 7) = .ok (.athrow, 1))
    (hout : ∀ x ∈ c.exceptionTable.toList, covers x (pc + 7) = false)
    (hRframes : names.length + 3 < R.frames) (hRlocals : (rest.map fun v => v.category).sum + (13 * (names.length + 1) + 42) ≤ R.locals) (hRcells : cells + 1 ≤ R.cells) (hRslots : slots + 6 ≤ R.slots) (hlocks : meth.locks = false)
    (hx : ∀ t : State, s.vm.Alike t.vm → H.size ≤ t.heap.size → (∀ q : Nat, q < H.size → t.heap[q]? = H[q]?) → XC cls s t)
    (hf : ∀ z ∈ locs, free z.base) (hc : cells + 1 ≤ mc) (hs : slots + 6 ≤ ms) :
    W p l e R s m args below meth c H locs cells slots (vx_MQ below Qc XC args s mc ms free) (F0 m pc ls rest) := by
  intro T hT X
  have htr : e.platform.stackTraces = false := (show e.platform.stackTraces = l.stackTraces by rw [X.admits.platform]).trans hl
  have Y := vx_rebase X (R' := { frames := R.frames, locals := R.locals, cells := 1, slots := 6 }) (Nat.le_refl _) (Nat.le_refl _) hRcells hRslots
  obtain ⟨s', hA⟩ : ∃ z, z = (T.setVm s.vm).setFrames (.invoking m args :: below) := ⟨_, rfl⟩
  rw [← hA] at Y
  have hvm : s'.vm = s.vm := by rw [hA]; rfl
  have hhp : s'.heap = H := by rw [hA]; exact hT
  have hW0 : s.WarmedH s'.vm := by rw [hvm]; exact State.WarmedH.refl s
  have hat' : ∀ w ∈ vx_at0 own ic cls names, w.before args s' = true := fun w hw => vx_ot_at hW0 hvm.symm (hgood w (List.mem_cons_of_mem _ (List.mem_cons_of_mem _ hw))) (hat w hw)
  have hk' : (Cond.classLink own ik cls).before args s' = true := vx_ot_at hW0 hvm.symm (hgood _ List.mem_cons_self) hk
  have hini' : (Cond.initialized cls).before args s' = true := vx_ot_at hW0 hvm.symm (hgood _ (List.mem_cons_of_mem _ List.mem_cons_self)) hini
  have hU' : vx_Zq Bundle.tN "UNASSIGNED_STACK" Bundle.steD A s' s'.heap := by rw [hhp]; exact vx_Zq.moved hW0.alike (hU.kept hS.2.1)
  have hN' : vx_Zq Bundle.tN "SUPPRESSED_SENTINEL" Bundle.listD A s' s'.heap := by rw [hhp]; exact vx_Zq.moved hW0.alike (hN.kept hS.2.1)
  have h : ∀ w ∈ Bundle.ownAtoms0 own ic cls names, w.before args s' = true := vx_own hat' (vx_isRefq hU'.1) (vx_isRefq hN'.1) hU'.2.word hN'.2.word
  have hown' : s'.vm.findClass own = some m.cls := by rw [hvm]; exact hown
  have hins : (Cond.instantiable cls 6).before args s' = true := h _ (by simp [Bundle.ownAtoms0])
  obtain ⟨vm₁, cX, kX, hfX, hkX, -, -, X₁, st1⟩ := Y.newCold hexec (own := own) (C := cls) (index := ik) (n := 6) hown' hk' hins hini'
    (g := F0 m pc ls rest) rfl (by rw [hb]; exact d0) (Nat.le_refl _) (Nat.le_refl _)
  generalize hT1 : (T.setVm vm₁).pushCell { cls := cX, slots := kX.instanceTypes.map defaultValue, vm := .none } = T1 at X₁ st1
  have hcat : (Value.ref T.heap.size).category = 1 := rfl
  have hcellA : T1.heap[T.heap.size]? = some (freshCell cX kX) := by rw [← hT1]; exact State.heap_pushCell_size _ _
  have d3' : decode c.code (pc + 3) = .ok (.dup, 1) := by rw [hb]; exact d3
  obtain ⟨U, hsteps, hrun, hend, hW, hsame, ce, hce, hO⟩ := X₁.ctorThrow0 hexec htr (own := own) (cls := cls) (names := names) (ic := ic) hown' hcls hnames h (fun x hx => nomatch hx) hfX hkX hcellA (by rw [hhp, hT]; exact Nat.le_refl _)
    (g := { method := m, pc := pc + 4, locals := ls, stack := .ref T.heap.size :: .ref T.heap.size :: rest, locked := none }) rfl hsize rfl rfl (rest := rest) rfl
    (by rw [hb]; exact d4) (by rw [hb]; exact d7) hout hRframes (by simp only [List.map_cons, List.sum_cons, hcat]; omega) hlocks
  obtain ⟨f1, f2⟩ := vx_frame hsame
  rw [hhp] at f1 f2
  have hWs : s.WarmedH U.vm := State.WarmedH.trans hW0 hW
  have hcl : s.vm.findClass cls = some ce.cls := by
    have h9 := hO.cls
    rw [hvm] at h9
    exact h9
  have hall : s.sameButNew ({ U with vm := s.vm } : State) locs mc ms := by
    subst hA
    obtain ⟨e1, e2⟩ := hsame
    rw [State.setFrames_setFrames] at e1
    have h2 : (T.setVm s.vm).sameButNew ({ U with vm := s.vm } : State) [] (0 + 1) (0 + 6) := ⟨e1, e2⟩
    have h3 := X.same.trans h2
    rw [List.append_nil] at h3
    exact h3.mono hc hs
  refine ⟨U, ?_, .threw T.heap.size, hrun, hend, Or.inr ⟨T.heap.size, rfl, cls, ce, locs, hx U hWs.alike f1 (fun q hq => f2 q hq (fun z hz => nomatch hz)), hce, hO.vm, hcl, hWs, hall, hf⟩⟩
  refine st1 _ ?_
  show Steps p.tables e below (T1.setTop { method := m, pc := pc + 3, locals := ls, stack := .ref T.heap.size :: rest, locked := none }) _
  jvm_step X₁.here [X₁.here.top, hexec, d3', Value.category]
  exact hsteps
/-- 'throw new E("text")': new; dup; ldc; invokespecial; athrow -/
theorem vx_throwS {cc : ByteArray} {pc : Nat} (hexec : p.tables.exec = Jvm.exec) (hb : c.code = cc) (hl : l.stackTraces = false) {own cls text : String} {names : List String} {ik is ic mc ms sa : Nat} {A : Nat → Prop}
    (hown : s.vm.findClass own = some m.cls) (hcls : Bundle.fit cls = true) (hnames : ∀ n ∈ names, Bundle.fit n = true)
    (hk : (Cond.classLink own ik cls).before args s = true) (hini : (Cond.initialized cls).before args s = true) (hstr : vk_R own is text sa s) (hat : ∀ w ∈ vx_atS own ic cls names, w.before args s = true)
    (hgood : ∀ w ∈ Cond.classLink own ik cls :: Cond.initialized cls :: vx_atS own ic cls names, vx_ot w = true)
    (hU : vx_Zq Bundle.tN "UNASSIGNED_STACK" Bundle.steD A s s.heap) (hN : vx_Zq Bundle.tN "SUPPRESSED_SENTINEL" Bundle.listD A s s.heap) (hS : va_S A s.heap H locs) (hsize : ls.size = c.maxLocals)
    (d0 : decode cc pc = .ok (.new ik, 3)) (d3 : decode cc (pc + 3) = .ok (.dup, 1)) (d4 : decode cc (pc + 4) = .ok (.ldc is, 2)) (d6 : decode cc (pc + 6) = .ok (.invokespecial ic, 3)) (d9 : decode cc (pc + 9) = .ok (.athrow, 1))
    (hout : ∀ x ∈ c.exceptionTable.toList, covers x (pc + 9) = false)
    (hRframes : names.length + 3 < R.frames) (hRlocals : (rest.map fun v => v.category).sum + (13 * (names.length + 1) + 43) ≤ R.locals) (hRcells : cells + 1 ≤ R.cells) (hRslots : slots + 6 ≤ R.slots) (hlocks : meth.locks = false)
    (hx : ∀ t : State, s.vm.Alike t.vm → H.size ≤ t.heap.size → (∀ q : Nat, q < H.size → t.heap[q]? = H[q]?) → XC cls s t)
    (hf : ∀ z ∈ locs, free z.base) (hc : cells + 1 ≤ mc) (hs : slots + 6 ≤ ms) :
    W p l e R s m args below meth c H locs cells slots (vx_MQ below Qc XC args s mc ms free) (F0 m pc ls rest) := by
  intro T hT X
  have htr : e.platform.stackTraces = false := (show e.platform.stackTraces = l.stackTraces by rw [X.admits.platform]).trans hl
  have Y := vx_rebase X (R' := { frames := R.frames, locals := R.locals, cells := 1, slots := 6 }) (Nat.le_refl _) (Nat.le_refl _) hRcells hRslots
  obtain ⟨s', hA⟩ : ∃ z, z = (T.setVm s.vm).setFrames (.invoking m args :: below) := ⟨_, rfl⟩
  rw [← hA] at Y
  have hvm : s'.vm = s.vm := by rw [hA]; rfl
  have hhp : s'.heap = H := by rw [hA]; exact hT
  have hW0 : s.WarmedH s'.vm := by rw [hvm]; exact State.WarmedH.refl s
  have hat' : ∀ w ∈ vx_atS own ic cls names, w.before args s' = true := fun w hw => vx_ot_at hW0 hvm.symm (hgood w (List.mem_cons_of_mem _ (List.mem_cons_of_mem _ hw))) (hat w hw)
  have hk' : (Cond.classLink own ik cls).before args s' = true := vx_ot_at hW0 hvm.symm (hgood _ List.mem_cons_self) hk
  have hini' : (Cond.initialized cls).before args s' = true := vx_ot_at hW0 hvm.symm (hgood _ (List.mem_cons_of_mem _ List.mem_cons_self)) hini
  have hU' : vx_Zq Bundle.tN "UNASSIGNED_STACK" Bundle.steD A s' s'.heap := by rw [hhp]; exact vx_Zq.moved hW0.alike (hU.kept hS.2.1)
  have hN' : vx_Zq Bundle.tN "SUPPRESSED_SENTINEL" Bundle.listD A s' s'.heap := by rw [hhp]; exact vx_Zq.moved hW0.alike (hN.kept hS.2.1)
  have h : ∀ w ∈ Bundle.ownAtoms own ic cls names, w.before args s' = true := vx_own hat' (vx_isRefq hU'.1) (vx_isRefq hN'.1) hU'.2.word hN'.2.word
  have hown' : s'.vm.findClass own = some m.cls := by rw [hvm]; exact hown
  have hins : (Cond.instantiable cls 6).before args s' = true := h _ (by simp [Bundle.ownAtoms])
  obtain ⟨vm₁, cX, kX, hfX, hkX, -, -, X₁, st1⟩ := Y.newCold hexec (own := own) (C := cls) (index := ik) (n := 6) hown' hk' hins hini'
    (g := F0 m pc ls rest) rfl (by rw [hb]; exact d0) (Nat.le_refl _) (Nat.le_refl _)
  generalize hT1 : (T.setVm vm₁).pushCell { cls := cX, slots := kX.instanceTypes.map defaultValue, vm := .none } = T1 at X₁ st1
  have hcat : (Value.ref T.heap.size).category = 1 := rfl
  have hcellA : T1.heap[T.heap.size]? = some (freshCell cX kX) := by rw [← hT1]; exact State.heap_pushCell_size _ _
  have d3' : decode c.code (pc + 3) = .ok (.dup, 1) := by rw [hb]; exact d3
  have d4' : decode c.code (pc + 4) = .ok (.ldc is, 2) := by rw [hb]; exact d4
  have hstr' : vk_R own is text sa s' := vk_R.warm hW0 hstr
  obtain ⟨U, hsteps, hrun, hend, hW, hsame, ce, hce, hO⟩ := X₁.ctorThrowS hexec htr (own := own) (cls := cls) (names := names) (ic := ic) hown' hcls hnames h (fun x hx => nomatch hx) hfX hkX hcellA (by rw [hhp, hT]; exact Nat.le_refl _) (msg := .ref sa) rfl
    (g := { method := m, pc := pc + 6, locals := ls, stack := .ref sa :: .ref T.heap.size :: .ref T.heap.size :: rest, locked := none }) rfl hsize rfl rfl (rest := rest) rfl
    (by rw [hb]; exact d6) (by rw [hb]; exact d9) hout hRframes (by simp only [List.map_cons, List.sum_cons, hcat]; omega) hlocks
  obtain ⟨f1, f2⟩ := vx_frame hsame
  rw [hhp] at f1 f2
  have hWs : s.WarmedH U.vm := State.WarmedH.trans hW0 hW
  have hcl : s.vm.findClass cls = some ce.cls := by
    have h9 := hO.cls
    rw [hvm] at h9
    exact h9
  have hall : s.sameButNew ({ U with vm := s.vm } : State) locs mc ms := by
    subst hA
    obtain ⟨e1, e2⟩ := hsame
    rw [State.setFrames_setFrames] at e1
    have h2 : (T.setVm s.vm).sameButNew ({ U with vm := s.vm } : State) [] (0 + 1) (0 + 6) := ⟨e1, e2⟩
    have h3 := X.same.trans h2
    rw [List.append_nil] at h3
    exact h3.mono hc hs
  refine ⟨U, ?_, .threw T.heap.size, hrun, hend, Or.inr ⟨T.heap.size, rfl, cls, ce, locs, hx U hWs.alike f1 (fun q hq => f2 q hq (fun z hz => nomatch hz)), hce, hO.vm, hcl, hWs, hall, hf⟩⟩
  refine st1 _ ?_
  show Steps p.tables e below (T1.setTop { method := m, pc := pc + 3, locals := ls, stack := .ref T.heap.size :: rest, locked := none }) _
  jvm_step X₁.here [X₁.here.top, hexec, d3', Value.category]
  exact X₁.ldcString hexec (own := own) (text := text) (index := is) (a := sa) hown' hstr'.1 hstr'.2
    (g := { method := m, pc := pc + 4, locals := ls, stack := .ref T.heap.size :: .ref T.heap.size :: rest, locked := none }) rfl d4' _ hsteps
/-- 'throw new E("text")', the text by a wide index -/
theorem vx_throwSW {cc : ByteArray} {pc : Nat} (hexec : p.tables.exec = Jvm.exec) (hb : c.code = cc) (hl : l.stackTraces = false) {own cls text : String} {names : List String} {ik is ic mc ms sa : Nat} {A : Nat → Prop}
    (hown : s.vm.findClass own = some m.cls) (hcls : Bundle.fit cls = true) (hnames : ∀ n ∈ names, Bundle.fit n = true)
    (hk : (Cond.classLink own ik cls).before args s = true) (hini : (Cond.initialized cls).before args s = true) (hstr : vk_R own is text sa s) (hat : ∀ w ∈ vx_atS own ic cls names, w.before args s = true)
    (hgood : ∀ w ∈ Cond.classLink own ik cls :: Cond.initialized cls :: vx_atS own ic cls names, vx_ot w = true)
    (hU : vx_Zq Bundle.tN "UNASSIGNED_STACK" Bundle.steD A s s.heap) (hN : vx_Zq Bundle.tN "SUPPRESSED_SENTINEL" Bundle.listD A s s.heap) (hS : va_S A s.heap H locs) (hsize : ls.size = c.maxLocals)
    (d0 : decode cc pc = .ok (.new ik, 3)) (d3 : decode cc (pc + 3) = .ok (.dup, 1)) (d4 : decode cc (pc + 4) = .ok (.ldc_w is, 3)) (d7 : decode cc (pc + 7) = .ok (.invokespecial ic, 3)) (d10 : decode cc (pc + 10) = .ok (.athrow, 1))
    (hout : ∀ x ∈ c.exceptionTable.toList, covers x (pc + 10) = false)
    (hRframes : names.length + 3 < R.frames) (hRlocals : (rest.map fun v => v.category).sum + (13 * (names.length + 1) + 43) ≤ R.locals) (hRcells : cells + 1 ≤ R.cells) (hRslots : slots + 6 ≤ R.slots) (hlocks : meth.locks = false)
    (hx : ∀ t : State, s.vm.Alike t.vm → H.size ≤ t.heap.size → (∀ q : Nat, q < H.size → t.heap[q]? = H[q]?) → XC cls s t)
    (hf : ∀ z ∈ locs, free z.base) (hc : cells + 1 ≤ mc) (hs : slots + 6 ≤ ms) :
    W p l e R s m args below meth c H locs cells slots (vx_MQ below Qc XC args s mc ms free) (F0 m pc ls rest) := by
  intro T hT X
  have htr : e.platform.stackTraces = false := (show e.platform.stackTraces = l.stackTraces by rw [X.admits.platform]).trans hl
  have Y := vx_rebase X (R' := { frames := R.frames, locals := R.locals, cells := 1, slots := 6 }) (Nat.le_refl _) (Nat.le_refl _) hRcells hRslots
  obtain ⟨s', hA⟩ : ∃ z, z = (T.setVm s.vm).setFrames (.invoking m args :: below) := ⟨_, rfl⟩
  rw [← hA] at Y
  have hvm : s'.vm = s.vm := by rw [hA]; rfl
  have hhp : s'.heap = H := by rw [hA]; exact hT
  have hW0 : s.WarmedH s'.vm := by rw [hvm]; exact State.WarmedH.refl s
  have hat' : ∀ w ∈ vx_atS own ic cls names, w.before args s' = true := fun w hw => vx_ot_at hW0 hvm.symm (hgood w (List.mem_cons_of_mem _ (List.mem_cons_of_mem _ hw))) (hat w hw)
  have hk' : (Cond.classLink own ik cls).before args s' = true := vx_ot_at hW0 hvm.symm (hgood _ List.mem_cons_self) hk
  have hini' : (Cond.initialized cls).before args s' = true := vx_ot_at hW0 hvm.symm (hgood _ (List.mem_cons_of_mem _ List.mem_cons_self)) hini
  have hU' : vx_Zq Bundle.tN "UNASSIGNED_STACK" Bundle.steD A s' s'.heap := by rw [hhp]; exact vx_Zq.moved hW0.alike (hU.kept hS.2.1)
  have hN' : vx_Zq Bundle.tN "SUPPRESSED_SENTINEL" Bundle.listD A s' s'.heap := by rw [hhp]; exact vx_Zq.moved hW0.alike (hN.kept hS.2.1)
  have h : ∀ w ∈ Bundle.ownAtoms own ic cls names, w.before args s' = true := vx_own hat' (vx_isRefq hU'.1) (vx_isRefq hN'.1) hU'.2.word hN'.2.word
  have hown' : s'.vm.findClass own = some m.cls := by rw [hvm]; exact hown
  have hins : (Cond.instantiable cls 6).before args s' = true := h _ (by simp [Bundle.ownAtoms])
  obtain ⟨vm₁, cX, kX, hfX, hkX, -, -, X₁, st1⟩ := Y.newCold hexec (own := own) (C := cls) (index := ik) (n := 6) hown' hk' hins hini'
    (g := F0 m pc ls rest) rfl (by rw [hb]; exact d0) (Nat.le_refl _) (Nat.le_refl _)
  generalize hT1 : (T.setVm vm₁).pushCell { cls := cX, slots := kX.instanceTypes.map defaultValue, vm := .none } = T1 at X₁ st1
  have hcat : (Value.ref T.heap.size).category = 1 := rfl
  have hcellA : T1.heap[T.heap.size]? = some (freshCell cX kX) := by rw [← hT1]; exact State.heap_pushCell_size _ _
  have d3' : decode c.code (pc + 3) = .ok (.dup, 1) := by rw [hb]; exact d3
  have d4' : decode c.code (pc + 4) = .ok (.ldc_w is, 3) := by rw [hb]; exact d4
  have hstr' : vk_R own is text sa s' := vk_R.warm hW0 hstr
  obtain ⟨U, hsteps, hrun, hend, hW, hsame, ce, hce, hO⟩ := X₁.ctorThrowS hexec htr (own := own) (cls := cls) (names := names) (ic := ic) hown' hcls hnames h (fun x hx => nomatch hx) hfX hkX hcellA (by rw [hhp, hT]; exact Nat.le_refl _) (msg := .ref sa) rfl
    (g := { method := m, pc := pc + 7, locals := ls, stack := .ref sa :: .ref T.heap.size :: .ref T.heap.size :: rest, locked := none }) rfl hsize rfl rfl (rest := rest) rfl
    (by rw [hb]; exact d7) (by rw [hb]; exact d10) hout hRframes (by simp only [List.map_cons, List.sum_cons, hcat]; omega) hlocks
  obtain ⟨f1, f2⟩ := vx_frame hsame
  rw [hhp] at f1 f2
  have hWs : s.WarmedH U.vm := State.WarmedH.trans hW0 hW
  have hcl : s.vm.findClass cls = some ce.cls := by
    have h9 := hO.cls
    rw [hvm] at h9
    exact h9
  have hall : s.sameButNew ({ U with vm := s.vm } : State) locs mc ms := by
    subst hA
    obtain ⟨e1, e2⟩ := hsame
    rw [State.setFrames_setFrames] at e1
    have h2 : (T.setVm s.vm).sameButNew ({ U with vm := s.vm } : State) [] (0 + 1) (0 + 6) := ⟨e1, e2⟩
    have h3 := X.same.trans h2
    rw [List.append_nil] at h3
    exact h3.mono hc hs
  refine ⟨U, ?_, .threw T.heap.size, hrun, hend, Or.inr ⟨T.heap.size, rfl, cls, ce, locs, hx U hWs.alike f1 (fun q hq => f2 q hq (fun z hz => nomatch hz)), hce, hO.vm, hcl, hWs, hall, hf⟩⟩
  refine st1 _ ?_
  show Steps p.tables e below (T1.setTop { method := m, pc := pc + 3, locals := ls, stack := .ref T.heap.size :: rest, locked := none }) _
  jvm_step X₁.here [X₁.here.top, hexec, d3', Value.category]
  exact X₁.ldcStringW hexec (own := own) (text := text) (index := is) (a := sa) hown' hstr'.1 hstr'.2
    (g := { method := m, pc := pc + 4, locals := ls, stack := .ref T.heap.size :: .ref T.heap.size :: rest, locked := none }) rfl d4' _ hsteps
end Ends
section Bodies
variable {l : Launch}
theorem vx_ofW {y : MethodName} {ws ws' : List Cond} {rm : Room} {Pc : Array Value → State → Prop} {Qc : Array Value → State → Outcome → State → Prop} {XC : String → State → State → Prop} {mc ms : Nat} {free : Addr → Prop} {cc : ByteArray} {maxL : Nat} {ret : Option FieldType}
    (hy : plainName y.cls = true) (hw : ws = Cond.code y cc maxL ret :: ws')
    (body : ∀ p e s m args below meth c s₁, BodyLoose p l y (headSpec ws rm) cc maxL ret e s m args below meth c s₁ → c.maxLocals = maxL → (∀ x ∈ c.exceptionTable.toList, False) → Pc args s →
      W p l e (headSpec ws rm).room s m args below meth c s.heap [] 0 0 (vx_MQ below Qc XC args s mc ms free) (entryFrame m args maxL)) : vx_Met l y ws rm Pc Qc XC mc ms free := by
  refine MetFree.of_bodyS (code := cc) (maxLocals := maxL) (ret := ret) hy ?_ ?_
  · intro args s m h hn
    obtain ⟨meth, c, h1, h2, h3, h4, h5, h6, -, -⟩ := Cond.code_spec hn (atoms_spec (ws := ws) h _ (by rw [hw]; exact List.mem_cons_self))
    exact ⟨meth, c, h1, h2, h3, h4, h5, h6⟩
  · intro p e s m args below meth c s₁ B hml hP _
    have hh0 : s₁.heap = s.heap := by rw [B.state]; rfl
    have ht : ∀ x ∈ c.exceptionTable.toList, False := by
      obtain ⟨meth9, c9, h1, h2, -, -, -, -, h7, -⟩ := Cond.code_spec B.named (atoms_spec (ws := ws) B.pre _ (by rw [hw]; exact List.mem_cons_self))
      cases Option.some.inj (h1.symm.trans B.method)
      cases Option.some.inj (h2.symm.trans (Stand.of_body B).code)
      intro x hx
      rw [Array.isEmpty_iff.mp h7] at hx
      cases hx
    obtain ⟨t, a1, o, b1, b2, b3⟩ := body p e s m args below meth c s₁ B hml ht hP s₁ hh0 (Stand.of_body B)
    exact ⟨t, o, a1, b1, b2, b3⟩
/-- the table of a body with handlers -/
theorem vx_table {p : Program} {x y : MethodName} {S : Spec} {cc bytes : ByteArray} {maxL maxL' : Nat} {ret ret' : Option FieldType} {e : Env} {s s₁ : State} {m : MethodId} {args : Array Value} {below : List Frame} {meth : Method} {c : Code} {hh : List (Nat × Nat × Nat × Nat)}
    (B : BodyLoose p l y S cc maxL ret e s m args below meth c s₁) (h : (Cond.codeWith y bytes maxL' ret' hh).before args s = true) : c.exceptionTable.toList = tableOf hh := by
  obtain ⟨m9, meth9, c9, hn9, h1, h2, -, -, h6, -⟩ := Cond.codeWith_spec h
  cases Option.some.inj (hn9.symm.trans B.named)
  cases Option.some.inj (h1.symm.trans B.method)
  cases Option.some.inj (h2.symm.trans (Stand.of_body B).code)
  rw [← h6, table_eq]
end Bodies
end VXA
/-! ===== END ===== -/
/-! ===== BEGIN a static call of a method with an exception table ===== -/
section VXS
variable {p : Program} {l : Launch} {e : Env} {R : Room} {s : State} {m : MethodId} {args : Array Value} {below : List Frame} {meth : Method} {c : Code} {T : State} {H : Heap} {locs : List Loc} {cells slots : Nat}
abbrev vx_CSW (R : Room) (s : State) (args : Array Value) (own : String) (index : Nat) (y : MethodName) (bytes : ByteArray) (maxL : Nat) (ret : Option FieldType) (hh : List (Nat × Nat × Nat × Nat)) (ws : List Cond) (rm : Room) (mc ms n : Nat) : Prop :=
  (rm.cells = mc ∧ rm.slots = ms ∧ rm.frames + 1 ≤ R.frames ∧ 8 + (maxL + 11) + rm.locals ≤ R.locals ∧ (∀ w ∈ ws, ∀ (a' : Array Value) (U : State), s.WarmedH U.vm → w.before a' U = true) ∧ Cond.codeWith y bytes maxL ret hh ∈ ws) ∧
  (Cond.codeWith y bytes maxL ret hh).before args s = true ∧ (Cond.initialized y.cls).before args s = true ∧ (y.cls ≠ "java/lang/invoke/MethodHandle" ∧ y.cls ≠ "java/lang/invoke/VarHandle") ∧
  (∀ sig, parseMethodDescriptor y.desc = some sig → n = sig.parameters.length) ∧ (Cond.methodLink own index y).before args s = true ∧ (Cond.static y).before args s = true
theorem vx_cwSW {own : String} {index maxL mc ms : Nat} {y : MethodName} {bytes : ByteArray} {ret : Option FieldType} {hh : List (Nat × Nat × Nat × Nat)} {Ts ws ws' : List Cond} {rm : Room} (n : Nat) (ht : ∀ w ∈ Ts, w.before args s = true) (hT : GoodIn Ts (va_wsS own index y ws)) (hw : ws = Cond.codeWith y bytes maxL ret hh :: ws') (hrc : rm.cells = mc) (hrs : rm.slots = ms)
    (hd : y.cls ≠ "java/lang/invoke/MethodHandle" ∧ y.cls ≠ "java/lang/invoke/VarHandle" ∧ (parseMethodDescriptor y.desc).map (fun d => d.parameters.length) = some n) (hR : rm.frames + 1 ≤ R.frames ∧ 8 + (maxL + 11) + rm.locals ≤ R.locals) :
    vx_CSW R s args own index y bytes maxL ret hh ws rm mc ms n := by
  have ok : ∀ w ∈ va_wsS own index y ws, w.before args s = true := fun w h => ht w (hT w h).1
  have hG : GoodIn Ts ws := fun w h => hT w (by unfold va_wsS; exact List.mem_append_right _ h)
  have hc : Cond.codeWith y bytes maxL ret hh ∈ ws := by rw [hw]; exact List.mem_cons_self
  refine ⟨⟨hrc, hrs, hR.1, hR.2, pay_in ht hG, hc⟩, ht _ (hG _ hc).1, ok _ (by simp [va_wsS]), ⟨hd.1, hd.2.1⟩, fun sig h => ?_, ok _ (by simp [va_wsS]), ok _ (by simp [va_wsS])⟩
  have h2 := hd.2.2
  rw [h] at h2
  exact (Option.some.inj h2).symm
theorem vx_callSW (X : Stand p l e R s m args below meth c T locs cells slots) (hexec : p.tables.exec = Jvm.exec) {own : String} {index : Nat} {y : MethodName} {bytes : ByteArray} {maxL : Nat} {ret : Option FieldType} {hh : List (Nat × Nat × Nat × Nat)}
    (hown : s.vm.findClass own = some m.cls) (hlink : (Cond.methodLink own index y).before args s = true) (hstat : (Cond.static y).before args s = true) (hinit : (Cond.initialized y.cls).before args s = true)
    (hcode : (Cond.codeWith y bytes maxL ret hh).before args s = true) (hy : y.cls ≠ "java/lang/invoke/MethodHandle" ∧ y.cls ≠ "java/lang/invoke/VarHandle")
    {W9 : Nat} {Pre : Pt → Array Value → Prop} {Post : Pt → Array Value → Option Value → Pt → Prop} (hK : Back l R p e below s args y 3 W9 Pre Post)
    {g : JFrame} (hg : g.method = m) (hsize : g.locals.size = c.maxLocals) {argsL rest : List Value} (hlen : ∀ sig, parseMethodDescriptor y.desc = some sig → argsL.length = sig.parameters.length)
    (hstack : g.stack = argsL.reverse ++ rest) (hW : 2 * g.monitorRoom + (rest.map fun v => v.category).sum ≤ W9) (hdg : decode c.code g.pc = .ok (.invokestatic index, 3))
    (hpre : ∀ vm₁, s.WarmedH vm₁ → Pre ⟨T.setVm vm₁, locs, cells, slots⟩ argsL.toArray) :
    ∃ (v : Option Value) (vm₁ : Vm) (B : Pt), s.WarmedH vm₁ ∧ Stand p l e R s m args below meth c B.U B.locs B.cells B.slots ∧ Post ⟨T.setVm vm₁, locs, cells, slots⟩ argsL.toArray v B ∧
      ∀ target, Steps p.tables e below (B.U.setTop { g with pc := g.pc + 3, stack := v.toList ++ rest }) target → Steps p.tables e below (T.setTop g) target := by
  obtain ⟨mk, methM, cM, hnamed, hmethM, -, -, -, -, -, -, hsigM⟩ := Cond.codeWith_spec hcode
  have hstatic : methM.isStatic = true := Cond.static_spec hnamed hmethM hstat
  obtain ⟨kP, hkP, -⟩ := className_of_methodNamed hnamed
  have hinitP : kP.init = .initialized := Cond.initialized_spec (findClass_of_methodNamed hnamed) hkP hinit
  obtain ⟨vm₁, X₁, hstep₁⟩ := X.invokestatic hexec hown hlink hnamed hmethM hstatic hkP hinitP hy (g := g) hg (argsL := argsL) (rest := rest) (hlen _ hsigM) hstack hdg
  obtain ⟨v, B, X', hpost, hsteps⟩ := hK m meth c ⟨T.setVm vm₁, locs, cells, slots⟩ { g with stack := rest } (.invokestatic index) mk argsL.toArray X₁ hg hsize hdg hW (X₁.named hnamed) (hpre vm₁ X₁.warmed)
  exact ⟨v, vm₁, B, X₁.warmed, X', hpost, fun target h => hstep₁ _ fun acts => by rw [doInvoke_state]; exact hsteps.trans h⟩
theorem vx_runSW {y : MethodName} {bytes cc : ByteArray} {maxL nL mc ms n index : Nat} {ret : Option FieldType} {hh : List (Nat × Nat × Nat × Nat)} {ws : List Cond} {rm : Room} {Pc : Array Value → State → Prop} {Qc : Array Value → State → Outcome → State → Prop} {free : Addr → Prop} {Ts : List Cond} {own : String} {As rest : List Value} {g : JFrame}
    (S : CallFix p m c cc nL s args Ts own) (hM : Met l y ws rm Pc Qc mc ms free) (cw : vx_CSW R s args own index y bytes maxL ret hh ws rm mc ms n) (hp : PreS s H Pc As)
    (hg : g.method = m) (hn : As.length = n) (hsize : g.locals.size = nL) (hstack : g.stack = As.reverse ++ rest) (hW : 2 * g.monitorRoom + (rest.map fun v => v.category).sum ≤ 8) (hdg : decode cc g.pc = .ok (.invokestatic index, 3)) (hf : cells + mc ≤ R.cells ∧ slots + ms ≤ R.slots) :
    va_Run p l e R s m args below meth c H locs cells slots mc ms g rest (Qc As.toArray) (free) := by
  obtain ⟨⟨hrc, hrs, hfr, hlo, hws, hcw⟩, hcode, hini, hy, hlen, hl, hstt⟩ := cw
  have hK : Back l R p e below s args y 3 8 (PreOf R mc ms Pc) (PostOf Qc mc ms free) := va_backW (hh := hh) (bytes := bytes) (maxL := maxL) (ret := ret) hM hp.1 hrc hrs hfr hlo hws hcw (fun a' U hW => word_at hW (Or.inl (by first | rfl | simp [Cond.onTables, Cond.keeps, Cond.steady])) hini)
  obtain ⟨hx, hb, hml, ho, -⟩ := S
  intro T hT X
  obtain ⟨v, vm₁, ⟨U', l2, c2, s2⟩, hW₁, X', ⟨g', mk, t, L, e1, e2, hq, h1, hL, h2, h3⟩, st⟩ := vx_callSW X hx (hh := hh) (bytes := bytes) (maxL := maxL) (ret := ret) ho hl hstt hini hcode hy hK hg (hsize.trans hml.symm) (argsL := As) (rest := rest) (fun sig h => hn.trans (hlen sig h)) hstack hW (by rw [hb]; exact hdg)
    (fun vm₁ hW₁ => ⟨hf.1, hf.2, hp.2 (T.setVm vm₁) hT hW₁⟩)
  dsimp only [Pt.U, Pt.locs, Pt.cells, Pt.slots] at X' e1 e2 h1 h2 h3 st
  subst h1; subst h2; subst h3
  exact ⟨v, (T.setVm vm₁).calling g' mk As.toArray, t, U', L, hT, X', hL, e1, e2, hq, st⟩
/-- not caught here, past rows that name other classes: it goes on to the caller -/
theorem vx_outP {p : Program} {l : Launch} {e : Env} {R : Room} {s : State} {m : MethodId} {args : Array Value} {below : List Frame} {meth : Method} {c : Code} {H : Heap} {locs : List Loc} {cells slots : Nat} {free : Addr → Prop} {ls : Array Slot} {rest : List Value} {Qc : Array Value → State → Outcome → State → Prop} {XC : String → State → State → Prop}
    {pc : Nat} {own E : String} {ce : Cell} {q : Addr} {mc ms : Nat} (hown : s.vm.findClass own = some m.cls) (hlocks : meth.locks = false)
    (hpass : ∀ z ∈ c.exceptionTable.toList, covers z pc = false ∨ (z.catchType ≠ 0 ∧ ∃ nm : String, (Cond.classLink own z.catchType nm).before args s = true ∧ va_Nc E nm s)) (hcell : H[q]? = some ce) (hv : ce.vm = .none) (hcl : s.vm.findClass E = some ce.cls)
    (hx : ∀ t : State, t.heap = H → s.vm.Alike t.vm → XC E s t) (hf : ∀ z ∈ locs, free z.base) (hc : cells ≤ mc) (hs : slots ≤ ms) :
    vx_W p l e R s m args below meth c H locs cells slots (vx_MQ below Qc XC args s mc ms free) (F0 m pc ls rest) q := by
  intro T hT X
  have hpl : e.platform.magicAccessors = ({} : Platform).magicAccessors := by rw [X.admits.platform]
  obtain ⟨vm', hW', X', st⟩ := X.outThrough hlocks q (g := F0 m pc ls rest) rfl rfl rfl (cell := ce) (by rw [hT]; exact hcell) (by rw [hv]; rfl)
    (by obtain ⟨k9, h9, -⟩ := Vm.findClass_spec hcl; exact ⟨k9, h9⟩) (fun z hz => by
      rcases hpass z hz with h | ⟨hz0, nm, hl1, hn1⟩
      · exact Or.inl h
      · obtain ⟨c6, hc6, hcl6⟩ := Cond.classLink_spec hown hl1 e.platform hpl
        obtain ⟨a8, b8, h1, h2, h3⟩ := hn1
        cases Option.some.inj (h1.symm.trans hcl)
        cases Option.some.inj (h2.symm.trans hc6)
        exact Or.inr ⟨hz0, _, hcl6, h3⟩)
  obtain ⟨g₀, hfr⟩ := X'.frames_eq
  have hcell9 : ((T.setVm vm').setFrames (.throwing q :: below)).heap[q]? = some ce := by
    show T.heap[q]? = some ce
    rw [hT]; exact hcell
  have hend : Ended ((T.setVm vm').setFrames (.throwing q :: below)) below (.threw q) := State.frames_setFrames _ (State.cur_lt_of_frames hfr)
  refine ⟨(T.setVm vm').setFrames (.throwing q :: below), ?_, .threw q, X'.here.running, hend, Or.inr ⟨q, rfl, E, ce, locs, hx _ hT (X'.ends _).1.alike, hcell9, hv, hcl, (X'.ends _).1, (X'.ends _).2.mono hc hs, hf⟩⟩
  rw [X.pushThrowing_eq]
  exact st
/-- a thing of a world lies in the heap -/
theorem vx_lt {D : va_G} {cl : List vw_C} {ws : va_W} {H1 : Heap} (h : va_P D cl ws H1) {k : Nat} {q : Nat × va_E} (hk : ws[k]? = some q) : q.1 < H1.size := (h k q hk).lt
end VXS
/-! ===== END ===== -/
/-! ===== BEGIN methods with a table of their own: called by a name, returning or throwing ===== -/
section VXH
/-! vx_backW, vx_callVX, vx_callSX, vx_callVW, vx_runVW, vx_runVX, vx_runSX, vx_ofWH follow the same proofs as their sisters above (Free/Laws.lean, Shelf42/LK1.lean); vx_outP calls Shelf42/NT130.lean (outThrough). -/
section
variable {l : Launch} {R : Room} {p : Program} {e : Env} {below : List Frame} {s : State} {sargs : Array Value} {y : MethodName} {len W9 : Nat}
theorem vx_backW {ws : List Cond} {rm : Room} {Pc : Array Value → State → Prop} {Qc : Array Value → State → Outcome → State → Prop} {XC : String → State → State → Prop} {mc ms : Nat} {free : Addr → Prop} {bytes : ByteArray} {maxL : Nat} {ret : Option FieldType} {hh : List (Nat × Nat × Nat × Nat)}
    (hM : vx_Met l y ws rm Pc Qc XC mc ms free) (hblind : FrameBlind Pc) (hrc : rm.cells = mc) (hrs : rm.slots = ms)
    (hframes : rm.frames + 1 ≤ R.frames) (hlocals : W9 + (maxL + 11) + rm.locals ≤ R.locals)
    (hws : ∀ w ∈ ws, ∀ a' U, s.WarmedH U.vm → w.before a' U = true) (hcode : Cond.codeWith y bytes maxL ret hh ∈ ws) (hinit : ∀ a' U, s.WarmedH U.vm → (Cond.initialized y.cls).before a' U = true) :
    vx_Back l R p e below s sargs y len W9 (PreOf R mc ms Pc) (PostOf Qc mc ms free) (vx_Post XC mc ms free) := by
  intro m meth c A g ig mk a X hg hsize hdg hW hn hp
  have h1 : (headSpec ws rm).pre.before a A.U = true := atoms_intro fun w hw => hws w hw _ _ X.warmed
  have h2 : (Cond.codeWith y bytes maxL ret hh).before a A.U = true := hws _ hcode _ _ X.warmed
  have h3 : (Cond.initialized y.cls).before a A.U = true := hinit _ _ X.warmed
  have h4 : A.cells + (headSpec ws rm).room.cells ≤ R.cells := by rw [show (headSpec ws rm).room.cells = mc from hrc]; exact hp.1
  have h5 : A.slots + (headSpec ws rm).room.slots ≤ R.slots := by rw [show (headSpec ws rm).room.slots = ms from hrs]; exact hp.2.1
  have hPc : Pc a (A.U.calling g mk a) := hblind _ _ _ _ hp.2.2
  obtain ⟨U, Ls, c0, s0⟩ := A
  dsimp only [Pt.U, Pt.locs, Pt.cells, Pt.slots] at h1 h2 h3 h4 h5 X hn hPc ⊢
  obtain ⟨m9, methY, cY, hn9, hmY, hcY, -, hlY, -⟩ := Cond.codeWith_spec h2
  cases Option.some.inj (hn9.symm.trans hn)
  obtain ⟨kY, hkY, -⟩ := className_of_methodNamed hn
  have hinitY : kY.init = .initialized := Cond.initialized_spec (findClass_of_methodNamed hn) hkY h3
  have h : At U g.method c below := by rw [hg]; exact X.here
  have hlocals9 : W9 + (maxL + 11) + (headSpec ws rm).room.locals ≤ R.locals := hlocals
  have happ : (headSpec ws rm).appliesLoose y e.platform (U.calling g mk a) = true :=
    Spec.appliesLoose_calling (g := g) h hdg hn hkY hinitY
      (X.room_calling (g := g) (R' := (headSpec ws rm).room) hsize hmY hcY hframes (by rw [hlY]; omega) h4 h5) h1
  obtain ⟨mid, hmid⟩ := h.above
  have hfr : (U.setTop g).frames = (.java g :: mid) ++ below := by rw [State.frames_setTop' g h.top, hmid]; rfl
  obtain ⟨o, s₂, hsteps, -, hend, hq⟩ := Steps.callFree hM p X.admits X.cas X.clock (acts := []) hfr happ hPc trivial
  have hq' : vx_Q Qc XC mc ms free a (U.calling g mk a) o s₂ := hq
  rw [State.frames_setTop' g h.top] at hend
  obtain ⟨g₀, hg0⟩ := Option.isSome_iff_exists.mp h.top
  obtain ⟨r, hr⟩ := State.topJava?_eq_some.mp hg0
  have hr' : (({ U with heap := s₂.heap, slotsUsed := s₂.slotsUsed } : State).setVm s₂.vm).frames = .java g₀ :: r := hr
  rcases hq' with ⟨hqc, L, hfe, hL⟩ | ⟨q, rfl, E, ce, L, hx, hce, hcv, hcl, hW₂, hsm, hL⟩
  · obtain ⟨⟨v, rfl⟩, hW₂, e2, q2, q3, q4, q5, q6⟩ := id hfe
    have e3 : s₂ = ({ (U.calling g mk a).setFrames s₂.frames with heap := s₂.heap, slotsUsed := s₂.slotsUsed } : State).setVm s₂.vm := by
      have : s₂ = ({ s₂ with vm := (U.calling g mk a).vm } : State).setVm s₂.vm := rfl
      rw [e2] at this
      exact this
    obtain ⟨c₂, i₂, len₂, hc₂, hd₂, hf₂⟩ := hend
    have hW' : U.WarmedH s₂.vm := hW₂
    have hcc : c₂ = c := by
      have h1 : s₂.code? g.method = U.code? g.method := by
        rw [State.code?_eq, State.code?_eq, hW'.alike.method?]
      exact Option.some.inj (hc₂.symm.trans (h1.trans h.code))
    subst hcc
    have hlen : len₂ = len := by rw [hdg] at hd₂; cases hd₂; rfl
    subst hlen
    have hs₂ : s₂ = (({ U with heap := s₂.heap, slotsUsed := s₂.slotsUsed } : State).setVm s₂.vm).setTop { g with pc := g.pc + len₂, stack := v.toList ++ g.stack } := by
      refine e3.trans ?_
      rw [hf₂, State.calling_eq h.top, State.setFrames_setFrames, State.setTop_of_frames _ hr', hr]
      rfl
    have hsame : U.sameButNew ({ U with heap := s₂.heap, slotsUsed := s₂.slotsUsed } : State) L mc ms := by
      refine ⟨?_, q2, q3, q4, q5, q6⟩
      obtain ⟨t, ht, -⟩ := State.frames_cons hr
      show ({ U with heap := s₂.heap, slotsUsed := s₂.slotsUsed } : State) = { U.setFrames U.frames with heap := s₂.heap, slotsUsed := s₂.slotsUsed }
      rw [State.setFrames_self ht]
    subst hg
    refine Or.inl ⟨v, ⟨(({ U with heap := s₂.heap, slotsUsed := s₂.slotsUsed } : State).setVm s₂.vm), Ls ++ L, c0 + mc, s0 + ms⟩,
      ⟨X.admits, X.cas, X.clock, X.frames, X.room, X.hears, X.method, X.code, (X.here.setHeapUsed s₂.heap s₂.slotsUsed).setVm hW'.alike, X.tail, State.WarmedH.trans X.warmed hW', X.limits, X.bytes, X.same.trans (hsame.setVm s.vm)⟩,
      ⟨g, mk, s₂, L, rfl, rfl, hqc, rfl, hL, rfl, rfl⟩, ?_⟩
    show Steps p.tables e below _ ((({ U with heap := s₂.heap, slotsUsed := s₂.slotsUsed } : State).setVm s₂.vm).setTop { g with pc := g.pc + len₂, stack := v.toList ++ g.stack })
    rw [← hs₂]
    exact hsteps
  · obtain ⟨e2, q2, q3, q4, q5, q6⟩ := id hsm
    have e3 : s₂ = ({ (U.calling g mk a).setFrames s₂.frames with heap := s₂.heap, slotsUsed := s₂.slotsUsed } : State).setVm s₂.vm := by
      have : s₂ = ({ s₂ with vm := (U.calling g mk a).vm } : State).setVm s₂.vm := rfl
      rw [e2] at this
      exact this
    have hf₂ : s₂.frames = .throwing q :: .java g :: U.frames.tail := hend
    have hW' : U.WarmedH s₂.vm := hW₂
    have hs₂ : s₂ = ((({ U with heap := s₂.heap, slotsUsed := s₂.slotsUsed } : State).setVm s₂.vm).setTop g).pushFrame (.throwing q) := by
      refine e3.trans ?_
      rw [hf₂, State.calling_eq h.top, State.setFrames_setFrames, State.pushFrame, State.frames_setTop _ hr', State.setTop_of_frames _ hr', State.setFrames_setFrames, hr]
      rfl
    have hsame : U.sameButNew ({ U with heap := s₂.heap, slotsUsed := s₂.slotsUsed } : State) L mc ms := by
      refine ⟨?_, q2, q3, q4, q5, q6⟩
      obtain ⟨t, ht, -⟩ := State.frames_cons hr
      show ({ U with heap := s₂.heap, slotsUsed := s₂.slotsUsed } : State) = { U.setFrames U.frames with heap := s₂.heap, slotsUsed := s₂.slotsUsed }
      rw [State.setFrames_self ht]
    subst hg
    refine Or.inr ⟨q, ⟨(({ U with heap := s₂.heap, slotsUsed := s₂.slotsUsed } : State).setVm s₂.vm), Ls ++ L, c0 + mc, s0 + ms⟩,
      ⟨X.admits, X.cas, X.clock, X.frames, X.room, X.hears, X.method, X.code, (X.here.setHeapUsed s₂.heap s₂.slotsUsed).setVm hW'.alike, X.tail, State.WarmedH.trans X.warmed hW', X.limits, X.bytes, X.same.trans (hsame.setVm s.vm)⟩,
      ⟨g, mk, s₂, L, E, ce, rfl, rfl, hx, hce, hcv, hcl, rfl, hL, rfl, rfl⟩, ?_⟩
    show Steps p.tables e below _ (((({ U with heap := s₂.heap, slotsUsed := s₂.slotsUsed } : State).setVm s₂.vm).setTop g).pushFrame (.throwing q))
    rw [← hs₂]
    exact hsteps
end
variable {p : Program} {l : Launch} {e : Env} {R : Room} {s : State} {m : MethodId} {args : Array Value} {below : List Frame} {meth : Method} {c : Code} {T : State} {H : Heap} {locs : List Loc} {cells slots : Nat}
theorem vx_callVX (X : Stand p l e R s m args below meth c T locs cells slots) (hexec : p.tables.exec = Jvm.exec) {own C : String} {index : Nat} {y : MethodName} {bytes : ByteArray} {maxL : Nat} {ret : Option FieldType} {hh : List (Nat × Nat × Nat × Nat)}
    (hown : s.vm.findClass own = some m.cls) (hlink : (Cond.methodLink own index y).before args s = true) (hinst : (Cond.instanceMethod y).before args s = true) (hsel : (Cond.selects C y y).before args s = true)
    (hcode : (Cond.codeWith y bytes maxL ret hh).before args s = true) (hy : y.cls ≠ "java/lang/invoke/MethodHandle" ∧ y.cls ≠ "java/lang/invoke/VarHandle")
    {W9 : Nat} {Pre : Pt → Array Value → Prop} {Post : Pt → Array Value → Option Value → Pt → Prop} {PostX : Pt → Array Value → Addr → Pt → Prop} (hK : vx_Back l R p e below s args y 3 W9 Pre Post PostX)
    {b : Addr} {cellB : Cell} (hcell : T.heap[b]? = some cellB) (hobj : cellB.vm.isStatics = false) (hcls : s.vm.findClass C = some cellB.cls)
    {g : JFrame} (hg : g.method = m) (hsize : g.locals.size = c.maxLocals) {argsL rest : List Value} (hlen : ∀ sig, parseMethodDescriptor y.desc = some sig → argsL.length = sig.parameters.length)
    (hstack : g.stack = argsL.reverse ++ .ref b :: rest) (hW : 2 * g.monitorRoom + (rest.map fun v => v.category).sum ≤ W9) (hdg : decode c.code g.pc = .ok (.invokevirtual index, 3))
    (hpre : ∀ vm₁, s.WarmedH vm₁ → Pre ⟨T.setVm vm₁, locs, cells, slots⟩ (Value.ref b :: argsL).toArray) :
    (∃ (v : Option Value) (vm₁ : Vm) (B : Pt), s.WarmedH vm₁ ∧ Stand p l e R s m args below meth c B.U B.locs B.cells B.slots ∧ Post ⟨T.setVm vm₁, locs, cells, slots⟩ (Value.ref b :: argsL).toArray v B ∧
      ∀ target, Steps p.tables e below (B.U.setTop { g with pc := g.pc + 3, stack := v.toList ++ rest }) target → Steps p.tables e below (T.setTop g) target) ∨
    (∃ (q : Addr) (vm₁ : Vm) (B : Pt), s.WarmedH vm₁ ∧ Stand p l e R s m args below meth c B.U B.locs B.cells B.slots ∧ PostX ⟨T.setVm vm₁, locs, cells, slots⟩ (Value.ref b :: argsL).toArray q B ∧
      Steps p.tables e below (T.setTop g) ((B.U.setTop { g with stack := rest }).pushFrame (.throwing q))) := by
  obtain ⟨mk, methM, hnamed, hmethM, hstM, habM⟩ := Cond.instanceMethod_spec hinst
  obtain ⟨m8, methM', cM, hn8, hmethM', -, -, -, -, -, -, hsigM⟩ := Cond.codeWith_spec hcode
  cases Option.some.inj (hn8.symm.trans hnamed)
  cases hmethM.symm.trans hmethM'
  obtain ⟨c2, r2, m2, q1, q2, q3, q4, kP, hkP, hkPi⟩ := Cond.selects_spec hsel
  cases hcls.symm.trans q1
  cases (State.methodFound?_of_named hnamed hy).symm.trans q2
  cases hnamed.symm.trans q3
  have hselP : selectMethod e.platform s.vm cellB.cls mk = .method mk := by rw [Launch.admits_selectMethod X.admits]; exact q4
  obtain ⟨vm₁, X₁, hstep₁⟩ := X.invokevirtual hexec hown hlink hnamed hmethM hstM hkP hkPi hy (a := b) (cell := cellB) hcell
    (fun z h => by rw [h] at hobj; cases hobj) hselP hmethM habM hkP hkPi (g := g) hg (argsL := argsL) (rest := rest) (hlen _ hsigM) hstack hdg
  rcases hK m meth c ⟨T.setVm vm₁, locs, cells, slots⟩ { g with stack := rest } (.invokevirtual index) mk (Value.ref b :: argsL).toArray X₁ hg hsize hdg hW (X₁.named hnamed) (hpre vm₁ X₁.warmed) with ⟨v, B, X', hpost, hsteps⟩ | ⟨q, B, X', hpost, hsteps⟩
  · exact Or.inl ⟨v, vm₁, B, X₁.warmed, X', hpost, fun target h => hstep₁ _ fun acts => by rw [doInvoke_state]; exact hsteps.trans h⟩
  · exact Or.inr ⟨q, vm₁, B, X₁.warmed, X', hpost, hstep₁ _ fun acts => by rw [doInvoke_state]; exact hsteps⟩
theorem vx_callSX (X : Stand p l e R s m args below meth c T locs cells slots) (hexec : p.tables.exec = Jvm.exec) {own : String} {index : Nat} {y : MethodName} {bytes : ByteArray} {maxL : Nat} {ret : Option FieldType} {hh : List (Nat × Nat × Nat × Nat)}
    (hown : s.vm.findClass own = some m.cls) (hlink : (Cond.methodLink own index y).before args s = true) (hstat : (Cond.static y).before args s = true) (hinit : (Cond.initialized y.cls).before args s = true)
    (hcode : (Cond.codeWith y bytes maxL ret hh).before args s = true) (hy : y.cls ≠ "java/lang/invoke/MethodHandle" ∧ y.cls ≠ "java/lang/invoke/VarHandle")
    {W9 : Nat} {Pre : Pt → Array Value → Prop} {Post : Pt → Array Value → Option Value → Pt → Prop} {PostX : Pt → Array Value → Addr → Pt → Prop} (hK : vx_Back l R p e below s args y 3 W9 Pre Post PostX)
    {g : JFrame} (hg : g.method = m) (hsize : g.locals.size = c.maxLocals) {argsL rest : List Value} (hlen : ∀ sig, parseMethodDescriptor y.desc = some sig → argsL.length = sig.parameters.length)
    (hstack : g.stack = argsL.reverse ++ rest) (hW : 2 * g.monitorRoom + (rest.map fun v => v.category).sum ≤ W9) (hdg : decode c.code g.pc = .ok (.invokestatic index, 3))
    (hpre : ∀ vm₁, s.WarmedH vm₁ → Pre ⟨T.setVm vm₁, locs, cells, slots⟩ argsL.toArray) :
    (∃ (v : Option Value) (vm₁ : Vm) (B : Pt), s.WarmedH vm₁ ∧ Stand p l e R s m args below meth c B.U B.locs B.cells B.slots ∧ Post ⟨T.setVm vm₁, locs, cells, slots⟩ argsL.toArray v B ∧
      ∀ target, Steps p.tables e below (B.U.setTop { g with pc := g.pc + 3, stack := v.toList ++ rest }) target → Steps p.tables e below (T.setTop g) target) ∨
    (∃ (q : Addr) (vm₁ : Vm) (B : Pt), s.WarmedH vm₁ ∧ Stand p l e R s m args below meth c B.U B.locs B.cells B.slots ∧ PostX ⟨T.setVm vm₁, locs, cells, slots⟩ argsL.toArray q B ∧
      Steps p.tables e below (T.setTop g) ((B.U.setTop { g with stack := rest }).pushFrame (.throwing q))) := by
  obtain ⟨mk, methM, cM, hnamed, hmethM, -, -, -, -, -, -, hsigM⟩ := Cond.codeWith_spec hcode
  have hstatic : methM.isStatic = true := Cond.static_spec hnamed hmethM hstat
  obtain ⟨kP, hkP, -⟩ := className_of_methodNamed hnamed
  have hinitP : kP.init = .initialized := Cond.initialized_spec (findClass_of_methodNamed hnamed) hkP hinit
  obtain ⟨vm₁, X₁, hstep₁⟩ := X.invokestatic hexec hown hlink hnamed hmethM hstatic hkP hinitP hy (g := g) hg (argsL := argsL) (rest := rest) (hlen _ hsigM) hstack hdg
  rcases hK m meth c ⟨T.setVm vm₁, locs, cells, slots⟩ { g with stack := rest } (.invokestatic index) mk argsL.toArray X₁ hg hsize hdg hW (X₁.named hnamed) (hpre vm₁ X₁.warmed) with ⟨v, B, X', hpost, hsteps⟩ | ⟨q, B, X', hpost, hsteps⟩
  · exact Or.inl ⟨v, vm₁, B, X₁.warmed, X', hpost, fun target h => hstep₁ _ fun acts => by rw [doInvoke_state]; exact hsteps.trans h⟩
  · exact Or.inr ⟨q, vm₁, B, X₁.warmed, X', hpost, hstep₁ _ fun acts => by rw [doInvoke_state]; exact hsteps⟩
theorem vx_callVW (X : Stand p l e R s m args below meth c T locs cells slots) (hexec : p.tables.exec = Jvm.exec) {own C : String} {index : Nat} {y : MethodName} {bytes : ByteArray} {maxL : Nat} {ret : Option FieldType} {hh : List (Nat × Nat × Nat × Nat)}
    (hown : s.vm.findClass own = some m.cls) (hlink : (Cond.methodLink own index y).before args s = true) (hinst : (Cond.instanceMethod y).before args s = true) (hsel : (Cond.selects C y y).before args s = true)
    (hcode : (Cond.codeWith y bytes maxL ret hh).before args s = true) (hy : y.cls ≠ "java/lang/invoke/MethodHandle" ∧ y.cls ≠ "java/lang/invoke/VarHandle")
    {W9 : Nat} {Pre : Pt → Array Value → Prop} {Post : Pt → Array Value → Option Value → Pt → Prop} (hK : Back l R p e below s args y 3 W9 Pre Post)
    {b : Addr} {cellB : Cell} (hcell : T.heap[b]? = some cellB) (hobj : cellB.vm.isStatics = false) (hcls : s.vm.findClass C = some cellB.cls)
    {g : JFrame} (hg : g.method = m) (hsize : g.locals.size = c.maxLocals) {argsL rest : List Value} (hlen : ∀ sig, parseMethodDescriptor y.desc = some sig → argsL.length = sig.parameters.length)
    (hstack : g.stack = argsL.reverse ++ .ref b :: rest) (hW : 2 * g.monitorRoom + (rest.map fun v => v.category).sum ≤ W9) (hdg : decode c.code g.pc = .ok (.invokevirtual index, 3))
    (hpre : ∀ vm₁, s.WarmedH vm₁ → Pre ⟨T.setVm vm₁, locs, cells, slots⟩ (Value.ref b :: argsL).toArray) :
    ∃ (v : Option Value) (vm₁ : Vm) (B : Pt), s.WarmedH vm₁ ∧ Stand p l e R s m args below meth c B.U B.locs B.cells B.slots ∧ Post ⟨T.setVm vm₁, locs, cells, slots⟩ (Value.ref b :: argsL).toArray v B ∧
      ∀ target, Steps p.tables e below (B.U.setTop { g with pc := g.pc + 3, stack := v.toList ++ rest }) target → Steps p.tables e below (T.setTop g) target := by
  obtain ⟨mk, methM, hnamed, hmethM, hstM, habM⟩ := Cond.instanceMethod_spec hinst
  obtain ⟨m8, methM', cM, hn8, hmethM', -, -, -, -, -, -, hsigM⟩ := Cond.codeWith_spec hcode
  cases Option.some.inj (hn8.symm.trans hnamed)
  cases hmethM.symm.trans hmethM'
  obtain ⟨c2, r2, m2, q1, q2, q3, q4, kP, hkP, hkPi⟩ := Cond.selects_spec hsel
  cases hcls.symm.trans q1
  cases (State.methodFound?_of_named hnamed hy).symm.trans q2
  cases hnamed.symm.trans q3
  have hselP : selectMethod e.platform s.vm cellB.cls mk = .method mk := by rw [Launch.admits_selectMethod X.admits]; exact q4
  obtain ⟨vm₁, X₁, hstep₁⟩ := X.invokevirtual hexec hown hlink hnamed hmethM hstM hkP hkPi hy (a := b) (cell := cellB) hcell
    (fun z h => by rw [h] at hobj; cases hobj) hselP hmethM habM hkP hkPi (g := g) hg (argsL := argsL) (rest := rest) (hlen _ hsigM) hstack hdg
  obtain ⟨v, B, X', hpost, hsteps⟩ := hK m meth c ⟨T.setVm vm₁, locs, cells, slots⟩ { g with stack := rest } (.invokevirtual index) mk (Value.ref b :: argsL).toArray X₁ hg hsize hdg hW (X₁.named hnamed) (hpre vm₁ X₁.warmed)
  exact ⟨v, vm₁, B, X₁.warmed, X', hpost, fun target h => hstep₁ _ fun acts => by rw [doInvoke_state]; exact hsteps.trans h⟩
abbrev vx_CVW (R : Room) (s : State) (args : Array Value) (own C : String) (index : Nat) (y : MethodName) (bytes : ByteArray) (maxL : Nat) (ret : Option FieldType) (hh : List (Nat × Nat × Nat × Nat)) (ws : List Cond) (rm : Room) (mc ms n : Nat) : Prop :=
  (rm.cells = mc ∧ rm.slots = ms ∧ rm.frames + 1 ≤ R.frames ∧ 8 + (maxL + 11) + rm.locals ≤ R.locals ∧ (∀ w ∈ ws, ∀ (a' : Array Value) (U : State), s.WarmedH U.vm → w.before a' U = true) ∧ Cond.codeWith y bytes maxL ret hh ∈ ws) ∧
  (Cond.codeWith y bytes maxL ret hh).before args s = true ∧ (Cond.initialized y.cls).before args s = true ∧ (y.cls ≠ "java/lang/invoke/MethodHandle" ∧ y.cls ≠ "java/lang/invoke/VarHandle") ∧
  (∀ sig, parseMethodDescriptor y.desc = some sig → n = sig.parameters.length) ∧ (Cond.methodLink own index y).before args s = true ∧ (Cond.instanceMethod y).before args s = true ∧ (Cond.selects C y y).before args s = true
theorem vx_cwVW {own C : String} {index maxL mc ms : Nat} {y : MethodName} {bytes : ByteArray} {ret : Option FieldType} {hh : List (Nat × Nat × Nat × Nat)} {Ts ws ws' : List Cond} {rm : Room} (n : Nat) (ht : ∀ w ∈ Ts, w.before args s = true) (hT : GoodIn Ts (wsV own index C y ws)) (hw : ws = Cond.codeWith y bytes maxL ret hh :: ws') (hrc : rm.cells = mc) (hrs : rm.slots = ms)
    (hd : y.cls = C ∧ y.cls ≠ "java/lang/invoke/MethodHandle" ∧ y.cls ≠ "java/lang/invoke/VarHandle" ∧ (parseMethodDescriptor y.desc).map (fun d => d.parameters.length) = some n) (hR : rm.frames + 1 ≤ R.frames ∧ 8 + (maxL + 11) + rm.locals ≤ R.locals) :
    vx_CVW R s args own C index y bytes maxL ret hh ws rm mc ms n := by
  obtain ⟨hC, hd⟩ := hd
  subst hC
  have ok : ∀ w ∈ wsV own index y.cls y ws, w.before args s = true := fun w h => ht w (hT w h).1
  have hG : GoodIn Ts ws := fun w h => hT w (by unfold wsV; exact List.mem_append_right _ h)
  have hc : Cond.codeWith y bytes maxL ret hh ∈ ws := by rw [hw]; exact List.mem_cons_self
  refine ⟨⟨hrc, hrs, hR.1, hR.2, pay_in ht hG, hc⟩, ht _ (hG _ hc).1, ok _ (by simp [wsV]), ⟨hd.1, hd.2.1⟩, fun sig h => ?_, ok _ (by simp [wsV]), ok _ (by simp [wsV]), ok _ (by simp [wsV])⟩
  have h2 := hd.2.2
  rw [h] at h2
  exact (Option.some.inj h2).symm
theorem vx_runVW {y : MethodName} {bytes cc : ByteArray} {maxL nL mc ms n index : Nat} {ret : Option FieldType} {hh : List (Nat × Nat × Nat × Nat)} {ws : List Cond} {rm : Room} {Pc : Array Value → State → Prop} {Qc : Array Value → State → Outcome → State → Prop} {free : Addr → Prop} {Ts : List Cond} {own C : String} {b : Addr} {As rest : List Value} {g : JFrame}
    (S : CallFix p m c cc nL s args Ts own) (hM : Met l y ws rm Pc Qc mc ms free) (cw : vx_CVW R s args own C index y bytes maxL ret hh ws rm mc ms n) (hp : PreV s H C b Pc As)
    (hg : g.method = m) (hn : As.length = n) (hsize : g.locals.size = nL) (hstack : g.stack = As.reverse ++ .ref b :: rest) (hW : 2 * g.monitorRoom + (rest.map fun v => v.category).sum ≤ 8) (hdg : decode cc g.pc = .ok (.invokevirtual index, 3)) (hf : cells + mc ≤ R.cells ∧ slots + ms ≤ R.slots) :
    va_Run p l e R s m args below meth c H locs cells slots mc ms g rest (Qc (Value.ref b :: As).toArray) free := by
  obtain ⟨⟨hrc, hrs, hfr, hlo, hws, hcw⟩, hcode, hini, hy, hlen, hl, hin, hse⟩ := cw
  have hK : Back l R p e below s args y 3 8 (PreOf R mc ms Pc) (PostOf Qc mc ms free) := va_backW (hh := hh) (bytes := bytes) (maxL := maxL) (ret := ret) hM hp.1 hrc hrs hfr hlo hws hcw (fun a' U hW => word_at hW (Or.inl (by first | rfl | simp [Cond.onTables, Cond.keeps, Cond.steady])) hini)
  obtain ⟨hx, hb, hml, ho, -⟩ := S
  obtain ⟨-, ⟨cellB, hcB, hoB, hclB⟩, hPc⟩ := hp
  intro T hT X
  obtain ⟨v, vm₁, ⟨U', l2, c2, s2⟩, hW₁, X', ⟨g', mk, t, L, e1, e2, hq, h1, hL, h2, h3⟩, st⟩ := vx_callVW X hx (C := C) (hh := hh) (bytes := bytes) (maxL := maxL) (ret := ret) ho hl hin hse hcode hy hK (by rw [hT]; exact hcB) hoB hclB hg (hsize.trans hml.symm) (argsL := As) (rest := rest) (fun sig h => hn.trans (hlen sig h)) hstack hW (by rw [hb]; exact hdg)
    (fun vm₁ hW₁ => ⟨hf.1, hf.2, hPc (T.setVm vm₁) hT hW₁⟩)
  dsimp only [Pt.U, Pt.locs, Pt.cells, Pt.slots] at X' e1 e2 h1 h2 h3 st
  subst h1; subst h2; subst h3
  exact ⟨v, (T.setVm vm₁).calling g' mk (Value.ref b :: As).toArray, t, U', L, hT, X', hL, e1, e2, hq, st⟩
section
variable {y : MethodName} {bytes cc : ByteArray} {maxL nL mc ms n index : Nat} {ret : Option FieldType} {ws : List Cond} {rm : Room} {Pc : Array Value → State → Prop} {Qc : Array Value → State → Outcome → State → Prop} {XC : String → State → State → Prop} {free : Addr → Prop} {Ts : List Cond} {own C : String} {b : Addr} {As rest : List Value} {g : JFrame}
theorem vx_runVX {hh : List (Nat × Nat × Nat × Nat)} (S : CallFix p m c cc nL s args Ts own) (hM : vx_Met l y ws rm Pc Qc XC mc ms free) (cw : vx_CVW R s args own C index y bytes maxL ret hh ws rm mc ms n) (hp : PreV s H C b Pc As)
    (hg : g.method = m) (hn : As.length = n) (hsize : g.locals.size = nL) (hstack : g.stack = As.reverse ++ .ref b :: rest) (hW : 2 * g.monitorRoom + (rest.map fun v => v.category).sum ≤ 8) (hdg : decode cc g.pc = .ok (.invokevirtual index, 3)) (hf : cells + mc ≤ R.cells ∧ slots + ms ≤ R.slots) :
    vx_Run p l e R s m args below meth c H locs cells slots mc ms g rest (Qc (Value.ref b :: As).toArray) XC free := by
  obtain ⟨⟨hrc, hrs, hfr, hlo, hws, hcw⟩, hcode, hini, hy, hlen, hl, hin, hse⟩ := cw
  have hK : vx_Back l R p e below s args y 3 8 (PreOf R mc ms Pc) (PostOf Qc mc ms free) (vx_Post XC mc ms free) := vx_backW (hh := hh) (bytes := bytes) (maxL := maxL) (ret := ret) hM hp.1 hrc hrs hfr hlo hws hcw (fun a' U hW => word_at hW (Or.inl (by first | rfl | simp [Cond.onTables, Cond.keeps, Cond.steady])) hini)
  obtain ⟨hx, hb, hml, ho, -⟩ := S
  obtain ⟨-, ⟨cellB, hcB, hoB, hclB⟩, hPc⟩ := hp
  intro T hT X
  rcases vx_callVX X hx (C := C) (hh := hh) (bytes := bytes) (maxL := maxL) (ret := ret) ho hl hin hse hcode hy hK (by rw [hT]; exact hcB) hoB hclB hg (hsize.trans hml.symm) (argsL := As) (rest := rest) (fun sig h => hn.trans (hlen sig h)) hstack hW (by rw [hb]; exact hdg)
    (fun vm₁ hW₁ => ⟨hf.1, hf.2, hPc (T.setVm vm₁) hT hW₁⟩) with ⟨v, vm₁, ⟨U', l2, c2, s2⟩, hW₁, X', ⟨g', mk, t, L, e1, e2, hq, h1, hL, h2, h3⟩, st⟩ | ⟨q, vm₁, ⟨U', l2, c2, s2⟩, hW₁, X', ⟨g', mk, t, L, E, ce, e1, e2, hq, hce, hcv, hcl, h1, hL, h2, h3⟩, st⟩
  · dsimp only [Pt.U, Pt.locs, Pt.cells, Pt.slots] at X' e1 e2 h1 h2 h3 st
    subst h1; subst h2; subst h3
    exact Or.inl ⟨v, (T.setVm vm₁).calling g' mk (Value.ref b :: As).toArray, t, U', L, hT, X', hL, e1, e2, hq, st⟩
  · dsimp only [Pt.U, Pt.locs, Pt.cells, Pt.slots] at X' e1 e2 h1 h2 h3 st hcl
    subst h1; subst h2; subst h3
    exact Or.inr ⟨q, (T.setVm vm₁).calling g' mk (Value.ref b :: As).toArray, t, U', L, E, ce, hT, X', hL, e1, e2, hq, hce, hcv, vx_cls hW₁ hcl, st⟩
theorem vx_runSX {hh : List (Nat × Nat × Nat × Nat)} (S : CallFix p m c cc nL s args Ts own) (hM : vx_Met l y ws rm Pc Qc XC mc ms free) (cw : vx_CSW R s args own index y bytes maxL ret hh ws rm mc ms n) (hp : PreS s H Pc As)
    (hg : g.method = m) (hn : As.length = n) (hsize : g.locals.size = nL) (hstack : g.stack = As.reverse ++ rest) (hW : 2 * g.monitorRoom + (rest.map fun v => v.category).sum ≤ 8) (hdg : decode cc g.pc = .ok (.invokestatic index, 3)) (hf : cells + mc ≤ R.cells ∧ slots + ms ≤ R.slots) :
    vx_Run p l e R s m args below meth c H locs cells slots mc ms g rest (Qc As.toArray) XC free := by
  obtain ⟨⟨hrc, hrs, hfr, hlo, hws, hcw⟩, hcode, hini, hy, hlen, hl, hstt⟩ := cw
  have hK : vx_Back l R p e below s args y 3 8 (PreOf R mc ms Pc) (PostOf Qc mc ms free) (vx_Post XC mc ms free) := vx_backW (hh := hh) (bytes := bytes) (maxL := maxL) (ret := ret) hM hp.1 hrc hrs hfr hlo hws hcw (fun a' U hW => word_at hW (Or.inl (by first | rfl | simp [Cond.onTables, Cond.keeps, Cond.steady])) hini)
  obtain ⟨hx, hb, hml, ho, -⟩ := S
  intro T hT X
  rcases vx_callSX X hx (hh := hh) (bytes := bytes) (maxL := maxL) (ret := ret) ho hl hstt hini hcode hy hK hg (hsize.trans hml.symm) (argsL := As) (rest := rest) (fun sig h => hn.trans (hlen sig h)) hstack hW (by rw [hb]; exact hdg)
    (fun vm₁ hW₁ => ⟨hf.1, hf.2, hp.2 (T.setVm vm₁) hT hW₁⟩) with ⟨v, vm₁, ⟨U', l2, c2, s2⟩, hW₁, X', ⟨g', mk, t, L, e1, e2, hq, h1, hL, h2, h3⟩, st⟩ | ⟨q, vm₁, ⟨U', l2, c2, s2⟩, hW₁, X', ⟨g', mk, t, L, E, ce, e1, e2, hq, hce, hcv, hcl, h1, hL, h2, h3⟩, st⟩
  · dsimp only [Pt.U, Pt.locs, Pt.cells, Pt.slots] at X' e1 e2 h1 h2 h3 st
    subst h1; subst h2; subst h3
    exact Or.inl ⟨v, (T.setVm vm₁).calling g' mk As.toArray, t, U', L, hT, X', hL, e1, e2, hq, st⟩
  · dsimp only [Pt.U, Pt.locs, Pt.cells, Pt.slots] at X' e1 e2 h1 h2 h3 st hcl
    subst h1; subst h2; subst h3
    exact Or.inr ⟨q, (T.setVm vm₁).calling g' mk As.toArray, t, U', L, E, ce, hT, X', hL, e1, e2, hq, hce, hcv, vx_cls hW₁ hcl, st⟩
end
end VXH
theorem vx_ofWH {l : Launch} {y : MethodName} {ws ws' : List Cond} {rm : Room} {Pc : Array Value → State → Prop} {Qc : Array Value → State → Outcome → State → Prop} {XC : String → State → State → Prop} {mc ms : Nat} {free : Addr → Prop} {cc : ByteArray} {maxL : Nat} {ret : Option FieldType} {hh : List (Nat × Nat × Nat × Nat)}
    (hy : plainName y.cls = true) (hw : ws = Cond.codeWith y cc maxL ret hh :: ws')
    (body : ∀ p e s m args below meth c s₁, BodyLoose p l y (headSpec ws rm) cc maxL ret e s m args below meth c s₁ → c.maxLocals = maxL → Pc args s →
      W p l e (headSpec ws rm).room s m args below meth c s.heap [] 0 0 (vx_MQ below Qc XC args s mc ms free) (entryFrame m args maxL)) : vx_Met l y ws rm Pc Qc XC mc ms free := by
  refine MetFree.of_bodyS (code := cc) (maxLocals := maxL) (ret := ret) hy ?_ ?_
  · intro args s m h hn
    obtain ⟨m9, meth, c, hn9, h1, h2, h3, h4, -, h5, h6, -⟩ := Cond.codeWith_spec (atoms_spec (ws := ws) h _ (by rw [hw]; exact List.mem_cons_self))
    cases hn.symm.trans hn9
    exact ⟨meth, c, h1, h2, h3, h4, h5, h6⟩
  · intro p e s m args below meth c s₁ B hml hP _
    have hh0 : s₁.heap = s.heap := by rw [B.state]; rfl
    obtain ⟨t, a1, o, b1, b2, b3⟩ := body p e s m args below meth c s₁ B hml hP s₁ hh0 (Stand.of_body B)
    exact ⟨t, o, a1, b1, b2, b3⟩
/-! ===== END ===== -/

def RX0 : String := "SpeechTiers$History"
def TX0 : u_T := fun k => match k with
  | 0 => ("SpeechTiers$History", "ring", "[LSpeechTiers$Sheet;", true)
  | 1 => ("SpeechTiers$History", "next", "I", false)
  | _ => ("SpeechTiers$History", "count", "I", false)
def tyX0 : Nat → FieldType := fun k => match k with
  | 0 => .array (.object "SpeechTiers$Sheet")
  | 1 => .int
  | _ => .int
abbrev wsX00 : List Cond := u_ws RX0 TX0 3
theorem nmX0 : ∀ a, a < 3 → ∀ b, b < 3 → a ≠ b → (TX0 a).2.1 ≠ (TX0 b).2.1 := by decide +kernel
theorem tyX0_ok : ∀ k, k < 3 → parseFieldDescriptor (TX0 k).2.2.1 = some (tyX0 k) := by decide +kernel
abbrev cX0_init : ByteArray := prog_2_method_1_code
def yX0_init : MethodName := ⟨RX0, "<init>", "()V"⟩
abbrev cX0_forget : ByteArray := prog_2_method_2_code
def yX0_forget : MethodName := ⟨RX0, "forget", "()V"⟩
abbrev cX0_remember : ByteArray := prog_2_method_3_code
def yX0_remember : MethodName := ⟨RX0, "remember", "(LSpeechTiers$Sheet;)V"⟩
abbrev cX0_recall : ByteArray := prog_2_method_4_code
def yX0_recall : MethodName := ⟨RX0, "recall", "(LSpeechTiers$Sheet;)Z"⟩
def RX1 : String := "SpeechTiers$Reader"
def TX1 : u_T := fun k => match k with
  | 0 => ("SpeechTiers$Reader", "tape", "[B", true)
  | 1 => ("SpeechTiers$Reader", "taped", "I", false)
  | 2 => ("SpeechTiers$Reader", "sheet", "LSpeechTiers$Sheet;", true)
  | 3 => ("SpeechTiers$Reader", "fault", "I", false)
  | 4 => ("SpeechTiers$Reader", "faultPlace", "I", false)
  | 5 => ("SpeechTiers$Reader", "end", "I", false)
  | 6 => ("SpeechTiers$Reader", "place", "I", false)
  | 7 => ("SpeechTiers$Reader", "token", "I", false)
  | 8 => ("SpeechTiers$Reader", "start", "I", false)
  | 9 => ("SpeechTiers$Reader", "size", "I", false)
  | 10 => ("SpeechTiers$Reader", "packed", "I", false)
  | _ => ("SpeechTiers$Reader", "number", "I", false)
def tyX1 : Nat → FieldType := fun k => match k with
  | 0 => .array .byte
  | 1 => .int
  | 2 => .object "SpeechTiers$Sheet"
  | 3 => .int
  | 4 => .int
  | 5 => .int
  | 6 => .int
  | 7 => .int
  | 8 => .int
  | 9 => .int
  | 10 => .int
  | _ => .int
abbrev wsX10 : List Cond := u_ws RX1 TX1 12
theorem nmX1 : ∀ a, a < 12 → ∀ b, b < 12 → a ≠ b → (TX1 a).2.1 ≠ (TX1 b).2.1 := by decide +kernel
theorem tyX1_ok : ∀ k, k < 12 → parseFieldDescriptor (TX1 k).2.2.1 = some (tyX1 k) := by decide +kernel
abbrev cX1_init : ByteArray := prog_3_method_1_code
def yX1_init : MethodName := ⟨RX1, "<init>", "()V"⟩
abbrev cX1_appendNumber : ByteArray := prog_3_method_2_code
def yX1_appendNumber : MethodName := ⟨RX1, "appendNumber", "(I)V"⟩
abbrev cX1_readText : ByteArray := prog_3_method_3_code
def yX1_readText : MethodName := ⟨RX1, "readText", "(I)Z"⟩
abbrev cX1_fail : ByteArray := prog_3_method_4_code
def yX1_fail : MethodName := ⟨RX1, "fail", "(II)Z"⟩
abbrev cX1_advance : ByteArray := prog_3_method_5_code
def yX1_advance : MethodName := ⟨RX1, "advance", "()V"⟩
abbrev cX1_scanWord : ByteArray := prog_3_method_6_code
def yX1_scanWord : MethodName := ⟨RX1, "scanWord", "()V"⟩
abbrev cX1_scanNumber : ByteArray := prog_3_method_7_code
def yX1_scanNumber : MethodName := ⟨RX1, "scanNumber", "()V"⟩
abbrev cX1_isLetter : ByteArray := prog_3_method_8_code
def yX1_isLetter : MethodName := ⟨RX1, "isLetter", "(I)Z"⟩
abbrev cX1_isDigit : ByteArray := prog_3_method_9_code
def yX1_isDigit : MethodName := ⟨RX1, "isDigit", "(I)Z"⟩
abbrev cX1_isSemicolon : ByteArray := prog_3_method_10_code
def yX1_isSemicolon : MethodName := ⟨RX1, "isSemicolon", "()Z"⟩
abbrev cX1_isWord : ByteArray := prog_3_method_11_code
def yX1_isWord : MethodName := ⟨RX1, "isWord", "(Ljava/lang/String;)Z"⟩
abbrev cX1_isShortWord : ByteArray := prog_3_method_12_code
def yX1_isShortWord : MethodName := ⟨RX1, "isShortWord", "(I)Z"⟩
abbrev cX1_nameThere : ByteArray := prog_3_method_13_code
def yX1_nameThere : MethodName := ⟨RX1, "nameThere", "()I"⟩
abbrev cX1_tierThere : ByteArray := prog_3_method_14_code
def yX1_tierThere : MethodName := ⟨RX1, "tierThere", "()I"⟩
abbrev cX1_isTimeThere : ByteArray := prog_3_method_15_code
def yX1_isTimeThere : MethodName := ⟨RX1, "isTimeThere", "()Z"⟩
abbrev cX1_kindThere : ByteArray := prog_3_method_16_code
def yX1_kindThere : MethodName := ⟨RX1, "kindThere", "()I"⟩
abbrev cX1_verbThere : ByteArray := prog_3_method_17_code
def yX1_verbThere : MethodName := ⟨RX1, "verbThere", "()I"⟩
abbrev cX1_readTierLine : ByteArray := prog_3_method_18_code
def yX1_readTierLine : MethodName := ⟨RX1, "readTierLine", "()Z"⟩
abbrev cX1_readParent : ByteArray := prog_3_method_19_code
def yX1_readParent : MethodName := ⟨RX1, "readParent", "(II)Z"⟩
abbrev cX1_readMarkLine : ByteArray := prog_3_method_20_code
def yX1_readMarkLine : MethodName := ⟨RX1, "readMarkLine", "()Z"⟩
abbrev cX1_faultOf : ByteArray := prog_3_method_21_code
def yX1_faultOf : MethodName := ⟨RX1, "faultOf", "(IIII)I"⟩
abbrev cX1_carryOut : ByteArray := prog_3_method_22_code
def yX1_carryOut : MethodName := ⟨RX1, "carryOut", "(IIII)I"⟩
abbrev cX1_readLabel : ByteArray := prog_3_method_23_code
def yX1_readLabel : MethodName := ⟨RX1, "readLabel", "(III)Z"⟩
def RX2 : String := "SpeechTiers$Row"
def TX2 : u_T := fun k => match k with
  | 0 => ("SpeechTiers$Row", "name", "I", false)
  | 1 => ("SpeechTiers$Row", "kind", "I", false)
  | 2 => ("SpeechTiers$Row", "parent", "I", false)
  | 3 => ("SpeechTiers$Row", "root", "I", false)
  | 4 => ("SpeechTiers$Row", "depth", "I", false)
  | 5 => ("SpeechTiers$Row", "count", "I", false)
  | 6 => ("SpeechTiers$Row", "froms", "[I", true)
  | 7 => ("SpeechTiers$Row", "tos", "[I", true)
  | _ => ("SpeechTiers$Row", "labels", "[I", true)
def tyX2 : Nat → FieldType := fun k => match k with
  | 0 => .int
  | 1 => .int
  | 2 => .int
  | 3 => .int
  | 4 => .int
  | 5 => .int
  | 6 => .array .int
  | 7 => .array .int
  | _ => .array .int
abbrev wsX20 : List Cond := u_ws RX2 TX2 9
theorem nmX2 : ∀ a, a < 9 → ∀ b, b < 9 → a ≠ b → (TX2 a).2.1 ≠ (TX2 b).2.1 := by decide +kernel
theorem tyX2_ok : ∀ k, k < 9 → parseFieldDescriptor (TX2 k).2.2.1 = some (tyX2 k) := by decide +kernel
abbrev cX2_init : ByteArray := prog_4_method_1_code
def yX2_init : MethodName := ⟨RX2, "<init>", "()V"⟩
abbrev cX2_copyFrom : ByteArray := prog_4_method_2_code
def yX2_copyFrom : MethodName := ⟨RX2, "copyFrom", "(LSpeechTiers$Row;)V"⟩
abbrev cX2_isFull : ByteArray := prog_4_method_3_code
def yX2_isFull : MethodName := ⟨RX2, "isFull", "()Z"⟩
abbrev cX2_hasMark : ByteArray := prog_4_method_4_code
def yX2_hasMark : MethodName := ⟨RX2, "hasMark", "(I)Z"⟩
abbrev cX2_length : ByteArray := prog_4_method_5_code
def yX2_length : MethodName := ⟨RX2, "length", "(I)I"⟩
abbrev cX2_wholeLength : ByteArray := prog_4_method_6_code
def yX2_wholeLength : MethodName := ⟨RX2, "wholeLength", "()I"⟩
abbrev cX2_insert : ByteArray := prog_4_method_7_code
def yX2_insert : MethodName := ⟨RX2, "insert", "(III)I"⟩
abbrev cX2_remove : ByteArray := prog_4_method_8_code
def yX2_remove : MethodName := ⟨RX2, "remove", "(I)V"⟩
abbrev cX2_removeWithin : ByteArray := prog_4_method_9_code
def yX2_removeWithin : MethodName := ⟨RX2, "removeWithin", "(II)I"⟩
abbrev cX2_cutMark : ByteArray := prog_4_method_10_code
def yX2_cutMark : MethodName := ⟨RX2, "cutMark", "(II)V"⟩
abbrev cX2_joinNext : ByteArray := prog_4_method_11_code
def yX2_joinNext : MethodName := ⟨RX2, "joinNext", "(I)V"⟩
abbrev cX2_liesIn : ByteArray := prog_4_method_12_code
def yX2_liesIn : MethodName := ⟨RX2, "liesIn", "(III)Z"⟩
abbrev cX2_isOver : ByteArray := prog_4_method_13_code
def yX2_isOver : MethodName := ⟨RX2, "isOver", "(III)Z"⟩
abbrev cX2_hasOver : ByteArray := prog_4_method_14_code
def yX2_hasOver : MethodName := ⟨RX2, "hasOver", "(II)Z"⟩
abbrev cX2_shared : ByteArray := prog_4_method_15_code
def yX2_shared : MethodName := ⟨RX2, "shared", "(III)I"⟩
abbrev cX2_sharedBeside : ByteArray := prog_4_method_16_code
def yX2_sharedBeside : MethodName := ⟨RX2, "sharedBeside", "(LSpeechTiers$Row;Z)I"⟩
abbrev cX2_markAt : ByteArray := prog_4_method_17_code
def yX2_markAt : MethodName := ⟨RX2, "markAt", "(I)I"⟩
abbrev cX2_markInside : ByteArray := prog_4_method_18_code
def yX2_markInside : MethodName := ⟨RX2, "markInside", "(I)I"⟩
abbrev cX2_markAround : ByteArray := prog_4_method_19_code
def yX2_markAround : MethodName := ⟨RX2, "markAround", "(II)I"⟩
abbrev cX2_labelOf : ByteArray := prog_4_method_20_code
def yX2_labelOf : MethodName := ⟨RX2, "labelOf", "(II)I"⟩
abbrev cX2_addTimesTo : ByteArray := prog_4_method_21_code
def yX2_addTimesTo : MethodName := ⟨RX2, "addTimesTo", "(LSpeechTiers$Times;)V"⟩
abbrev cX2_listTimes : ByteArray := prog_4_method_22_code
def yX2_listTimes : MethodName := ⟨RX2, "listTimes", "(LSpeechTiers$Times;)V"⟩
abbrev cX2_countEnds : ByteArray := prog_4_method_23_code
def yX2_countEnds : MethodName := ⟨RX2, "countEnds", "(I)I"⟩
abbrev cX2_shiftEnds : ByteArray := prog_4_method_24_code
def yX2_shiftEnds : MethodName := ⟨RX2, "shiftEnds", "(II)V"⟩
abbrev cX2_insertSilence : ByteArray := prog_4_method_25_code
def yX2_insertSilence : MethodName := ⟨RX2, "insertSilence", "(II)V"⟩
def RX3 : String := "SpeechTiers$Sheet"
def TX3 : u_T := fun k => match k with
  | 0 => ("SpeechTiers$Sheet", "count", "I", false)
  | _ => ("SpeechTiers$Sheet", "rows", "[LSpeechTiers$Row;", true)
def tyX3 : Nat → FieldType := fun k => match k with
  | 0 => .int
  | _ => .array (.object "SpeechTiers$Row")
abbrev wsX30 : List Cond := u_ws RX3 TX3 2
theorem nmX3 : ∀ a, a < 2 → ∀ b, b < 2 → a ≠ b → (TX3 a).2.1 ≠ (TX3 b).2.1 := by decide +kernel
theorem tyX3_ok : ∀ k, k < 2 → parseFieldDescriptor (TX3 k).2.2.1 = some (tyX3 k) := by decide +kernel
abbrev cX3_init : ByteArray := prog_5_method_1_code
def yX3_init : MethodName := ⟨RX3, "<init>", "()V"⟩
abbrev cX3_clear : ByteArray := prog_5_method_2_code
def yX3_clear : MethodName := ⟨RX3, "clear", "()V"⟩
abbrev cX3_copyFrom : ByteArray := prog_5_method_3_code
def yX3_copyFrom : MethodName := ⟨RX3, "copyFrom", "(LSpeechTiers$Sheet;)V"⟩
abbrev cX3_hasTier : ByteArray := prog_5_method_4_code
def yX3_hasTier : MethodName := ⟨RX3, "hasTier", "(I)Z"⟩
abbrev cX3_indexOf : ByteArray := prog_5_method_5_code
def yX3_indexOf : MethodName := ⟨RX3, "indexOf", "(I)I"⟩
abbrev cX3_countMarks : ByteArray := prog_5_method_6_code
def yX3_countMarks : MethodName := ⟨RX3, "countMarks", "()I"⟩
abbrev cX3_countFamilies : ByteArray := prog_5_method_7_code
def yX3_countFamilies : MethodName := ⟨RX3, "countFamilies", "()I"⟩
abbrev cX3_countChildren : ByteArray := prog_5_method_8_code
def yX3_countChildren : MethodName := ⟨RX3, "countChildren", "(I)I"⟩
abbrev cX3_addTier : ByteArray := prog_5_method_9_code
def yX3_addTier : MethodName := ⟨RX3, "addTier", "(III)V"⟩
abbrev cX3_isBelow : ByteArray := prog_5_method_10_code
def yX3_isBelow : MethodName := ⟨RX3, "isBelow", "(II)Z"⟩
abbrev cX3_isPieceOf : ByteArray := prog_5_method_11_code
def yX3_isPieceOf : MethodName := ⟨RX3, "isPieceOf", "(II)Z"⟩
abbrev cX3_parentMark : ByteArray := prog_5_method_12_code
def yX3_parentMark : MethodName := ⟨RX3, "parentMark", "(II)I"⟩
abbrev cX3_haveSameParent : ByteArray := prog_5_method_13_code
def yX3_haveSameParent : MethodName := ⟨RX3, "haveSameParent", "(III)Z"⟩
abbrev cX3_countHeld : ByteArray := prog_5_method_14_code
def yX3_countHeld : MethodName := ⟨RX3, "countHeld", "(II)I"⟩
abbrev cX3_liesInParent : ByteArray := prog_5_method_15_code
def yX3_liesInParent : MethodName := ⟨RX3, "liesInParent", "(LSpeechTiers$Row;II)Z"⟩
abbrev cX3_allowsMark : ByteArray := prog_5_method_16_code
def yX3_allowsMark : MethodName := ⟨RX3, "allowsMark", "(III)Z"⟩
abbrev cX3_hasRoomForMark : ByteArray := prog_5_method_17_code
def yX3_hasRoomForMark : MethodName := ⟨RX3, "hasRoomForMark", "(I)Z"⟩
abbrev cX3_addMark : ByteArray := prog_5_method_18_code
def yX3_addMark : MethodName := ⟨RX3, "addMark", "(III)I"⟩
abbrev cX3_allowsPoint : ByteArray := prog_5_method_19_code
def yX3_allowsPoint : MethodName := ⟨RX3, "allowsPoint", "(II)Z"⟩
abbrev cX3_heirOf : ByteArray := prog_5_method_20_code
def yX3_heirOf : MethodName := ⟨RX3, "heirOf", "(II)I"⟩
abbrev cX3_removePiece : ByteArray := prog_5_method_21_code
def yX3_removePiece : MethodName := ⟨RX3, "removePiece", "(III)V"⟩
abbrev cX3_removeWhole : ByteArray := prog_5_method_22_code
def yX3_removeWhole : MethodName := ⟨RX3, "removeWhole", "(II)I"⟩
abbrev cX3_removeLostPoints : ByteArray := prog_5_method_23_code
def yX3_removeLostPoints : MethodName := ⟨RX3, "removeLostPoints", "(LSpeechTiers$Row;)I"⟩
abbrev cX3_isCutWith : ByteArray := prog_5_method_24_code
def yX3_isCutWith : MethodName := ⟨RX3, "isCutWith", "(III)Z"⟩
abbrev cX3_allowsCut : ByteArray := prog_5_method_25_code
def yX3_allowsCut : MethodName := ⟨RX3, "allowsCut", "(II)Z"⟩
abbrev cX3_hasRoomForCut : ByteArray := prog_5_method_26_code
def yX3_hasRoomForCut : MethodName := ⟨RX3, "hasRoomForCut", "(II)Z"⟩
abbrev cX3_cutAt : ByteArray := prog_5_method_27_code
def yX3_cutAt : MethodName := ⟨RX3, "cutAt", "(II)I"⟩
abbrev cX3_allowsJoin : ByteArray := prog_5_method_28_code
def yX3_allowsJoin : MethodName := ⟨RX3, "allowsJoin", "(II)Z"⟩
abbrev cX3_gapBehind : ByteArray := prog_5_method_29_code
def yX3_gapBehind : MethodName := ⟨RX3, "gapBehind", "(II)I"⟩
abbrev cX3_listStops : ByteArray := prog_5_method_30_code
def yX3_listStops : MethodName := ⟨RX3, "listStops", "(ILSpeechTiers$Times;)V"⟩
abbrev cX3_countEnds : ByteArray := prog_5_method_31_code
def yX3_countEnds : MethodName := ⟨RX3, "countEnds", "(II)I"⟩
abbrev cX3_leastFor : ByteArray := prog_5_method_32_code
def yX3_leastFor : MethodName := ⟨RX3, "leastFor", "(II)I"⟩
abbrev cX3_greatestFor : ByteArray := prog_5_method_33_code
def yX3_greatestFor : MethodName := ⟨RX3, "greatestFor", "(II)I"⟩
abbrev cX3_allowsShift : ByteArray := prog_5_method_34_code
def yX3_allowsShift : MethodName := ⟨RX3, "allowsShift", "(III)Z"⟩
abbrev cX3_shiftStop : ByteArray := prog_5_method_35_code
def yX3_shiftStop : MethodName := ⟨RX3, "shiftStop", "(III)I"⟩
abbrev cX3_allowsSilence : ByteArray := prog_5_method_36_code
def yX3_allowsSilence : MethodName := ⟨RX3, "allowsSilence", "(II)Z"⟩
abbrev cX3_countStopsBehind : ByteArray := prog_5_method_37_code
def yX3_countStopsBehind : MethodName := ⟨RX3, "countStopsBehind", "(ILSpeechTiers$Times;)I"⟩
abbrev cX3_insertSilence : ByteArray := prog_5_method_38_code
def yX3_insertSilence : MethodName := ⟨RX3, "insertSilence", "(II)V"⟩
def RX4 : String := "SpeechTiers$Times"
def TX4 : u_T := fun k => match k with
  | 0 => ("SpeechTiers$Times", "times", "[I", true)
  | _ => ("SpeechTiers$Times", "count", "I", false)
def tyX4 : Nat → FieldType := fun k => match k with
  | 0 => .array .int
  | _ => .int
abbrev wsX40 : List Cond := u_ws RX4 TX4 2
theorem nmX4 : ∀ a, a < 2 → ∀ b, b < 2 → a ≠ b → (TX4 a).2.1 ≠ (TX4 b).2.1 := by decide +kernel
theorem tyX4_ok : ∀ k, k < 2 → parseFieldDescriptor (TX4 k).2.2.1 = some (tyX4 k) := by decide +kernel
abbrev cX4_init : ByteArray := prog_6_method_1_code
def yX4_init : MethodName := ⟨RX4, "<init>", "(I)V"⟩
abbrev cX4_clear : ByteArray := prog_6_method_2_code
def yX4_clear : MethodName := ⟨RX4, "clear", "()V"⟩
abbrev cX4_placeOf : ByteArray := prog_6_method_3_code
def yX4_placeOf : MethodName := ⟨RX4, "placeOf", "(I)I"⟩
abbrev cX4_has : ByteArray := prog_6_method_4_code
def yX4_has : MethodName := ⟨RX4, "has", "(I)Z"⟩
abbrev cX4_add : ByteArray := prog_6_method_5_code
def yX4_add : MethodName := ⟨RX4, "add", "(I)V"⟩
abbrev cX4_nearest : ByteArray := prog_6_method_6_code
def yX4_nearest : MethodName := ⟨RX4, "nearest", "(I)I"⟩
def RX5 : String := "SpeechTiers"
def TX5 : u_T := fun k => match k with
  | 0 => ("SpeechTiers", "now", "LSpeechTiers$Sheet;", true)
  | 1 => ("SpeechTiers", "theOther", "LSpeechTiers$Sheet;", true)
  | 2 => ("SpeechTiers", "kept", "Z", false)
  | 3 => ("SpeechTiers", "past", "LSpeechTiers$History;", true)
  | 4 => ("SpeechTiers", "reader", "LSpeechTiers$Reader;", true)
  | 5 => ("SpeechTiers", "stops", "LSpeechTiers$Times;", true)
  | 6 => ("SpeechTiers", "here", "LSpeechTiers$Times;", true)
  | 7 => ("SpeechTiers", "there", "LSpeechTiers$Times;", true)
  | 8 => ("SpeechTiers", "bestPairs", "[I", true)
  | 9 => ("SpeechTiers", "refusedMissing", "I", false)
  | 10 => ("SpeechTiers", "refusedArgument", "I", false)
  | _ => ("SpeechTiers", "refusedState", "I", false)
def tyX5 : Nat → FieldType := fun k => match k with
  | 0 => .object "SpeechTiers$Sheet"
  | 1 => .object "SpeechTiers$Sheet"
  | 2 => .boolean
  | 3 => .object "SpeechTiers$History"
  | 4 => .object "SpeechTiers$Reader"
  | 5 => .object "SpeechTiers$Times"
  | 6 => .object "SpeechTiers$Times"
  | 7 => .object "SpeechTiers$Times"
  | 8 => .array .int
  | 9 => .int
  | 10 => .int
  | _ => .int
abbrev wsX50 : List Cond := u_ws RX5 TX5 12
theorem nmX5 : ∀ a, a < 12 → ∀ b, b < 12 → a ≠ b → (TX5 a).2.1 ≠ (TX5 b).2.1 := by decide +kernel
theorem tyX5_ok : ∀ k, k < 12 → parseFieldDescriptor (TX5 k).2.2.1 = some (tyX5 k) := by decide +kernel
abbrev cX5_init : ByteArray := prog_1_method_1_code
def yX5_init : MethodName := ⟨RX5, "<init>", "()V"⟩
abbrev cX5_feed : ByteArray := prog_1_method_2_code
def yX5_feed : MethodName := ⟨RX5, "feed", "(IIIII)I"⟩
abbrev cX5_text : ByteArray := prog_1_method_3_code
def yX5_text : MethodName := ⟨RX5, "text", "(I)I"⟩
abbrev cX5_fault : ByteArray := prog_1_method_4_code
def yX5_fault : MethodName := ⟨RX5, "fault", "()I"⟩
abbrev cX5_put : ByteArray := prog_1_method_5_code
def yX5_put : MethodName := ⟨RX5, "put", "(III)I"⟩
abbrev cX5_point : ByteArray := prog_1_method_6_code
def yX5_point : MethodName := ⟨RX5, "point", "(II)I"⟩
abbrev cX5_take : ByteArray := prog_1_method_7_code
def yX5_take : MethodName := ⟨RX5, "take", "(II)I"⟩
abbrev cX5_split : ByteArray := prog_1_method_8_code
def yX5_split : MethodName := ⟨RX5, "split", "(III)I"⟩
abbrev cX5_join : ByteArray := prog_1_method_9_code
def yX5_join : MethodName := ⟨RX5, "join", "(II)I"⟩
abbrev cX5_move : ByteArray := prog_1_method_10_code
def yX5_move : MethodName := ⟨RX5, "move", "(III)I"⟩
abbrev cX5_silence : ByteArray := prog_1_method_11_code
def yX5_silence : MethodName := ⟨RX5, "silence", "(II)I"⟩
abbrev cX5_label : ByteArray := prog_1_method_12_code
def yX5_label : MethodName := ⟨RX5, "label", "(III)I"⟩
abbrev cX5_adopt : ByteArray := prog_1_method_13_code
def yX5_adopt : MethodName := ⟨RX5, "adopt", "(I)I"⟩
abbrev cX5_snap : ByteArray := prog_1_method_14_code
def yX5_snap : MethodName := ⟨RX5, "snap", "(II)I"⟩
abbrev cX5_undo : ByteArray := prog_1_method_15_code
def yX5_undo : MethodName := ⟨RX5, "undo", "()I"⟩
abbrev cX5_keep : ByteArray := prog_1_method_16_code
def yX5_keep : MethodName := ⟨RX5, "keep", "()I"⟩
abbrev cX5_told : ByteArray := prog_1_method_17_code
def yX5_told : MethodName := ⟨RX5, "told", "(I)I"⟩
abbrev cX5_tier : ByteArray := prog_1_method_18_code
def yX5_tier : MethodName := ⟨RX5, "tier", "(II)I"⟩
abbrev cX5_mark : ByteArray := prog_1_method_19_code
def yX5_mark : MethodName := ⟨RX5, "mark", "(III)I"⟩
abbrev cX5_at : ByteArray := prog_1_method_20_code
def yX5_at : MethodName := ⟨RX5, "at", "(II)I"⟩
abbrev cX5_over : ByteArray := prog_1_method_21_code
def yX5_over : MethodName := ⟨RX5, "over", "(IIII)I"⟩
abbrev cX5_within : ByteArray := prog_1_method_22_code
def yX5_within : MethodName := ⟨RX5, "within", "(IIII)I"⟩
abbrev cX5_find : ByteArray := prog_1_method_23_code
def yX5_find : MethodName := ⟨RX5, "find", "(III)I"⟩
abbrev cX5_together : ByteArray := prog_1_method_24_code
def yX5_together : MethodName := ⟨RX5, "together", "(IIII)I"⟩
abbrev cX5_longest : ByteArray := prog_1_method_25_code
def yX5_longest : MethodName := ⟨RX5, "longest", "(III)I"⟩
abbrev cX5_gaps : ByteArray := prog_1_method_26_code
def yX5_gaps : MethodName := ⟨RX5, "gaps", "(II)I"⟩
abbrev cX5_stop : ByteArray := prog_1_method_27_code
def yX5_stop : MethodName := ⟨RX5, "stop", "(II)I"⟩
abbrev cX5_room : ByteArray := prog_1_method_28_code
def yX5_room : MethodName := ⟨RX5, "room", "(III)I"⟩
abbrev cX5_agree : ByteArray := prog_1_method_29_code
def yX5_agree : MethodName := ⟨RX5, "agree", "(II)I"⟩
abbrev cX5_same : ByteArray := prog_1_method_30_code
def yX5_same : MethodName := ⟨RX5, "same", "(III)I"⟩
abbrev cX5_print : ByteArray := prog_1_method_31_code
def yX5_print : MethodName := ⟨RX5, "print", "()J"⟩
abbrev cX5_status : ByteArray := prog_1_method_32_code
def yX5_status : MethodName := ⟨RX5, "status", "(I)I"⟩
abbrev cX5_refuseMissing : ByteArray := prog_1_method_33_code
def yX5_refuseMissing : MethodName := ⟨RX5, "refuseMissing", "()V"⟩
abbrev cX5_refuseArgument : ByteArray := prog_1_method_34_code
def yX5_refuseArgument : MethodName := ⟨RX5, "refuseArgument", "()V"⟩
abbrev cX5_needState : ByteArray := prog_1_method_35_code
def yX5_needState : MethodName := ⟨RX5, "needState", "(Z)V"⟩
abbrev cX5_needTier : ByteArray := prog_1_method_36_code
def yX5_needTier : MethodName := ⟨RX5, "needTier", "(I)V"⟩
abbrev cX5_needMark : ByteArray := prog_1_method_37_code
def yX5_needMark : MethodName := ⟨RX5, "needMark", "(II)V"⟩
abbrev cX5_needStop : ByteArray := prog_1_method_38_code
def yX5_needStop : MethodName := ⟨RX5, "needStop", "(II)V"⟩
abbrev cX5_needRange : ByteArray := prog_1_method_39_code
def yX5_needRange : MethodName := ⟨RX5, "needRange", "(III)V"⟩
abbrev cX5_needTime : ByteArray := prog_1_method_40_code
def yX5_needTime : MethodName := ⟨RX5, "needTime", "(I)V"⟩
abbrev cX5_needSpan : ByteArray := prog_1_method_41_code
def yX5_needSpan : MethodName := ⟨RX5, "needSpan", "(II)V"⟩
abbrev cX5_isLabel : ByteArray := prog_1_method_42_code
def yX5_isLabel : MethodName := ⟨RX5, "isLabel", "(I)Z"⟩
abbrev cX5_twinOf : ByteArray := prog_1_method_43_code
def yX5_twinOf : MethodName := ⟨RX5, "twinOf", "(LSpeechTiers$Row;)LSpeechTiers$Row;"⟩
abbrev cX5_goalOfSnap : ByteArray := prog_1_method_44_code
def yX5_goalOfSnap : MethodName := ⟨RX5, "goalOfSnap", "(III)I"⟩
abbrev cX5_weighPairs : ByteArray := prog_1_method_45_code
def yX5_weighPairs : MethodName := ⟨RX5, "weighPairs", "(I)I"⟩
def RX6 : String := "SpeechTiersModel"
def TX6 : u_T := fun k => match k with
  | 0 => ("SpeechTiersModel", "thrown", "I", false)
  | 1 => ("SpeechTiersModel", "refused", "[I", true)
  | 2 => ("SpeechTiersModel", "m", "[I", true)
  | 3 => ("SpeechTiersModel", "there", "[I", true)
  | 4 => ("SpeechTiersModel", "aside", "[I", true)
  | 5 => ("SpeechTiersModel", "back", "[I", true)
  | 6 => ("SpeechTiersModel", "undos", "I", false)
  | 7 => ("SpeechTiersModel", "hasOther", "Z", false)
  | 8 => ("SpeechTiersModel", "tape", "[B", true)
  | 9 => ("SpeechTiersModel", "text", "[B", true)
  | 10 => ("SpeechTiersModel", "taped", "I", false)
  | 11 => ("SpeechTiersModel", "size", "I", false)
  | 12 => ("SpeechTiersModel", "next", "I", false)
  | 13 => ("SpeechTiersModel", "begin", "I", false)
  | 14 => ("SpeechTiersModel", "fault", "I", false)
  | 15 => ("SpeechTiersModel", "faultNow", "I", false)
  | 16 => ("SpeechTiersModel", "faultAt", "I", false)
  | 17 => ("SpeechTiersModel", "here", "[I", true)
  | 18 => ("SpeechTiersModel", "far", "[I", true)
  | 19 => ("SpeechTiersModel", "pairs", "[I", true)
  | _ => ("SpeechTiersModel", "apart", "[I", true)
def tyX6 : Nat → FieldType := fun k => match k with
  | 0 => .int
  | 1 => .array .int
  | 2 => .array .int
  | 3 => .array .int
  | 4 => .array .int
  | 5 => .array .int
  | 6 => .int
  | 7 => .boolean
  | 8 => .array .byte
  | 9 => .array .byte
  | 10 => .int
  | 11 => .int
  | 12 => .int
  | 13 => .int
  | 14 => .int
  | 15 => .int
  | 16 => .int
  | 17 => .array .int
  | 18 => .array .int
  | 19 => .array .int
  | _ => .array .int
abbrev wsX60 : List Cond := u_ws RX6 TX6 21
theorem nmX6 : ∀ a, a < 21 → ∀ b, b < 21 → a ≠ b → (TX6 a).2.1 ≠ (TX6 b).2.1 := by decide +kernel
theorem tyX6_ok : ∀ k, k < 21 → parseFieldDescriptor (TX6 k).2.2.1 = some (tyX6 k) := by decide +kernel
abbrev cX6_thrown : ByteArray := prog_8_method_1_code
def yX6_thrown : MethodName := ⟨RX6, "thrown", "()I"⟩
abbrev cX6_isFine : ByteArray := prog_8_method_2_code
def yX6_isFine : MethodName := ⟨RX6, "isFine", "(ZII)Z"⟩
abbrev cX6_isIn : ByteArray := prog_8_method_3_code
def yX6_isIn : MethodName := ⟨RX6, "isIn", "(III)Z"⟩
abbrev cX6_init : ByteArray := prog_8_method_4_code
def yX6_init : MethodName := ⟨RX6, "<init>", "()V"⟩
abbrev cX6_tiers : ByteArray := prog_8_method_5_code
def yX6_tiers : MethodName := ⟨RX6, "tiers", "()I"⟩
abbrev cX6_pos : ByteArray := prog_8_method_6_code
def yX6_pos : MethodName := ⟨RX6, "pos", "(II)I"⟩
abbrev cX6_kind : ByteArray := prog_8_method_7_code
def yX6_kind : MethodName := ⟨RX6, "kind", "(I)I"⟩
abbrev cX6_parent : ByteArray := prog_8_method_8_code
def yX6_parent : MethodName := ⟨RX6, "parent", "(I)I"⟩
abbrev cX6_many : ByteArray := prog_8_method_9_code
def yX6_many : MethodName := ⟨RX6, "many", "(I)I"⟩
abbrev cX6_cell : ByteArray := prog_8_method_10_code
def yX6_cell : MethodName := ⟨RX6, "cell", "(III)I"⟩
abbrev cX6_from : ByteArray := prog_8_method_11_code
def yX6_from : MethodName := ⟨RX6, "from", "(II)I"⟩
abbrev cX6_to : ByteArray := prog_8_method_12_code
def yX6_to : MethodName := ⟨RX6, "to", "(II)I"⟩
abbrev cX6_labelOf : ByteArray := prog_8_method_13_code
def yX6_labelOf : MethodName := ⟨RX6, "labelOf", "(II)I"⟩
abbrev cX6_copies : ByteArray := prog_8_method_14_code
def yX6_copies : MethodName := ⟨RX6, "copies", "([I[I)V"⟩
abbrev cX6_topOf : ByteArray := prog_8_method_15_code
def yX6_topOf : MethodName := ⟨RX6, "topOf", "(I)I"⟩
abbrev cX6_depthOf : ByteArray := prog_8_method_16_code
def yX6_depthOf : MethodName := ⟨RX6, "depthOf", "(I)I"⟩
abbrev cX6_isBelow : ByteArray := prog_8_method_17_code
def yX6_isBelow : MethodName := ⟨RX6, "isBelow", "(II)Z"⟩
abbrev cX6_isStop : ByteArray := prog_8_method_18_code
def yX6_isStop : MethodName := ⟨RX6, "isStop", "(II)Z"⟩
abbrev cX6_around : ByteArray := prog_8_method_19_code
def yX6_around : MethodName := ⟨RX6, "around", "(III)I"⟩
abbrev cX6_inserts : ByteArray := prog_8_method_20_code
def yX6_inserts : MethodName := ⟨RX6, "inserts", "(IIII)I"⟩
abbrev cX6_removes : ByteArray := prog_8_method_21_code
def yX6_removes : MethodName := ⟨RX6, "removes", "(II)V"⟩
abbrev cX6_isClear : ByteArray := prog_8_method_22_code
def yX6_isClear : MethodName := ⟨RX6, "isClear", "(III)Z"⟩
abbrev cX6_mayPut : ByteArray := prog_8_method_23_code
def yX6_mayPut : MethodName := ⟨RX6, "mayPut", "(III)Z"⟩
abbrev cX6_isCutFrom : ByteArray := prog_8_method_24_code
def yX6_isCutFrom : MethodName := ⟨RX6, "isCutFrom", "(II)Z"⟩
abbrev cX6_hasRoom : ByteArray := prog_8_method_25_code
def yX6_hasRoom : MethodName := ⟨RX6, "hasRoom", "(I)Z"⟩
abbrev cX6_puts : ByteArray := prog_8_method_26_code
def yX6_puts : MethodName := ⟨RX6, "puts", "(IIII)I"⟩
abbrev cX6_mayPoint : ByteArray := prog_8_method_27_code
def yX6_mayPoint : MethodName := ⟨RX6, "mayPoint", "(II)Z"⟩
abbrev cX6_maySplit : ByteArray := prog_8_method_28_code
def yX6_maySplit : MethodName := ⟨RX6, "maySplit", "(II)Z"⟩
abbrev cX6_markWith : ByteArray := prog_8_method_29_code
def yX6_markWith : MethodName := ⟨RX6, "markWith", "(II)I"⟩
abbrev cX6_hasRoomToSplit : ByteArray := prog_8_method_30_code
def yX6_hasRoomToSplit : MethodName := ⟨RX6, "hasRoomToSplit", "(II)Z"⟩
abbrev cX6_splitsOne : ByteArray := prog_8_method_31_code
def yX6_splitsOne : MethodName := ⟨RX6, "splitsOne", "(II)I"⟩
abbrev cX6_splits : ByteArray := prog_8_method_32_code
def yX6_splits : MethodName := ⟨RX6, "splits", "(II)I"⟩
abbrev cX6_feed : ByteArray := prog_8_method_33_code
def yX6_feed : MethodName := ⟨RX6, "feed", "(IIIII)I"⟩
abbrev cX6_puts_ : ByteArray := prog_8_method_34_code
def yX6_puts_ : MethodName := ⟨RX6, "puts", "(I)V"⟩
abbrev cX6_wrong : ByteArray := prog_8_method_35_code
def yX6_wrong : MethodName := ⟨RX6, "wrong", "(II)V"⟩
abbrev cX6_sign : ByteArray := prog_8_method_36_code
def yX6_sign : MethodName := ⟨RX6, "sign", "()I"⟩
abbrev cX6_isSmall : ByteArray := prog_8_method_37_code
def yX6_isSmall : MethodName := ⟨RX6, "isSmall", "(I)Z"⟩
abbrev cX6_passes : ByteArray := prog_8_method_38_code
def yX6_passes : MethodName := ⟨RX6, "passes", "(Ljava/lang/String;)Z"⟩
abbrev cX6_word : ByteArray := prog_8_method_39_code
def yX6_word : MethodName := ⟨RX6, "word", "(IZ)I"⟩
abbrev cX6_isWordHere : ByteArray := prog_8_method_40_code
def yX6_isWordHere : MethodName := ⟨RX6, "isWordHere", "()Z"⟩
abbrev cX6_number : ByteArray := prog_8_method_41_code
def yX6_number : MethodName := ⟨RX6, "number", "(I)I"⟩
abbrev cX6_tierNamed : ByteArray := prog_8_method_42_code
def yX6_tierNamed : MethodName := ⟨RX6, "tierNamed", "([II)I"⟩
abbrev cX6_known : ByteArray := prog_8_method_43_code
def yX6_known : MethodName := ⟨RX6, "known", "()I"⟩
abbrev cX6_tierTold : ByteArray := prog_8_method_44_code
def yX6_tierTold : MethodName := ⟨RX6, "tierTold", "(I)V"⟩
abbrev cX6_labelHere : ByteArray := prog_8_method_45_code
def yX6_labelHere : MethodName := ⟨RX6, "labelHere", "()I"⟩
abbrev cX6_markTold : ByteArray := prog_8_method_46_code
def yX6_markTold : MethodName := ⟨RX6, "markTold", "()V"⟩
abbrev cX6_pointTold : ByteArray := prog_8_method_47_code
def yX6_pointTold : MethodName := ⟨RX6, "pointTold", "()V"⟩
abbrev cX6_splitTold : ByteArray := prog_8_method_48_code
def yX6_splitTold : MethodName := ⟨RX6, "splitTold", "()V"⟩
abbrev cX6_markAt : ByteArray := prog_8_method_49_code
def yX6_markAt : MethodName := ⟨RX6, "markAt", "(II)I"⟩
abbrev cX6_labelTold : ByteArray := prog_8_method_50_code
def yX6_labelTold : MethodName := ⟨RX6, "labelTold", "()V"⟩
abbrev cX6_oneLine : ByteArray := prog_8_method_51_code
def yX6_oneLine : MethodName := ⟨RX6, "oneLine", "()V"⟩
abbrev cX6_allMarks : ByteArray := prog_8_method_52_code
def yX6_allMarks : MethodName := ⟨RX6, "allMarks", "([I)I"⟩
abbrev cX6_text : ByteArray := prog_8_method_53_code
def yX6_text : MethodName := ⟨RX6, "text", "(I)I"⟩
abbrev cX6_fault : ByteArray := prog_8_method_54_code
def yX6_fault : MethodName := ⟨RX6, "fault", "()I"⟩
abbrev cX6_keeps : ByteArray := prog_8_method_55_code
def yX6_keeps : MethodName := ⟨RX6, "keeps", "()V"⟩
abbrev cX6_isTier : ByteArray := prog_8_method_56_code
def yX6_isTier : MethodName := ⟨RX6, "isTier", "(I)Z"⟩
abbrev cX6_isMark : ByteArray := prog_8_method_57_code
def yX6_isMark : MethodName := ⟨RX6, "isMark", "(II)Z"⟩
abbrev cX6_put : ByteArray := prog_8_method_58_code
def yX6_put : MethodName := ⟨RX6, "put", "(III)I"⟩
abbrev cX6_point : ByteArray := prog_8_method_59_code
def yX6_point : MethodName := ⟨RX6, "point", "(II)I"⟩
abbrev cX6_beside : ByteArray := prog_8_method_60_code
def yX6_beside : MethodName := ⟨RX6, "beside", "(III)I"⟩
abbrev cX6_parentsOf : ByteArray := prog_8_method_61_code
def yX6_parentsOf : MethodName := ⟨RX6, "parentsOf", "(II)I"⟩
abbrev cX6_clears : ByteArray := prog_8_method_62_code
def yX6_clears : MethodName := ⟨RX6, "clears", "(III)I"⟩
abbrev cX6_takesAll : ByteArray := prog_8_method_63_code
def yX6_takesAll : MethodName := ⟨RX6, "takesAll", "(II)I"⟩
abbrev cX6_takesCut : ByteArray := prog_8_method_64_code
def yX6_takesCut : MethodName := ⟨RX6, "takesCut", "(II)I"⟩
abbrev cX6_take : ByteArray := prog_8_method_65_code
def yX6_take : MethodName := ⟨RX6, "take", "(II)I"⟩
abbrev cX6_split : ByteArray := prog_8_method_66_code
def yX6_split : MethodName := ⟨RX6, "split", "(III)I"⟩
abbrev cX6_join : ByteArray := prog_8_method_67_code
def yX6_join : MethodName := ⟨RX6, "join", "(II)I"⟩
abbrev cX6_stopAhead : ByteArray := prog_8_method_68_code
def yX6_stopAhead : MethodName := ⟨RX6, "stopAhead", "(II)I"⟩
abbrev cX6_stopBehind : ByteArray := prog_8_method_69_code
def yX6_stopBehind : MethodName := ⟨RX6, "stopBehind", "(II)I"⟩
abbrev cX6_isStopOf : ByteArray := prog_8_method_70_code
def yX6_isStopOf : MethodName := ⟨RX6, "isStopOf", "(II)Z"⟩
abbrev cX6_endsAt : ByteArray := prog_8_method_71_code
def yX6_endsAt : MethodName := ⟨RX6, "endsAt", "(II)I"⟩
abbrev cX6_move : ByteArray := prog_8_method_72_code
def yX6_move : MethodName := ⟨RX6, "move", "(III)I"⟩
abbrev cX6_stopsFrom : ByteArray := prog_8_method_73_code
def yX6_stopsFrom : MethodName := ⟨RX6, "stopsFrom", "(I)I"⟩
abbrev cX6_latest : ByteArray := prog_8_method_74_code
def yX6_latest : MethodName := ⟨RX6, "latest", "()I"⟩
abbrev cX6_silence : ByteArray := prog_8_method_75_code
def yX6_silence : MethodName := ⟨RX6, "silence", "(II)I"⟩
abbrev cX6_areLetters : ByteArray := prog_8_method_76_code
def yX6_areLetters : MethodName := ⟨RX6, "areLetters", "(I)Z"⟩
abbrev cX6_label : ByteArray := prog_8_method_77_code
def yX6_label : MethodName := ⟨RX6, "label", "(III)I"⟩
abbrev cX6_adopt : ByteArray := prog_8_method_78_code
def yX6_adopt : MethodName := ⟨RX6, "adopt", "(I)I"⟩
abbrev cX6_adopted : ByteArray := prog_8_method_79_code
def yX6_adopted : MethodName := ⟨RX6, "adopted", "(III)I"⟩
abbrev cX6_mayMove : ByteArray := prog_8_method_80_code
def yX6_mayMove : MethodName := ⟨RX6, "mayMove", "(III)Z"⟩
abbrev cX6_moves : ByteArray := prog_8_method_81_code
def yX6_moves : MethodName := ⟨RX6, "moves", "(III)V"⟩
abbrev cX6_nearest : ByteArray := prog_8_method_82_code
def yX6_nearest : MethodName := ⟨RX6, "nearest", "([III)I"⟩
abbrev cX6_snap : ByteArray := prog_8_method_83_code
def yX6_snap : MethodName := ⟨RX6, "snap", "(II)I"⟩
abbrev cX6_gaps : ByteArray := prog_8_method_84_code
def yX6_gaps : MethodName := ⟨RX6, "gaps", "(II)I"⟩
abbrev cX6_undo : ByteArray := prog_8_method_85_code
def yX6_undo : MethodName := ⟨RX6, "undo", "()I"⟩
abbrev cX6_keep : ByteArray := prog_8_method_86_code
def yX6_keep : MethodName := ⟨RX6, "keep", "()I"⟩
abbrev cX6_families : ByteArray := prog_8_method_87_code
def yX6_families : MethodName := ⟨RX6, "families", "()I"⟩
abbrev cX6_told : ByteArray := prog_8_method_88_code
def yX6_told : MethodName := ⟨RX6, "told", "(I)I"⟩
abbrev cX6_timeOf : ByteArray := prog_8_method_89_code
def yX6_timeOf : MethodName := ⟨RX6, "timeOf", "(I)I"⟩
abbrev cX6_childMany : ByteArray := prog_8_method_90_code
def yX6_childMany : MethodName := ⟨RX6, "childMany", "(I)I"⟩
abbrev cX6_stopMany : ByteArray := prog_8_method_91_code
def yX6_stopMany : MethodName := ⟨RX6, "stopMany", "(I)I"⟩
abbrev cX6_tier : ByteArray := prog_8_method_92_code
def yX6_tier : MethodName := ⟨RX6, "tier", "(II)I"⟩
abbrev cX6_lieIn : ByteArray := prog_8_method_93_code
def yX6_lieIn : MethodName := ⟨RX6, "lieIn", "(II)I"⟩
abbrev cX6_mark : ByteArray := prog_8_method_94_code
def yX6_mark : MethodName := ⟨RX6, "mark", "(III)I"⟩
abbrev cX6_at : ByteArray := prog_8_method_95_code
def yX6_at : MethodName := ⟨RX6, "at", "(II)I"⟩
abbrev cX6_over : ByteArray := prog_8_method_96_code
def yX6_over : MethodName := ⟨RX6, "over", "(IIII)I"⟩
abbrev cX6_within : ByteArray := prog_8_method_97_code
def yX6_within : MethodName := ⟨RX6, "within", "(IIII)I"⟩
abbrev cX6_find : ByteArray := prog_8_method_98_code
def yX6_find : MethodName := ⟨RX6, "find", "(III)I"⟩
abbrev cX6_together : ByteArray := prog_8_method_99_code
def yX6_together : MethodName := ⟨RX6, "together", "(IIII)I"⟩
abbrev cX6_longest : ByteArray := prog_8_method_100_code
def yX6_longest : MethodName := ⟨RX6, "longest", "(III)I"⟩
abbrev cX6_stop : ByteArray := prog_8_method_101_code
def yX6_stop : MethodName := ⟨RX6, "stop", "(II)I"⟩
abbrev cX6_room : ByteArray := prog_8_method_102_code
def yX6_room : MethodName := ⟨RX6, "room", "(III)I"⟩
abbrev cX6_otherTier : ByteArray := prog_8_method_103_code
def yX6_otherTier : MethodName := ⟨RX6, "otherTier", "(I)I"⟩
abbrev cX6_markIn : ByteArray := prog_8_method_104_code
def yX6_markIn : MethodName := ⟨RX6, "markIn", "([III)I"⟩
abbrev cX6_agree : ByteArray := prog_8_method_105_code
def yX6_agree : MethodName := ⟨RX6, "agree", "(II)I"⟩
abbrev cX6_times : ByteArray := prog_8_method_106_code
def yX6_times : MethodName := ⟨RX6, "times", "([II[I)I"⟩
abbrev cX6_pairsOf : ByteArray := prog_8_method_107_code
def yX6_pairsOf : MethodName := ⟨RX6, "pairsOf", "(III)V"⟩
abbrev cX6_better : ByteArray := prog_8_method_108_code
def yX6_better : MethodName := ⟨RX6, "better", "(III)V"⟩
abbrev cX6_same : ByteArray := prog_8_method_109_code
def yX6_same : MethodName := ⟨RX6, "same", "(III)I"⟩
abbrev cX6_print : ByteArray := prog_8_method_110_code
def yX6_print : MethodName := ⟨RX6, "print", "()J"⟩
abbrev cX6_status : ByteArray := prog_8_method_111_code
def yX6_status : MethodName := ⟨RX6, "status", "(I)I"⟩
def RL : String := "SpeechTiersLaw"
abbrev cL_text : ByteArray := method_3_code
def yL_text : MethodName := ⟨RL, "text", "(LSpeechTiers;I[J)I"⟩
abbrev cL_put : ByteArray := method_4_code
def yL_put : MethodName := ⟨RL, "put", "(LSpeechTiers;III[J)I"⟩
abbrev cL_point : ByteArray := method_5_code
def yL_point : MethodName := ⟨RL, "point", "(LSpeechTiers;II[J)I"⟩
abbrev cL_take : ByteArray := method_6_code
def yL_take : MethodName := ⟨RL, "take", "(LSpeechTiers;II[J)I"⟩
abbrev cL_split : ByteArray := method_7_code
def yL_split : MethodName := ⟨RL, "split", "(LSpeechTiers;III[J)I"⟩
abbrev cL_join : ByteArray := method_8_code
def yL_join : MethodName := ⟨RL, "join", "(LSpeechTiers;II[J)I"⟩
abbrev cL_move : ByteArray := method_9_code
def yL_move : MethodName := ⟨RL, "move", "(LSpeechTiers;III[J)I"⟩
abbrev cL_silence : ByteArray := method_10_code
def yL_silence : MethodName := ⟨RL, "silence", "(LSpeechTiers;II[J)I"⟩
abbrev cL_label : ByteArray := method_11_code
def yL_label : MethodName := ⟨RL, "label", "(LSpeechTiers;III[J)I"⟩
abbrev cL_adopt : ByteArray := method_12_code
def yL_adopt : MethodName := ⟨RL, "adopt", "(LSpeechTiers;I[J)I"⟩
abbrev cL_snap : ByteArray := method_13_code
def yL_snap : MethodName := ⟨RL, "snap", "(LSpeechTiers;II[J)I"⟩
abbrev cL_told : ByteArray := method_14_code
def yL_told : MethodName := ⟨RL, "told", "(LSpeechTiers;I[J)I"⟩
abbrev cL_tier : ByteArray := method_15_code
def yL_tier : MethodName := ⟨RL, "tier", "(LSpeechTiers;II[J)I"⟩
abbrev cL_mark : ByteArray := method_16_code
def yL_mark : MethodName := ⟨RL, "mark", "(LSpeechTiers;III[J)I"⟩
abbrev cL_at : ByteArray := method_17_code
def yL_at : MethodName := ⟨RL, "at", "(LSpeechTiers;II[J)I"⟩
abbrev cL_over : ByteArray := method_18_code
def yL_over : MethodName := ⟨RL, "over", "(LSpeechTiers;IIII[J)I"⟩
abbrev cL_within : ByteArray := method_19_code
def yL_within : MethodName := ⟨RL, "within", "(LSpeechTiers;IIII[J)I"⟩
abbrev cL_find : ByteArray := method_20_code
def yL_find : MethodName := ⟨RL, "find", "(LSpeechTiers;III[J)I"⟩
abbrev cL_together : ByteArray := method_21_code
def yL_together : MethodName := ⟨RL, "together", "(LSpeechTiers;IIII[J)I"⟩
abbrev cL_longest : ByteArray := method_22_code
def yL_longest : MethodName := ⟨RL, "longest", "(LSpeechTiers;III[J)I"⟩
abbrev cL_gaps : ByteArray := method_23_code
def yL_gaps : MethodName := ⟨RL, "gaps", "(LSpeechTiers;II[J)I"⟩
abbrev cL_stop : ByteArray := method_24_code
def yL_stop : MethodName := ⟨RL, "stop", "(LSpeechTiers;II[J)I"⟩
abbrev cL_room : ByteArray := method_25_code
def yL_room : MethodName := ⟨RL, "room", "(LSpeechTiers;III[J)I"⟩
abbrev cL_agree : ByteArray := method_26_code
def yL_agree : MethodName := ⟨RL, "agree", "(LSpeechTiers;II[J)I"⟩
abbrev cL_same : ByteArray := method_27_code
def yL_same : MethodName := ⟨RL, "same", "(LSpeechTiers;III[J)I"⟩
abbrev cL_law : ByteArray := code
def yL_law : MethodName := ⟨RL, "law", "([I)Z"⟩
abbrev vwCl : List vw_C := [(RX0, TX0, 3), (RX1, TX1, 12), (RX2, TX2, 9), (RX3, TX3, 2), (RX4, TX4, 2), (RX5, TX5, 12), (RX6, TX6, 21)]
end
section
/-! THE SMALL MACHINE: the part of the bytecode that the system uses, over a memory that is addressed by roles: a reference is (kind, number), a cell's slots are whole numbers. -/
abbrev zAV := Int32 ⊕ (Int64 ⊕ (Nat × Nat))
abbrev zMem := Nat → Nat → Nat → Int32
abbrev zSt := zMem × Int64 × Nat
abbrev zOut := Option zAV ⊕ Nat
abbrev zRes := Option (zOut × zSt)
abbrev zAF := Nat × List zAV × List zAV
abbrev zEnt := Nat × Instr × Nat × Nat × Nat × Int32 × List Nat
abbrev zI (x : Int32) : zAV := .inl x
abbrev zL (x : Int64) : zAV := .inr (.inl x)
abbrev zR (k i : Nat) : zAV := .inr (.inr (k, i))
abbrev zNull : zAV := .inr (.inr (0, 0))
abbrev zJunk : zAV := .inr (.inr (0, 1))
def zlk : List zEnt → Nat → Option (Instr × Nat × Nat × Nat × Int32 × List Nat)
  | [], _ => none
  | e :: r, pc => bif Nat.beq e.1 pc then some e.2 else zlk r pc
def zget : List zAV → Nat → zAV
  | [], _ => zJunk
  | v :: _, 0 => v
  | _ :: r, n + 1 => zget r n
def zset : List zAV → Nat → zAV → List zAV
  | [], _, _ => []
  | _ :: r, 0, w => w :: r
  | v :: r, n + 1, w => v :: zset r n w
def zpopn : Nat → List zAV → List zAV → Option (List zAV × List zAV)
  | 0, acc, st => some (acc, st)
  | n + 1, acc, v :: st => zpopn n (v :: acc) st
  | _ + 1, _, [] => none
/-- one slot of one cell -/
def zms (M : zMem) (k i s : Nat) (v : Int32) : zMem := fun k' i' s' => if k' = k ∧ i' = i ∧ s' = s then v else M k' i' s'
/-- a whole row -/
def zmr (M : zMem) (k i : Nat) (g : Nat → Int32) : zMem := fun k' i' s' => if k' = k ∧ i' = i then g s' else M k' i' s'
/-- the reference that a field holds: kind and number; none: a number's field -/
def zrf (ci s i : Nat) : Option (Nat × Nat) := match ci, s with
  | 0, 0 => some (26, 0)
  | 1, 0 => some (27, 0)
  | 1, 2 => some (13, 14)
  | 2, 6 => some (20, i)
  | 2, 7 => some (21, i)
  | 2, 8 => some (22, i)
  | 3, 1 => some (25, i)
  | 4, 0 => some (23, i)
  | 5, 0 => some (13, 0)
  | 5, 1 => some (13, 1)
  | 5, 3 => some (10, 0)
  | 5, 4 => some (11, 0)
  | 5, 5 => some (14, 0)
  | 5, 6 => some (14, 1)
  | 5, 7 => some (14, 2)
  | 5, 8 => some (24, 0)
  | 6, 1 => some (30, 0)
  | 6, 2 => some (31, 0)
  | 6, 3 => some (32, 0)
  | 6, 4 => some (33, 0)
  | 6, 5 => some (34, 0)
  | 6, 8 => some (35, 0)
  | 6, 9 => some (36, 0)
  | 6, 17 => some (37, 0)
  | 6, 18 => some (38, 0)
  | 6, 19 => some (39, 0)
  | 6, 20 => some (40, 0)
  | _, _ => none
/-- how long a row is, by its role; 0: no row of this sort -/
def zlenI (k i : Nat) : Nat := match k with
  | 20 => 40
  | 21 => 40
  | 22 => 40
  | 23 => match i with
    | 0 => 480
    | _ => 80
  | 24 => 81
  | 30 => 3
  | 31 => 745
  | 32 => 745
  | 33 => 745
  | 34 => 8940
  | 37 => 80
  | 38 => 80
  | 39 => 6561
  | 40 => 6561
  | _ => 0
def zlenB (k : Nat) : Nat := match k with
  | 27 => 400
  | 35 => 400
  | 36 => 400
  | _ => 0
def zrows (k i t : Nat) : Option (Nat × Nat × Nat) := match k with
  | 25 => some (6, 12, 6 * i + t)
  | 26 => some (12, 13, 2 + t)
  | _ => none
/-- the words of the text, by their numbers: their signs -/
def zstr (k : Nat) : List Int32 := match k with
  | 0 => [116, 105, 101, 114]
  | 1 => [102, 114, 101, 101]
  | 2 => [99, 117, 116]
  | 3 => [105, 110]
  | 4 => [112, 111, 105, 110, 116, 115]
  | 5 => [109, 97, 114, 107]
  | 6 => [112, 111, 105, 110, 116]
  | 7 => [115, 112, 108, 105, 116]
  | 8 => [108, 97, 98, 101, 108]
  | _ => []
def zcI (r : zRes) (k : Int32 → zSt → zRes) : zRes := match r with
  | some (.inl (some (.inl x)), σ) => k x σ
  | some (.inr e, σ) => some (.inr e, σ)
  | _ => none
def zcV (r : zRes) (k : zSt → zRes) : zRes := match r with
  | some (.inl none, σ) => k σ
  | some (.inr e, σ) => some (.inr e, σ)
  | _ => none
def zcR (r : zRes) (k : Nat → Nat → zSt → zRes) : zRes := match r with
  | some (.inl (some (.inr (.inr (a, b)))), σ) => k a b σ
  | some (.inr e, σ) => some (.inr e, σ)
  | _ => none
def zsw (E : Nat → zRes) (x : Int32) (d : Nat) : Int32 → List Nat → zRes
  | _, [] => E d
  | lo, t :: r => if x = lo then E t else zsw E x d (lo + 1) r
def zcall (Rn : Nat → List zAV → zSt → zRes) (E : zAF → zSt → zRes) (pc : Nat) (ls : List zAV) (a rt : Nat) (args st : List zAV) (σ : zSt) : zRes := match rt with
  | 0 => zcV (Rn a args σ) (fun σ1 => E (pc, ls, st) σ1)
  | 1 => zcI (Rn a args σ) (fun x σ1 => E (pc, ls, zI x :: st) σ1)
  | _ => zcR (Rn a args σ) (fun k i σ1 => E (pc, ls, zR k i :: st) σ1)
def zstat (Rn : Nat → List zAV → zSt → zRes) (E : zAF → zSt → zRes) (pc : Nat) (ls : List zAV) (a b rt : Nat) (st : List zAV) (σ : zSt) : zRes := match zpopn b [] st with
  | some (args, st') => zcall Rn E pc ls a rt args st' σ
  | none => none
def zvirt (Rn : Nat → List zAV → zSt → zRes) (E : zAF → zSt → zRes) (pc : Nat) (ls : List zAV) (a b kd rt : Nat) (st : List zAV) (σ : zSt) : zRes := match zpopn (b + 1) [] st with
  | some (.inr (.inr (k, i)) :: args, st') => bif Nat.beq k kd then zcall Rn E pc ls a rt (.inr (.inr (k, i)) :: args) st' σ else none
  | _ => none
def zjdk (E : zAF → zSt → zRes) (pc : Nat) (ls : List zAV) (a : Nat) (st : List zAV) (σ : zSt) : zRes := match a, st with
  | 1000, .inl y :: .inl x :: st => E (pc, ls, zI (if x < y then y else x) :: st) σ
  | 1001, .inl y :: .inl x :: st => E (pc, ls, zI (if y < x then y else x) :: st) σ
  | 1002, .inl x :: st => E (pc, ls, zI (if 0 ≤ x then x else 0 - x) :: st) σ
  | 1003, .inl n :: .inl dp :: .inr (.inr (k2, i2)) :: .inl sp :: .inr (.inr (k1, i1)) :: st => if ¬ sp < 0 ∧ ¬ dp < 0 ∧ ¬ n < 0 ∧ sp.toNatClampNeg + n.toNatClampNeg ≤ zlenI k1 i1 ∧ dp.toNatClampNeg + n.toNatClampNeg ≤ zlenI k2 i2 then E (pc, ls, st) (zmr σ.1 k2 i2 (va_cpy (σ.1 k1 i1) (σ.1 k2 i2) sp.toNatClampNeg dp.toNatClampNeg n.toNatClampNeg), σ.2) else none
  | 1010, .inr (.inr (1, k)) :: st => E (pc, ls, zI (Int32.ofNat (zstr k).length) :: st) σ
  | 1011, .inl j :: .inr (.inr (1, k)) :: st => if j < 0 ∨ (zstr k).length ≤ j.toNatClampNeg then none else E (pc, ls, zI ((zstr k).getD j.toNatClampNeg 0) :: st) σ
  | _, _ => none
/-- ONE INSTRUCTION, with the rest of the run (E) and the runs of other methods (Rn) left open -/
def zbody (C : List zEnt) (E : zAF → zSt → zRes) (Rn : Nat → List zAV → zSt → zRes) (f : zAF) (σ : zSt) : zRes :=
  match zlk C f.1 with
  | none => none
  | some (ins, len, a, b, c, ts) =>
    match ins, f.2.2 with
    | .iconst _, st => E (f.1 + len, f.2.1, zI c :: st) σ
    | .bipush _, st => E (f.1 + len, f.2.1, zI c :: st) σ
    | .sipush _, st => E (f.1 + len, f.2.1, zI c :: st) σ
    | .ldc _, st => (match a with
      | 0 => E (f.1 + len, f.2.1, zI c :: st) σ
      | _ => E (f.1 + len, f.2.1, zR 1 b :: st) σ)
    | .ldc_w _, st => E (f.1 + len, f.2.1, zI c :: st) σ
    | .ldc2_w _, st => E (f.1 + len, f.2.1, zL (lN a) :: st) σ
    | .lconst _, st => E (f.1 + len, f.2.1, zL (lN a) :: st) σ
    | .aconst_null, st => E (f.1 + len, f.2.1, zNull :: st) σ
    | .iload _, st => (match zget f.2.1 a with
      | .inl x => E (f.1 + len, f.2.1, .inl x :: st) σ
      | _ => none)
    | .iload_n _, st => (match zget f.2.1 a with
      | .inl x => E (f.1 + len, f.2.1, .inl x :: st) σ
      | _ => none)
    | .lload_n _, st => (match zget f.2.1 a with
      | .inr (.inl x) => E (f.1 + len, f.2.1, .inr (.inl x) :: st) σ
      | _ => none)
    | .aload _, st => (match zget f.2.1 a with
      | .inr (.inr (k + 1, i)) => E (f.1 + len, f.2.1, .inr (.inr (k + 1, i)) :: st) σ
      | .inr (.inr (0, 0)) => E (f.1 + len, f.2.1, .inr (.inr (0, 0)) :: st) σ
      | _ => none)
    | .aload_n _, st => (match zget f.2.1 a with
      | .inr (.inr (k + 1, i)) => E (f.1 + len, f.2.1, .inr (.inr (k + 1, i)) :: st) σ
      | .inr (.inr (0, 0)) => E (f.1 + len, f.2.1, .inr (.inr (0, 0)) :: st) σ
      | _ => none)
    | .istore _, .inl x :: st => E (f.1 + len, zset f.2.1 a (.inl x), st) σ
    | .istore_n _, .inl x :: st => E (f.1 + len, zset f.2.1 a (.inl x), st) σ
    | .lstore_n _, .inr (.inl x) :: st => E (f.1 + len, zset (zset f.2.1 (a + 1) zJunk) a (.inr (.inl x)), st) σ
    | .astore _, .inr (.inr r) :: st => E (f.1 + len, zset f.2.1 a (.inr (.inr r)), st) σ
    | .astore_n _, .inr (.inr r) :: st => E (f.1 + len, zset f.2.1 a (.inr (.inr r)), st) σ
    | .iinc _ _, st => (match zget f.2.1 a with
      | .inl x => E (f.1 + len, zset f.2.1 a (.inl (x + c)), st) σ
      | _ => none)
    | .iadd, .inl y :: .inl x :: st => E (f.1 + len, f.2.1, zI (x + y) :: st) σ
    | .isub, .inl y :: .inl x :: st => E (f.1 + len, f.2.1, zI (x - y) :: st) σ
    | .imul, .inl y :: .inl x :: st => E (f.1 + len, f.2.1, zI (x * y) :: st) σ
    | .idiv, .inl y :: .inl x :: st => if y = 0 then none else E (f.1 + len, f.2.1, zI (x / y) :: st) σ
    | .irem, .inl y :: .inl x :: st => if y = 0 then none else E (f.1 + len, f.2.1, zI (x - x / y * y) :: st) σ
    | .iand, .inl y :: .inl x :: st => E (f.1 + len, f.2.1, zI (x &&& y) :: st) σ
    | .ior, .inl y :: .inl x :: st => E (f.1 + len, f.2.1, zI (x ||| y) :: st) σ
    | .ishl, .inl y :: .inl x :: st => E (f.1 + len, f.2.1, zI (x <<< (y &&& 31)) :: st) σ
    | .ishr, .inl y :: .inl x :: st => E (f.1 + len, f.2.1, zI (x >>> (y &&& 31)) :: st) σ
    | .ladd, .inr (.inl y) :: .inr (.inl x) :: st => E (f.1 + len, f.2.1, zL (x + y) :: st) σ
    | .lmul, .inr (.inl y) :: .inr (.inl x) :: st => E (f.1 + len, f.2.1, zL (x * y) :: st) σ
    | .lcmp, .inr (.inl y) :: .inr (.inl x) :: st => E (f.1 + len, f.2.1, zI (lg_cmp x y) :: st) σ
    | .i2l, .inl x :: st => E (f.1 + len, f.2.1, zL x.toInt64 :: st) σ
    | .i2b, .inl x :: st => E (f.1 + len, f.2.1, zI x.toInt8.toInt32 :: st) σ
    | .dup, .inl x :: st => E (f.1 + len, f.2.1, .inl x :: .inl x :: st) σ
    | .dup, .inr (.inr r) :: st => E (f.1 + len, f.2.1, .inr (.inr r) :: .inr (.inr r) :: st) σ
    | .dup2, .inl y :: .inr (.inr r) :: st => E (f.1 + len, f.2.1, .inl y :: .inr (.inr r) :: .inl y :: .inr (.inr r) :: st) σ
    | .pop, .inl _ :: st => E (f.1 + len, f.2.1, st) σ
    | .goto _, st => E (a, f.2.1, st) σ
    | .if_icmp .eq _, .inl y :: .inl x :: st => if x = y then E (a, f.2.1, st) σ else E (f.1 + len, f.2.1, st) σ
    | .if_icmp .ne _, .inl y :: .inl x :: st => if x = y then E (f.1 + len, f.2.1, st) σ else E (a, f.2.1, st) σ
    | .if_icmp .lt _, .inl y :: .inl x :: st => if x < y then E (a, f.2.1, st) σ else E (f.1 + len, f.2.1, st) σ
    | .if_icmp .ge _, .inl y :: .inl x :: st => if x < y then E (f.1 + len, f.2.1, st) σ else E (a, f.2.1, st) σ
    | .if_icmp .gt _, .inl y :: .inl x :: st => if y < x then E (a, f.2.1, st) σ else E (f.1 + len, f.2.1, st) σ
    | .if_icmp .le _, .inl y :: .inl x :: st => if y < x then E (f.1 + len, f.2.1, st) σ else E (a, f.2.1, st) σ
    | .ifCond .eq _, .inl x :: st => if x = 0 then E (a, f.2.1, st) σ else E (f.1 + len, f.2.1, st) σ
    | .ifCond .ne _, .inl x :: st => if x = 0 then E (f.1 + len, f.2.1, st) σ else E (a, f.2.1, st) σ
    | .ifCond .lt _, .inl x :: st => if x < 0 then E (a, f.2.1, st) σ else E (f.1 + len, f.2.1, st) σ
    | .ifCond .ge _, .inl x :: st => if x < 0 then E (f.1 + len, f.2.1, st) σ else E (a, f.2.1, st) σ
    | .ifCond .gt _, .inl x :: st => if 0 < x then E (a, f.2.1, st) σ else E (f.1 + len, f.2.1, st) σ
    | .ifCond .le _, .inl x :: st => if 0 < x then E (f.1 + len, f.2.1, st) σ else E (a, f.2.1, st) σ
    | .ifnonnull _, .inr (.inr (0, 0)) :: st => E (f.1 + len, f.2.1, st) σ
    | .ifnonnull _, .inr (.inr (_ + 1, _)) :: st => E (a, f.2.1, st) σ
    | .tableswitch _ _ _ _, .inl x :: st => zsw (fun t => E (t, f.2.1, st) σ) x a c ts
    | .getfield _, .inr (.inr (k, i)) :: st => bif Nat.beq k (10 + a) then (match zrf a b i with
      | some (k2, i2) => E (f.1 + len, f.2.1, zR k2 i2 :: st) σ
      | none => E (f.1 + len, f.2.1, zI (σ.1 k i b) :: st) σ) else none
    | .putfield _, .inl v :: .inr (.inr (k, i)) :: st => bif Nat.beq k (10 + a) then (match zrf a b i with
      | some _ => none
      | none => E (f.1 + len, f.2.1, st) (zms σ.1 k i b v, σ.2)) else none
    | .iaload, .inl j :: .inr (.inr (k, i)) :: st => if j < 0 ∨ zlenI k i ≤ j.toNatClampNeg then none else E (f.1 + len, f.2.1, zI (σ.1 k i j.toNatClampNeg) :: st) σ
    | .baload, .inl j :: .inr (.inr (k, i)) :: st => if j < 0 ∨ zlenB k ≤ j.toNatClampNeg then none else E (f.1 + len, f.2.1, zI (σ.1 k i j.toNatClampNeg) :: st) σ
    | .iastore, .inl v :: .inl j :: .inr (.inr (k, i)) :: st => if j < 0 ∨ zlenI k i ≤ j.toNatClampNeg then none else E (f.1 + len, f.2.1, st) (zms σ.1 k i j.toNatClampNeg v, σ.2)
    | .bastore, .inl v :: .inl j :: .inr (.inr (k, i)) :: st => if j < 0 ∨ zlenB k ≤ j.toNatClampNeg then none else E (f.1 + len, f.2.1, st) (zms σ.1 k i j.toNatClampNeg v.toInt8.toInt32, σ.2)
    | .aaload, .inl j :: .inr (.inr (k, i)) :: st => (match zrows k i j.toNatClampNeg with
      | some (n, k2, i2) => if j < 0 ∨ n ≤ j.toNatClampNeg then none else E (f.1 + len, f.2.1, zR k2 i2 :: st) σ
      | none => none)
    | .arraylength, .inr (.inr (k, i)) :: st => if zlenI k i = 0 then none else E (f.1 + len, f.2.1, zI (Int32.ofNat (zlenI k i)) :: st) σ
    | .ireturn, [.inl x] => some (.inl (some (.inl x)), σ)
    | .lreturn, [.inr (.inl x)] => some (.inl (some (.inr (.inl x))), σ)
    | .areturn, [.inr (.inr (k + 1, i))] => some (.inl (some (.inr (.inr (k + 1, i)))), σ)
    | .areturn, [.inr (.inr (0, 0))] => some (.inl (some (.inr (.inr (0, 0)))), σ)
    | .return_, [] => some (.inl none, σ)
    | .new _, _ => some (.inr a, (σ.1, σ.2.1, σ.2.2 + 1))
    | .invokestatic _, st => bif Nat.ble 1000 a then zjdk E (f.1 + len) f.2.1 a st σ else zstat Rn E (f.1 + len) f.2.1 a b (ts.headD 0) st σ
    | .invokevirtual _, st => bif Nat.ble 1000 a then zjdk E (f.1 + len) f.2.1 a st σ else zvirt Rn E (f.1 + len) f.2.1 a b (ts.getD 1 0) (ts.headD 0) st σ
    | _, _ => none
def zpad (l : List zAV) (n : Nat) : List zAV := l ++ List.replicate (n - l.length) zJunk
/-- runs with a bound on the steps: of a stretch of code, of a method -/
def zex (P : Nat → List zEnt × Nat) : Nat → (List zEnt → zAF → zSt → zRes) × (Nat → List zAV → zSt → zRes)
  | 0 => (fun _ _ _ => none, fun _ _ _ => none)
  | n + 1 => (fun C f σ => zbody C ((zex P n).1 C) ((zex P n).2) f σ, fun j args σ => (zex P n).1 (P j).1 (0, zpad args (P j).2, []) σ)
end
section
/-! the runs' limit: what a run comes to with steps enough -/
theorem zcI_cont {r : zRes} {rs : Nat → zRes} {k : Int32 → zSt → zRes} {ks : Nat → Int32 → zSt → zRes} (hr : ∀ o, r = some o → ∃ n, ∀ m, n ≤ m → rs m = some o) (hk : ∀ x σ o, k x σ = some o → ∃ n, ∀ m, n ≤ m → ks m x σ = some o) (o : zOut × zSt) (h : zcI r k = some o) : ∃ n, ∀ m, n ≤ m → zcI (rs m) (ks m) = some o := by
  unfold zcI at h
  split at h
  · obtain ⟨n1, h1⟩ := hr _ rfl
    obtain ⟨n2, h2⟩ := hk _ _ _ h
    exact ⟨max n1 n2, fun m hm => by rw [h1 m (by omega)]; exact h2 m (by omega)⟩
  · obtain ⟨n1, h1⟩ := hr _ rfl
    exact ⟨n1, fun m hm => by rw [h1 m hm]; exact h⟩
  · cases h
theorem zcV_cont {r : zRes} {rs : Nat → zRes} {k : zSt → zRes} {ks : Nat → zSt → zRes} (hr : ∀ o, r = some o → ∃ n, ∀ m, n ≤ m → rs m = some o) (hk : ∀ σ o, k σ = some o → ∃ n, ∀ m, n ≤ m → ks m σ = some o) (o : zOut × zSt) (h : zcV r k = some o) : ∃ n, ∀ m, n ≤ m → zcV (rs m) (ks m) = some o := by
  unfold zcV at h
  split at h
  · obtain ⟨n1, h1⟩ := hr _ rfl
    obtain ⟨n2, h2⟩ := hk _ _ h
    exact ⟨max n1 n2, fun m hm => by rw [h1 m (by omega)]; exact h2 m (by omega)⟩
  · obtain ⟨n1, h1⟩ := hr _ rfl
    exact ⟨n1, fun m hm => by rw [h1 m hm]; exact h⟩
  · cases h
theorem zcR_cont {r : zRes} {rs : Nat → zRes} {k : Nat → Nat → zSt → zRes} {ks : Nat → Nat → Nat → zSt → zRes} (hr : ∀ o, r = some o → ∃ n, ∀ m, n ≤ m → rs m = some o) (hk : ∀ x y σ o, k x y σ = some o → ∃ n, ∀ m, n ≤ m → ks m x y σ = some o) (o : zOut × zSt) (h : zcR r k = some o) : ∃ n, ∀ m, n ≤ m → zcR (rs m) (ks m) = some o := by
  unfold zcR at h
  split at h
  · obtain ⟨n1, h1⟩ := hr _ rfl
    obtain ⟨n2, h2⟩ := hk _ _ _ _ h
    exact ⟨max n1 n2, fun m hm => by rw [h1 m (by omega)]; exact h2 m (by omega)⟩
  · obtain ⟨n1, h1⟩ := hr _ rfl
    exact ⟨n1, fun m hm => by rw [h1 m hm]; exact h⟩
  · cases h
theorem zsw_cont {E : Nat → zRes} {Es : Nat → Nat → zRes} (hE : ∀ t o, E t = some o → ∃ n, ∀ m, n ≤ m → Es m t = some o) (x : Int32) (d : Nat) (o : zOut × zSt) : ∀ (ts : List Nat) (lo : Int32), zsw E x d lo ts = some o → ∃ n, ∀ m, n ≤ m → zsw (Es m) x d lo ts = some o := by
  intro ts
  induction ts with
  | nil => intro lo h; exact hE _ _ h
  | cons t r ih =>
    intro lo h
    unfold zsw at h
    by_cases hx : x = lo
    · rw [if_pos hx] at h
      obtain ⟨n, hn⟩ := hE _ _ h
      exact ⟨n, fun m hm => by unfold zsw; rw [if_pos hx]; exact hn m hm⟩
    · rw [if_neg hx] at h
      obtain ⟨n, hn⟩ := ih _ h
      exact ⟨n, fun m hm => by unfold zsw; rw [if_neg hx]; exact hn m hm⟩
section ZC
variable {C : List zEnt} {E : zAF → zSt → zRes} {Es : Nat → zAF → zSt → zRes} {Rn : Nat → List zAV → zSt → zRes} {Rs : Nat → Nat → List zAV → zSt → zRes}
theorem zcall_cont (hE : ∀ f σ o, E f σ = some o → ∃ n, ∀ m, n ≤ m → Es m f σ = some o) (hR : ∀ j a σ o, Rn j a σ = some o → ∃ n, ∀ m, n ≤ m → Rs m j a σ = some o) {pc : Nat} {ls : List zAV} {a rt : Nat} {args st : List zAV} {σ : zSt} (o : zOut × zSt) (h : zcall Rn E pc ls a rt args st σ = some o) : ∃ n, ∀ m, n ≤ m → zcall (Rs m) (Es m) pc ls a rt args st σ = some o := by
  unfold zcall at h ⊢
  split at h
  · exact zcV_cont (rs := fun m => Rs m a args σ) (ks := fun m σ1 => Es m (pc, ls, st) σ1) (hR a args σ) (fun σ1 o h => hE _ _ _ h) o h
  · exact zcI_cont (rs := fun m => Rs m a args σ) (ks := fun m x σ1 => Es m (pc, ls, zI x :: st) σ1) (hR a args σ) (fun x σ1 o h => hE _ _ _ h) o h
  · exact zcR_cont (rs := fun m => Rs m a args σ) (ks := fun m k i σ1 => Es m (pc, ls, zR k i :: st) σ1) (hR a args σ) (fun k i σ1 o h => hE _ _ _ h) o h
theorem zstat_cont (hE : ∀ f σ o, E f σ = some o → ∃ n, ∀ m, n ≤ m → Es m f σ = some o) (hR : ∀ j a σ o, Rn j a σ = some o → ∃ n, ∀ m, n ≤ m → Rs m j a σ = some o) {pc : Nat} {ls : List zAV} {a b rt : Nat} {st : List zAV} {σ : zSt} (o : zOut × zSt) (h : zstat Rn E pc ls a b rt st σ = some o) : ∃ n, ∀ m, n ≤ m → zstat (Rs m) (Es m) pc ls a b rt st σ = some o := by
  unfold zstat at h ⊢
  split at h
  · exact zcall_cont hE hR o h
  · cases h
theorem zvirt_cont (hE : ∀ f σ o, E f σ = some o → ∃ n, ∀ m, n ≤ m → Es m f σ = some o) (hR : ∀ j a σ o, Rn j a σ = some o → ∃ n, ∀ m, n ≤ m → Rs m j a σ = some o) {pc : Nat} {ls : List zAV} {a b kd rt : Nat} {st : List zAV} {σ : zSt} (o : zOut × zSt) (h : zvirt Rn E pc ls a b kd rt st σ = some o) : ∃ n, ∀ m, n ≤ m → zvirt (Rs m) (Es m) pc ls a b kd rt st σ = some o := by
  unfold zvirt at h ⊢
  split at h
  · rename_i k i args st' heq
    cases hb : Nat.beq k kd with
    | true =>
      rw [hb] at h
      obtain ⟨n, hn⟩ := zcall_cont hE hR o h
      refine ⟨n, fun m hm => ?_⟩
      rw [← hn m hm]
      rfl
    | false => rw [hb] at h; cases h
  · cases h
theorem zjdk_cont (hE : ∀ f σ o, E f σ = some o → ∃ n, ∀ m, n ≤ m → Es m f σ = some o) {pc : Nat} {ls : List zAV} {a : Nat} {st : List zAV} {σ : zSt} (o : zOut × zSt) (h : zjdk E pc ls a st σ = some o) : ∃ n, ∀ m, n ≤ m → zjdk (Es m) pc ls a st σ = some o := by
  unfold zjdk at h ⊢
  split at h
  all_goals try (exact hE _ _ _ h)
  all_goals try (cases h; done)
  all_goals
    split at h
    all_goals try (cases h; done)
    rename_i hq
    obtain ⟨n, hn⟩ := hE _ _ _ h
    refine ⟨n, fun m hm => ?_⟩
    first
    | (rw [if_pos hq]; exact hn m hm)
    | (rw [if_neg hq]; exact hn m hm)
theorem zbody_cont (hE : ∀ f σ o, E f σ = some o → ∃ n, ∀ m, n ≤ m → Es m f σ = some o) (hR : ∀ j a σ o, Rn j a σ = some o → ∃ n, ∀ m, n ≤ m → Rs m j a σ = some o) (f : zAF) (σ : zSt) (o : zOut × zSt) (h : zbody C E Rn f σ = some o) : ∃ n, ∀ m, n ≤ m → zbody C (Es m) (Rs m) f σ = some o := by
  obtain ⟨pc, ls, st⟩ := f
  unfold zbody at h ⊢
  simp only at h ⊢
  generalize zlk C pc = q at h ⊢
  rcases q with _ | ⟨ins, len, a, b, c, ts⟩
  · cases h
  · simp only at h ⊢
    split at h
    all_goals try (exact hE _ _ _ h)
    all_goals try (exact ⟨0, fun _ _ => h⟩)
    all_goals try (exact zsw_cont (fun t o h => hE _ _ _ h) _ _ o _ _ h)
    all_goals try (cases h; done)
    all_goals try (
      split at h
      all_goals try (cases h; done)
      all_goals rename_i hq
      all_goals
        obtain ⟨n, hn⟩ := hE _ _ _ h
        refine ⟨n, fun m hm => ?_⟩
        first
        | (rw [if_pos hq]; exact hn m hm)
        | (rw [if_neg hq]; exact hn m hm)
        | (simp only [hq]; exact hn m hm)
      done)
    all_goals try (generalize zget ls a = g at h ⊢; split at h <;> first | exact hE _ _ _ h | (cases h; done))
    all_goals try (rcases a with _ | a <;> exact hE _ _ _ h)
    all_goals try (
      generalize Nat.ble 1000 a = g at h ⊢
      cases g
      · first | exact zstat_cont hE hR o h | exact zvirt_cont hE hR o h
      · exact zjdk_cont hE o h)
    all_goals try (
      rename_i k i _
      generalize Nat.beq k (10 + a) = g at h ⊢
      generalize zrf a b i = r at h ⊢
      cases g
      · cases h
      · cases r <;> first | exact hE _ _ _ h | (cases h; done))
    all_goals try (
      rename_i j k i _
      generalize zrows k i j.toNatClampNeg = r at h ⊢
      rcases r with _ | ⟨n, k2, i2⟩
      · cases h
      · simp only at h ⊢
        split at h
        · cases h
        · rename_i hq
          obtain ⟨n, hn⟩ := hE _ _ _ h
          exact ⟨n, fun m hm => by rw [if_neg hq]; exact hn m hm⟩)
    all_goals done
theorem zbody_mono {E' : zAF → zSt → zRes} {Rn' : Nat → List zAV → zSt → zRes} (hE : ∀ f σ o, E f σ = some o → E' f σ = some o) (hR : ∀ j a σ o, Rn j a σ = some o → Rn' j a σ = some o) (f : zAF) (σ : zSt) (o : zOut × zSt) (h : zbody C E Rn f σ = some o) : zbody C E' Rn' f σ = some o := by
  obtain ⟨n, hn⟩ := zbody_cont (Es := fun _ => E') (Rs := fun _ => Rn') (fun f σ o h => ⟨0, fun _ _ => hE f σ o h⟩) (fun j a σ o h => ⟨0, fun _ _ => hR j a σ o h⟩) f σ o h
  exact hn n (Nat.le_refl n)
end ZC
section ZW
variable {P : Nat → List zEnt × Nat}
theorem zex_mono1 (n : Nat) : (∀ C f σ o, (zex P n).1 C f σ = some o → (zex P (n + 1)).1 C f σ = some o) ∧ ∀ j a σ o, (zex P n).2 j a σ = some o → (zex P (n + 1)).2 j a σ = some o := by
  induction n with
  | zero => exact ⟨fun C f σ o h => (by cases h), fun j a σ o h => (by cases h)⟩
  | succ n ih =>
    exact ⟨fun C f σ o h => zbody_mono (fun f σ o h => ih.1 C f σ o h) ih.2 f σ o h, fun j a σ o h => ih.1 _ _ _ _ h⟩
theorem zex_mono {n m : Nat} (hm : n ≤ m) : (∀ C f σ o, (zex P n).1 C f σ = some o → (zex P m).1 C f σ = some o) ∧ ∀ j a σ o, (zex P n).2 j a σ = some o → (zex P m).2 j a σ = some o := by
  induction hm with
  | refl => exact ⟨fun _ _ _ _ h => h, fun _ _ _ _ h => h⟩
  | step _ ih => exact ⟨fun C f σ o h => (zex_mono1 _).1 C f σ o (ih.1 C f σ o h), fun j a σ o h => (zex_mono1 _).2 j a σ o (ih.2 j a σ o h)⟩
noncomputable def zlim (g : Nat → zRes) : zRes := @dite _ (∃ n, (g n).isSome = true) (Classical.propDecidable _) (fun h => g (Classical.choose h)) (fun _ => none)
theorem zlim_iff {g : Nat → zRes} (hm : ∀ n m o, n ≤ m → g n = some o → g m = some o) (o : zOut × zSt) : zlim g = some o ↔ ∃ n, g n = some o := by
  unfold zlim
  constructor
  · intro h
    split at h
    · exact ⟨_, h⟩
    · cases h
  · rintro ⟨n, hn⟩
    have hex : ∃ n, (g n).isSome = true := ⟨n, by rw [hn]; rfl⟩
    rw [dif_pos hex]
    have h1 := Classical.choose_spec hex
    obtain ⟨o', ho'⟩ := Option.isSome_iff_exists.mp h1
    rw [ho']
    have h2 := hm _ (max n (Classical.choose hex)) o (by omega) hn
    have h3 := hm _ (max n (Classical.choose hex)) o' (by omega) ho'
    exact h3.symm.trans h2
/-- a stretch of code, with steps enough -/
noncomputable def zX (P : Nat → List zEnt × Nat) (C : List zEnt) (f : zAF) (σ : zSt) : zRes := zlim (fun n => (zex P n).1 C f σ)
/-- a method, with steps enough -/
noncomputable def zrun (P : Nat → List zEnt × Nat) (j : Nat) (a : List zAV) (σ : zSt) : zRes := zlim (fun n => (zex P n).2 j a σ)
theorem zX_iff {C : List zEnt} {f : zAF} {σ : zSt} {o : zOut × zSt} : zX P C f σ = some o ↔ ∃ n, (zex P n).1 C f σ = some o := zlim_iff (fun n m o hm h => (zex_mono hm).1 C f σ o h) o
theorem zrun_iff {j : Nat} {a : List zAV} {σ : zSt} {o : zOut × zSt} : zrun P j a σ = some o ↔ ∃ n, (zex P n).2 j a σ = some o := zlim_iff (fun n m o hm h => (zex_mono hm).2 j a σ o h) o
theorem zopt_ext {a b : zRes} (h : ∀ o, a = some o ↔ b = some o) : a = b := by
  cases a with
  | none =>
    cases b with
    | none => rfl
    | some y => exact ((h y).mpr rfl)
  | some x => exact ((h x).mp rfl).symm
/-- ONE STEP -/
theorem zX_eq (C : List zEnt) (f : zAF) (σ : zSt) : zX P C f σ = zbody C (zX P C) (zrun P) f σ := by
  refine zopt_ext fun o => ?_
  rw [zX_iff]
  constructor
  · rintro ⟨n, h⟩
    cases n with
    | zero => cases h
    | succ n => exact zbody_mono (fun f σ o h => zX_iff.mpr ⟨n, h⟩) (fun j a σ o h => zrun_iff.mpr ⟨n, h⟩) f σ o h
  · intro h
    obtain ⟨n, hn⟩ := zbody_cont (Es := fun n => (zex P n).1 C) (Rs := fun n => (zex P n).2) (fun f σ o h => by
      obtain ⟨n, hn⟩ := zX_iff.mp h
      exact ⟨n, fun m hm => (zex_mono hm).1 C f σ o hn⟩) (fun j a σ o h => by
      obtain ⟨n, hn⟩ := zrun_iff.mp h
      exact ⟨n, fun m hm => (zex_mono hm).2 j a σ o hn⟩) f σ o h
    exact ⟨n + 1, hn n (Nat.le_refl n)⟩
theorem zrun_eq (j : Nat) (a : List zAV) (σ : zSt) : zrun P j a σ = zX P (P j).1 (0, zpad a (P j).2, []) σ := by
  refine zopt_ext fun o => ?_
  rw [zrun_iff, zX_iff]
  constructor
  · rintro ⟨n, h⟩
    cases n with
    | zero => cases h
    | succ n => exact ⟨n, h⟩
  · rintro ⟨n, h⟩
    exact ⟨n + 1, h⟩
/-- MANY STEPS, up to the places told in 'lb' -/
noncomputable def zun (P : Nat → List zEnt × Nat) (C : List zEnt) (lb : List Nat) : Nat → zAF → zSt → zRes
  | 0, f, σ => zX P C f σ
  | n + 1, f, σ => zbody C (fun f σ => bif lb.elem f.1 then zX P C f σ else zun P C lb n f σ) (zrun P) f σ
theorem zun_eq (C : List zEnt) (lb : List Nat) (n : Nat) : ∀ f σ, zX P C f σ = zun P C lb n f σ := by
  induction n with
  | zero => intro f σ; rfl
  | succ n ih =>
    intro f σ
    rw [zX_eq]
    show zbody C (zX P C) (zrun P) f σ = zbody C (fun f σ => bif lb.elem f.1 then zX P C f σ else zun P C lb n f σ) (zrun P) f σ
    congr 1
    funext f σ
    cases lb.elem f.1 with
    | true => rfl
    | false => exact ih f σ
end ZW
end
section
/-! the methods' code as tables, written by program out of the printed decode rows -/
def zK_X0_forget : List zEnt := [(0, .aload_n 0, 1, 0, 0, 0, []), (1, .iconst 0, 1, 0, 0, 0, []), (2, .putfield 18, 3, 0, 1, 0, []), (5, .aload_n 0, 1, 0, 0, 0, []), (6, .iconst 0, 1, 0, 0, 0, []), (7, .putfield 22, 3, 0, 2, 0, []), (10, .return_, 1, 0, 0, 0, [])]
def zK_X0_remember : List zEnt := [(0, .aload_n 0, 1, 0, 0, 0, []), (1, .getfield 11, 3, 0, 0, 0, []), (4, .aload_n 0, 1, 0, 0, 0, []), (5, .getfield 18, 3, 0, 1, 0, []), (8, .aaload, 1, 0, 0, 0, []), (9, .aload_n 1, 1, 1, 0, 0, []), (10, .invokevirtual 25, 3, 50, 1, 0, [0, 13]), (13, .aload_n 0, 1, 0, 0, 0, []), (14, .aload_n 0, 1, 0, 0, 0, []), (15, .getfield 18, 3, 0, 1, 0, []), (18, .iconst 1, 1, 0, 0, 1, []), (19, .iadd, 1, 0, 0, 0, []), (20, .bipush 12, 2, 0, 0, 12, []), (22, .if_icmp .ne 7, 3, 29, 0, 0, []), (25, .iconst 0, 1, 0, 0, 0, []), (26, .goto 9, 3, 35, 0, 0, []), (29, .aload_n 0, 1, 0, 0, 0, []), (30, .getfield 18, 3, 0, 1, 0, []), (33, .iconst 1, 1, 0, 0, 1, []), (34, .iadd, 1, 0, 0, 0, []), (35, .putfield 18, 3, 0, 1, 0, []), (38, .aload_n 0, 1, 0, 0, 0, []), (39, .aload_n 0, 1, 0, 0, 0, []), (40, .getfield 22, 3, 0, 2, 0, []), (43, .iconst 1, 1, 0, 0, 1, []), (44, .iadd, 1, 0, 0, 0, []), (45, .bipush 12, 2, 0, 0, 12, []), (47, .invokestatic 29, 3, 1001, 2, 0, []), (50, .putfield 22, 3, 0, 2, 0, []), (53, .return_, 1, 0, 0, 0, [])]
def zK_X0_recall : List zEnt := [(0, .aload_n 0, 1, 0, 0, 0, []), (1, .getfield 22, 3, 0, 2, 0, []), (4, .ifCond .ne 5, 3, 9, 0, 0, []), (7, .iconst 0, 1, 0, 0, 0, []), (8, .ireturn, 1, 0, 0, 0, []), (9, .aload_n 0, 1, 0, 0, 0, []), (10, .aload_n 0, 1, 0, 0, 0, []), (11, .getfield 18, 3, 0, 1, 0, []), (14, .ifCond .ne 8, 3, 22, 0, 0, []), (17, .bipush 11, 2, 0, 0, 11, []), (19, .goto 9, 3, 28, 0, 0, []), (22, .aload_n 0, 1, 0, 0, 0, []), (23, .getfield 18, 3, 0, 1, 0, []), (26, .iconst 1, 1, 0, 0, 1, []), (27, .isub, 1, 0, 0, 0, []), (28, .putfield 18, 3, 0, 1, 0, []), (31, .aload_n 0, 1, 0, 0, 0, []), (32, .dup, 1, 0, 0, 0, []), (33, .getfield 22, 3, 0, 2, 0, []), (36, .iconst 1, 1, 0, 0, 1, []), (37, .isub, 1, 0, 0, 0, []), (38, .putfield 22, 3, 0, 2, 0, []), (41, .aload_n 1, 1, 1, 0, 0, []), (42, .aload_n 0, 1, 0, 0, 0, []), (43, .getfield 11, 3, 0, 0, 0, []), (46, .aload_n 0, 1, 0, 0, 0, []), (47, .getfield 18, 3, 0, 1, 0, []), (50, .aaload, 1, 0, 0, 0, []), (51, .invokevirtual 25, 3, 50, 1, 0, [0, 13]), (54, .iconst 1, 1, 0, 0, 1, []), (55, .ireturn, 1, 0, 0, 0, [])]
def zK_X1_appendNumber : List zEnt := [(0, .bipush 24, 2, 0, 0, 24, []), (2, .istore_n 2, 1, 2, 0, 0, []), (3, .iload_n 2, 1, 2, 0, 0, []), (4, .ifCond .lt 42, 3, 46, 0, 0, []), (7, .aload_n 0, 1, 0, 0, 0, []), (8, .getfield 26, 3, 1, 1, 0, []), (11, .sipush 400, 3, 0, 0, 400, []), (14, .if_icmp .ge 32, 3, 46, 0, 0, []), (17, .aload_n 0, 1, 0, 0, 0, []), (18, .getfield 9, 3, 1, 0, 0, []), (21, .aload_n 0, 1, 0, 0, 0, []), (22, .getfield 26, 3, 1, 1, 0, []), (25, .iload_n 1, 1, 1, 0, 0, []), (26, .iload_n 2, 1, 2, 0, 0, []), (27, .ishr, 1, 0, 0, 0, []), (28, .i2b, 1, 0, 0, 0, []), (29, .bastore, 1, 0, 0, 0, []), (30, .aload_n 0, 1, 0, 0, 0, []), (31, .dup, 1, 0, 0, 0, []), (32, .getfield 26, 3, 1, 1, 0, []), (35, .iconst 1, 1, 0, 0, 1, []), (36, .iadd, 1, 0, 0, 0, []), (37, .putfield 26, 3, 1, 1, 0, []), (40, .iinc 2 (-8), 3, 2, 0, -8, []), (43, .goto (-40), 3, 3, 0, 0, []), (46, .return_, 1, 0, 0, 0, [])]
def zK_X1_readText : List zEnt := [(0, .aload_n 0, 1, 0, 0, 0, []), (1, .iconst 0, 1, 0, 0, 0, []), (2, .iload_n 1, 1, 1, 0, 0, []), (3, .aload_n 0, 1, 0, 0, 0, []), (4, .getfield 26, 3, 1, 1, 0, []), (7, .invokestatic 29, 3, 1001, 2, 0, []), (10, .invokestatic 35, 3, 1000, 2, 0, []), (13, .putfield 38, 3, 1, 5, 0, []), (16, .aload_n 0, 1, 0, 0, 0, []), (17, .iconst 0, 1, 0, 0, 0, []), (18, .putfield 26, 3, 1, 1, 0, []), (21, .aload_n 0, 1, 0, 0, 0, []), (22, .iconst 0, 1, 0, 0, 0, []), (23, .putfield 41, 3, 1, 6, 0, []), (26, .aload_n 0, 1, 0, 0, 0, []), (27, .iconst 0, 1, 0, 0, 0, []), (28, .putfield 44, 3, 1, 3, 0, []), (31, .aload_n 0, 1, 0, 0, 0, []), (32, .iconst (-1), 1, 0, 0, -1, []), (33, .putfield 22, 3, 1, 4, 0, []), (36, .aload_n 0, 1, 0, 0, 0, []), (37, .getfield 18, 3, 1, 2, 0, []), (40, .invokevirtual 47, 3, 49, 0, 0, [0, 13]), (43, .aload_n 0, 1, 0, 0, 0, []), (44, .invokevirtual 50, 3, 6, 0, 0, [0, 11]), (47, .iconst 0, 1, 0, 0, 0, []), (48, .istore_n 2, 1, 2, 0, 0, []), (49, .iload_n 2, 1, 2, 0, 0, []), (50, .sipush 400, 3, 0, 0, 400, []), (53, .if_icmp .ge 65, 3, 118, 0, 0, []), (56, .aload_n 0, 1, 0, 0, 0, []), (57, .getfield 53, 3, 1, 7, 0, []), (60, .iconst 4, 1, 0, 0, 4, []), (61, .if_icmp .eq 57, 3, 118, 0, 0, []), (64, .aload_n 0, 1, 0, 0, 0, []), (65, .ldc 56, 2, 1, 0, 0, []), (67, .invokevirtual 58, 3, 12, 1, 0, [1, 11]), (70, .ifCond .eq 10, 3, 80, 0, 0, []), (73, .aload_n 0, 1, 0, 0, 0, []), (74, .invokevirtual 62, 3, 19, 0, 0, [1, 11]), (77, .goto 7, 3, 84, 0, 0, []), (80, .aload_n 0, 1, 0, 0, 0, []), (81, .invokevirtual 66, 3, 21, 0, 0, [1, 11]), (84, .istore_n 3, 1, 3, 0, 0, []), (85, .iload_n 3, 1, 3, 0, 0, []), (86, .ifCond .ne 5, 3, 91, 0, 0, []), (89, .iconst 0, 1, 0, 0, 0, []), (90, .ireturn, 1, 0, 0, 0, []), (91, .aload_n 0, 1, 0, 0, 0, []), (92, .invokevirtual 69, 3, 11, 0, 0, [1, 11]), (95, .ifCond .ne 13, 3, 108, 0, 0, []), (98, .aload_n 0, 1, 0, 0, 0, []), (99, .iconst 1, 1, 0, 0, 1, []), (100, .aload_n 0, 1, 0, 0, 0, []), (101, .getfield 72, 3, 1, 8, 0, []), (104, .invokevirtual 75, 3, 5, 2, 0, [1, 11]), (107, .ireturn, 1, 0, 0, 0, []), (108, .aload_n 0, 1, 0, 0, 0, []), (109, .invokevirtual 50, 3, 6, 0, 0, [0, 11]), (112, .iinc 2 1, 3, 2, 0, 1, []), (115, .goto (-66), 3, 49, 0, 0, []), (118, .iconst 1, 1, 0, 0, 1, []), (119, .ireturn, 1, 0, 0, 0, [])]
def zK_X1_fail : List zEnt := [(0, .aload_n 0, 1, 0, 0, 0, []), (1, .iload_n 1, 1, 1, 0, 0, []), (2, .putfield 44, 3, 1, 3, 0, []), (5, .aload_n 0, 1, 0, 0, 0, []), (6, .iload_n 2, 1, 2, 0, 0, []), (7, .putfield 22, 3, 1, 4, 0, []), (10, .iconst 0, 1, 0, 0, 0, []), (11, .ireturn, 1, 0, 0, 0, [])]
def zK_X1_advance : List zEnt := [(0, .aload_n 0, 1, 0, 0, 0, []), (1, .getfield 41, 3, 1, 6, 0, []), (4, .aload_n 0, 1, 0, 0, 0, []), (5, .getfield 38, 3, 1, 5, 0, []), (8, .if_icmp .ge 30, 3, 38, 0, 0, []), (11, .aload_n 0, 1, 0, 0, 0, []), (12, .getfield 9, 3, 1, 0, 0, []), (15, .aload_n 0, 1, 0, 0, 0, []), (16, .getfield 41, 3, 1, 6, 0, []), (19, .baload, 1, 0, 0, 0, []), (20, .bipush 32, 2, 0, 0, 32, []), (22, .if_icmp .ne 16, 3, 38, 0, 0, []), (25, .aload_n 0, 1, 0, 0, 0, []), (26, .dup, 1, 0, 0, 0, []), (27, .getfield 41, 3, 1, 6, 0, []), (30, .iconst 1, 1, 0, 0, 1, []), (31, .iadd, 1, 0, 0, 0, []), (32, .putfield 41, 3, 1, 6, 0, []), (35, .goto (-35), 3, 0, 0, 0, []), (38, .aload_n 0, 1, 0, 0, 0, []), (39, .aload_n 0, 1, 0, 0, 0, []), (40, .getfield 41, 3, 1, 6, 0, []), (43, .putfield 72, 3, 1, 8, 0, []), (46, .aload_n 0, 1, 0, 0, 0, []), (47, .getfield 41, 3, 1, 6, 0, []), (50, .aload_n 0, 1, 0, 0, 0, []), (51, .getfield 38, 3, 1, 5, 0, []), (54, .if_icmp .lt 11, 3, 65, 0, 0, []), (57, .aload_n 0, 1, 0, 0, 0, []), (58, .iconst 4, 1, 0, 0, 4, []), (59, .putfield 53, 3, 1, 7, 0, []), (62, .goto 62, 3, 124, 0, 0, []), (65, .aload_n 0, 1, 0, 0, 0, []), (66, .getfield 9, 3, 1, 0, 0, []), (69, .aload_n 0, 1, 0, 0, 0, []), (70, .getfield 41, 3, 1, 6, 0, []), (73, .baload, 1, 0, 0, 0, []), (74, .invokestatic 79, 3, 9, 1, 0, [1]), (77, .ifCond .eq 10, 3, 87, 0, 0, []), (80, .aload_n 0, 1, 0, 0, 0, []), (81, .invokevirtual 83, 3, 7, 0, 0, [0, 11]), (84, .goto 40, 3, 124, 0, 0, []), (87, .aload_n 0, 1, 0, 0, 0, []), (88, .getfield 9, 3, 1, 0, 0, []), (91, .aload_n 0, 1, 0, 0, 0, []), (92, .getfield 41, 3, 1, 6, 0, []), (95, .baload, 1, 0, 0, 0, []), (96, .invokestatic 86, 3, 10, 1, 0, [1]), (99, .ifCond .eq 10, 3, 109, 0, 0, []), (102, .aload_n 0, 1, 0, 0, 0, []), (103, .invokevirtual 89, 3, 8, 0, 0, [0, 11]), (106, .goto 18, 3, 124, 0, 0, []), (109, .aload_n 0, 1, 0, 0, 0, []), (110, .iconst 3, 1, 0, 0, 3, []), (111, .putfield 53, 3, 1, 7, 0, []), (114, .aload_n 0, 1, 0, 0, 0, []), (115, .dup, 1, 0, 0, 0, []), (116, .getfield 41, 3, 1, 6, 0, []), (119, .iconst 1, 1, 0, 0, 1, []), (120, .iadd, 1, 0, 0, 0, []), (121, .putfield 41, 3, 1, 6, 0, []), (124, .return_, 1, 0, 0, 0, [])]
def zK_X1_scanWord : List zEnt := [(0, .aload_n 0, 1, 0, 0, 0, []), (1, .iconst 1, 1, 0, 0, 1, []), (2, .putfield 53, 3, 1, 7, 0, []), (5, .aload_n 0, 1, 0, 0, 0, []), (6, .iconst 0, 1, 0, 0, 0, []), (7, .putfield 92, 3, 1, 10, 0, []), (10, .aload_n 0, 1, 0, 0, 0, []), (11, .getfield 41, 3, 1, 6, 0, []), (14, .aload_n 0, 1, 0, 0, 0, []), (15, .getfield 38, 3, 1, 5, 0, []), (18, .if_icmp .ge 70, 3, 88, 0, 0, []), (21, .aload_n 0, 1, 0, 0, 0, []), (22, .getfield 9, 3, 1, 0, 0, []), (25, .aload_n 0, 1, 0, 0, 0, []), (26, .getfield 41, 3, 1, 6, 0, []), (29, .baload, 1, 0, 0, 0, []), (30, .invokestatic 79, 3, 9, 1, 0, [1]), (33, .ifCond .eq 55, 3, 88, 0, 0, []), (36, .aload_n 0, 1, 0, 0, 0, []), (37, .getfield 41, 3, 1, 6, 0, []), (40, .aload_n 0, 1, 0, 0, 0, []), (41, .getfield 72, 3, 1, 8, 0, []), (44, .isub, 1, 0, 0, 0, []), (45, .bipush 6, 2, 0, 0, 6, []), (47, .if_icmp .ge 28, 3, 75, 0, 0, []), (50, .aload_n 0, 1, 0, 0, 0, []), (51, .aload_n 0, 1, 0, 0, 0, []), (52, .getfield 92, 3, 1, 10, 0, []), (55, .iconst 5, 1, 0, 0, 5, []), (56, .ishl, 1, 0, 0, 0, []), (57, .aload_n 0, 1, 0, 0, 0, []), (58, .getfield 9, 3, 1, 0, 0, []), (61, .aload_n 0, 1, 0, 0, 0, []), (62, .getfield 41, 3, 1, 6, 0, []), (65, .baload, 1, 0, 0, 0, []), (66, .bipush 97, 2, 0, 0, 97, []), (68, .isub, 1, 0, 0, 0, []), (69, .iconst 1, 1, 0, 0, 1, []), (70, .iadd, 1, 0, 0, 0, []), (71, .ior, 1, 0, 0, 0, []), (72, .putfield 92, 3, 1, 10, 0, []), (75, .aload_n 0, 1, 0, 0, 0, []), (76, .dup, 1, 0, 0, 0, []), (77, .getfield 41, 3, 1, 6, 0, []), (80, .iconst 1, 1, 0, 0, 1, []), (81, .iadd, 1, 0, 0, 0, []), (82, .putfield 41, 3, 1, 6, 0, []), (85, .goto (-75), 3, 10, 0, 0, []), (88, .aload_n 0, 1, 0, 0, 0, []), (89, .aload_n 0, 1, 0, 0, 0, []), (90, .getfield 41, 3, 1, 6, 0, []), (93, .aload_n 0, 1, 0, 0, 0, []), (94, .getfield 72, 3, 1, 8, 0, []), (97, .isub, 1, 0, 0, 0, []), (98, .putfield 95, 3, 1, 9, 0, []), (101, .return_, 1, 0, 0, 0, [])]
def zK_X1_scanNumber : List zEnt := [(0, .aload_n 0, 1, 0, 0, 0, []), (1, .iconst 2, 1, 0, 0, 2, []), (2, .putfield 53, 3, 1, 7, 0, []), (5, .aload_n 0, 1, 0, 0, 0, []), (6, .iconst 0, 1, 0, 0, 0, []), (7, .putfield 98, 3, 1, 11, 0, []), (10, .aload_n 0, 1, 0, 0, 0, []), (11, .getfield 41, 3, 1, 6, 0, []), (14, .aload_n 0, 1, 0, 0, 0, []), (15, .getfield 38, 3, 1, 5, 0, []), (18, .if_icmp .ge 61, 3, 79, 0, 0, []), (21, .aload_n 0, 1, 0, 0, 0, []), (22, .getfield 9, 3, 1, 0, 0, []), (25, .aload_n 0, 1, 0, 0, 0, []), (26, .getfield 41, 3, 1, 6, 0, []), (29, .baload, 1, 0, 0, 0, []), (30, .invokestatic 86, 3, 10, 1, 0, [1]), (33, .ifCond .eq 46, 3, 79, 0, 0, []), (36, .aload_n 0, 1, 0, 0, 0, []), (37, .aload_n 0, 1, 0, 0, 0, []), (38, .getfield 98, 3, 1, 11, 0, []), (41, .bipush 10, 2, 0, 0, 10, []), (43, .imul, 1, 0, 0, 0, []), (44, .aload_n 0, 1, 0, 0, 0, []), (45, .getfield 9, 3, 1, 0, 0, []), (48, .aload_n 0, 1, 0, 0, 0, []), (49, .getfield 41, 3, 1, 6, 0, []), (52, .baload, 1, 0, 0, 0, []), (53, .iadd, 1, 0, 0, 0, []), (54, .bipush 48, 2, 0, 0, 48, []), (56, .isub, 1, 0, 0, 0, []), (57, .sipush 1000, 3, 0, 0, 1000, []), (60, .invokestatic 29, 3, 1001, 2, 0, []), (63, .putfield 98, 3, 1, 11, 0, []), (66, .aload_n 0, 1, 0, 0, 0, []), (67, .dup, 1, 0, 0, 0, []), (68, .getfield 41, 3, 1, 6, 0, []), (71, .iconst 1, 1, 0, 0, 1, []), (72, .iadd, 1, 0, 0, 0, []), (73, .putfield 41, 3, 1, 6, 0, []), (76, .goto (-66), 3, 10, 0, 0, []), (79, .return_, 1, 0, 0, 0, [])]
def zK_X1_isLetter : List zEnt := [(0, .iload_n 0, 1, 0, 0, 0, []), (1, .bipush 97, 2, 0, 0, 97, []), (3, .if_icmp .lt 13, 3, 16, 0, 0, []), (6, .iload_n 0, 1, 0, 0, 0, []), (7, .bipush 122, 2, 0, 0, 122, []), (9, .if_icmp .gt 7, 3, 16, 0, 0, []), (12, .iconst 1, 1, 0, 0, 1, []), (13, .goto 4, 3, 17, 0, 0, []), (16, .iconst 0, 1, 0, 0, 0, []), (17, .ireturn, 1, 0, 0, 0, [])]
def zK_X1_isDigit : List zEnt := [(0, .iload_n 0, 1, 0, 0, 0, []), (1, .bipush 48, 2, 0, 0, 48, []), (3, .if_icmp .lt 13, 3, 16, 0, 0, []), (6, .iload_n 0, 1, 0, 0, 0, []), (7, .bipush 57, 2, 0, 0, 57, []), (9, .if_icmp .gt 7, 3, 16, 0, 0, []), (12, .iconst 1, 1, 0, 0, 1, []), (13, .goto 4, 3, 17, 0, 0, []), (16, .iconst 0, 1, 0, 0, 0, []), (17, .ireturn, 1, 0, 0, 0, [])]
def zK_X1_isSemicolon : List zEnt := [(0, .aload_n 0, 1, 0, 0, 0, []), (1, .getfield 53, 3, 1, 7, 0, []), (4, .iconst 3, 1, 0, 0, 3, []), (5, .if_icmp .ne 32, 3, 37, 0, 0, []), (8, .aload_n 0, 1, 0, 0, 0, []), (9, .getfield 72, 3, 1, 8, 0, []), (12, .aload_n 0, 1, 0, 0, 0, []), (13, .getfield 38, 3, 1, 5, 0, []), (16, .if_icmp .ge 21, 3, 37, 0, 0, []), (19, .aload_n 0, 1, 0, 0, 0, []), (20, .getfield 9, 3, 1, 0, 0, []), (23, .aload_n 0, 1, 0, 0, 0, []), (24, .getfield 72, 3, 1, 8, 0, []), (27, .baload, 1, 0, 0, 0, []), (28, .bipush 59, 2, 0, 0, 59, []), (30, .if_icmp .ne 7, 3, 37, 0, 0, []), (33, .iconst 1, 1, 0, 0, 1, []), (34, .goto 4, 3, 38, 0, 0, []), (37, .iconst 0, 1, 0, 0, 0, []), (38, .ireturn, 1, 0, 0, 0, [])]
def zK_X1_isWord : List zEnt := [(0, .aload_n 0, 1, 0, 0, 0, []), (1, .getfield 53, 3, 1, 7, 0, []), (4, .iconst 1, 1, 0, 0, 1, []), (5, .if_icmp .ne 14, 3, 19, 0, 0, []), (8, .aload_n 1, 1, 1, 0, 0, []), (9, .invokevirtual 101, 3, 1010, 0, 0, []), (12, .aload_n 0, 1, 0, 0, 0, []), (13, .getfield 95, 3, 1, 9, 0, []), (16, .if_icmp .eq 5, 3, 21, 0, 0, []), (19, .iconst 0, 1, 0, 0, 0, []), (20, .ireturn, 1, 0, 0, 0, []), (21, .iconst 0, 1, 0, 0, 0, []), (22, .istore_n 2, 1, 2, 0, 0, []), (23, .iload_n 2, 1, 2, 0, 0, []), (24, .aload_n 0, 1, 0, 0, 0, []), (25, .getfield 95, 3, 1, 9, 0, []), (28, .if_icmp .ge 30, 3, 58, 0, 0, []), (31, .aload_n 0, 1, 0, 0, 0, []), (32, .getfield 9, 3, 1, 0, 0, []), (35, .aload_n 0, 1, 0, 0, 0, []), (36, .getfield 72, 3, 1, 8, 0, []), (39, .iload_n 2, 1, 2, 0, 0, []), (40, .iadd, 1, 0, 0, 0, []), (41, .baload, 1, 0, 0, 0, []), (42, .aload_n 1, 1, 1, 0, 0, []), (43, .iload_n 2, 1, 2, 0, 0, []), (44, .invokevirtual 107, 3, 1011, 1, 0, []), (47, .if_icmp .eq 5, 3, 52, 0, 0, []), (50, .iconst 0, 1, 0, 0, 0, []), (51, .ireturn, 1, 0, 0, 0, []), (52, .iinc 2 1, 3, 2, 0, 1, []), (55, .goto (-32), 3, 23, 0, 0, []), (58, .iconst 1, 1, 0, 0, 1, []), (59, .ireturn, 1, 0, 0, 0, [])]
def zK_X1_isShortWord : List zEnt := [(0, .aload_n 0, 1, 0, 0, 0, []), (1, .getfield 53, 3, 1, 7, 0, []), (4, .iconst 1, 1, 0, 0, 1, []), (5, .if_icmp .ne 15, 3, 20, 0, 0, []), (8, .aload_n 0, 1, 0, 0, 0, []), (9, .getfield 95, 3, 1, 9, 0, []), (12, .iload_n 1, 1, 1, 0, 0, []), (13, .if_icmp .gt 7, 3, 20, 0, 0, []), (16, .iconst 1, 1, 0, 0, 1, []), (17, .goto 4, 3, 21, 0, 0, []), (20, .iconst 0, 1, 0, 0, 0, []), (21, .ireturn, 1, 0, 0, 0, [])]
def zK_X1_nameThere : List zEnt := [(0, .aload_n 0, 1, 0, 0, 0, []), (1, .getfield 92, 3, 1, 10, 0, []), (4, .iconst 5, 1, 0, 0, 5, []), (5, .iconst 0, 1, 0, 0, 0, []), (6, .bipush 6, 2, 0, 0, 6, []), (8, .aload_n 0, 1, 0, 0, 0, []), (9, .getfield 95, 3, 1, 9, 0, []), (12, .isub, 1, 0, 0, 0, []), (13, .invokestatic 35, 3, 1000, 2, 0, []), (16, .imul, 1, 0, 0, 0, []), (17, .ishl, 1, 0, 0, 0, []), (18, .ireturn, 1, 0, 0, 0, [])]
def zK_X1_tierThere : List zEnt := [(0, .aload_n 0, 1, 0, 0, 0, []), (1, .bipush 6, 2, 0, 0, 6, []), (3, .invokevirtual 111, 3, 13, 1, 0, [1, 11]), (6, .ifCond .ne 15, 3, 21, 0, 0, []), (9, .aload_n 0, 1, 0, 0, 0, []), (10, .iconst 1, 1, 0, 0, 1, []), (11, .aload_n 0, 1, 0, 0, 0, []), (12, .getfield 72, 3, 1, 8, 0, []), (15, .invokevirtual 75, 3, 5, 2, 0, [1, 11]), (18, .pop, 1, 0, 0, 0, []), (19, .iconst (-1), 1, 0, 0, -1, []), (20, .ireturn, 1, 0, 0, 0, []), (21, .aload_n 0, 1, 0, 0, 0, []), (22, .getfield 18, 3, 1, 2, 0, []), (25, .aload_n 0, 1, 0, 0, 0, []), (26, .invokevirtual 114, 3, 14, 0, 0, [1, 11]), (29, .invokevirtual 117, 3, 52, 1, 0, [1, 13]), (32, .istore_n 1, 1, 1, 0, 0, []), (33, .iload_n 1, 1, 1, 0, 0, []), (34, .iconst (-1), 1, 0, 0, -1, []), (35, .if_icmp .ne 13, 3, 48, 0, 0, []), (38, .aload_n 0, 1, 0, 0, 0, []), (39, .iconst 5, 1, 0, 0, 5, []), (40, .aload_n 0, 1, 0, 0, 0, []), (41, .getfield 72, 3, 1, 8, 0, []), (44, .invokevirtual 75, 3, 5, 2, 0, [1, 11]), (47, .pop, 1, 0, 0, 0, []), (48, .iload_n 1, 1, 1, 0, 0, []), (49, .ireturn, 1, 0, 0, 0, [])]
def zK_X1_isTimeThere : List zEnt := [(0, .aload_n 0, 1, 0, 0, 0, []), (1, .getfield 53, 3, 1, 7, 0, []), (4, .iconst 2, 1, 0, 0, 2, []), (5, .if_icmp .eq 13, 3, 18, 0, 0, []), (8, .aload_n 0, 1, 0, 0, 0, []), (9, .iconst 1, 1, 0, 0, 1, []), (10, .aload_n 0, 1, 0, 0, 0, []), (11, .getfield 72, 3, 1, 8, 0, []), (14, .invokevirtual 75, 3, 5, 2, 0, [1, 11]), (17, .ireturn, 1, 0, 0, 0, []), (18, .aload_n 0, 1, 0, 0, 0, []), (19, .getfield 98, 3, 1, 11, 0, []), (22, .sipush 999, 3, 0, 0, 999, []), (25, .if_icmp .le 15, 3, 40, 0, 0, []), (28, .aload_n 0, 1, 0, 0, 0, []), (29, .iconst 2, 1, 0, 0, 2, []), (30, .aload_n 0, 1, 0, 0, 0, []), (31, .getfield 72, 3, 1, 8, 0, []), (34, .invokevirtual 75, 3, 5, 2, 0, [1, 11]), (37, .ifCond .eq 7, 3, 44, 0, 0, []), (40, .iconst 1, 1, 0, 0, 1, []), (41, .goto 4, 3, 45, 0, 0, []), (44, .iconst 0, 1, 0, 0, 0, []), (45, .ireturn, 1, 0, 0, 0, [])]
def zK_X1_kindThere : List zEnt := [(0, .aload_n 0, 1, 0, 0, 0, []), (1, .ldc 121, 2, 1, 1, 0, []), (3, .invokevirtual 58, 3, 12, 1, 0, [1, 11]), (6, .ifCond .eq 7, 3, 13, 0, 0, []), (9, .iconst 0, 1, 0, 0, 0, []), (10, .goto 43, 3, 53, 0, 0, []), (13, .aload_n 0, 1, 0, 0, 0, []), (14, .ldc 123, 2, 1, 2, 0, []), (16, .invokevirtual 58, 3, 12, 1, 0, [1, 11]), (19, .ifCond .eq 7, 3, 26, 0, 0, []), (22, .iconst 1, 1, 0, 0, 1, []), (23, .goto 30, 3, 53, 0, 0, []), (26, .aload_n 0, 1, 0, 0, 0, []), (27, .ldc 125, 2, 1, 3, 0, []), (29, .invokevirtual 58, 3, 12, 1, 0, [1, 11]), (32, .ifCond .eq 7, 3, 39, 0, 0, []), (35, .iconst 2, 1, 0, 0, 2, []), (36, .goto 17, 3, 53, 0, 0, []), (39, .aload_n 0, 1, 0, 0, 0, []), (40, .ldc 127, 2, 1, 4, 0, []), (42, .invokevirtual 58, 3, 12, 1, 0, [1, 11]), (45, .ifCond .eq 7, 3, 52, 0, 0, []), (48, .iconst 3, 1, 0, 0, 3, []), (49, .goto 4, 3, 53, 0, 0, []), (52, .iconst (-1), 1, 0, 0, -1, []), (53, .ireturn, 1, 0, 0, 0, [])]
def zK_X1_verbThere : List zEnt := [(0, .aload_n 0, 1, 0, 0, 0, []), (1, .ldc 129, 2, 1, 5, 0, []), (3, .invokevirtual 58, 3, 12, 1, 0, [1, 11]), (6, .ifCond .eq 7, 3, 13, 0, 0, []), (9, .iconst 1, 1, 0, 0, 1, []), (10, .goto 43, 3, 53, 0, 0, []), (13, .aload_n 0, 1, 0, 0, 0, []), (14, .ldc 131, 2, 1, 6, 0, []), (16, .invokevirtual 58, 3, 12, 1, 0, [1, 11]), (19, .ifCond .eq 7, 3, 26, 0, 0, []), (22, .iconst 2, 1, 0, 0, 2, []), (23, .goto 30, 3, 53, 0, 0, []), (26, .aload_n 0, 1, 0, 0, 0, []), (27, .ldc 133, 2, 1, 7, 0, []), (29, .invokevirtual 58, 3, 12, 1, 0, [1, 11]), (32, .ifCond .eq 7, 3, 39, 0, 0, []), (35, .iconst 3, 1, 0, 0, 3, []), (36, .goto 17, 3, 53, 0, 0, []), (39, .aload_n 0, 1, 0, 0, 0, []), (40, .ldc 135, 2, 1, 8, 0, []), (42, .invokevirtual 58, 3, 12, 1, 0, [1, 11]), (45, .ifCond .eq 7, 3, 52, 0, 0, []), (48, .iconst 4, 1, 0, 0, 4, []), (49, .goto 4, 3, 53, 0, 0, []), (52, .iconst (-1), 1, 0, 0, -1, []), (53, .ireturn, 1, 0, 0, 0, [])]
def zK_X1_readTierLine : List zEnt := [(0, .aload_n 0, 1, 0, 0, 0, []), (1, .getfield 18, 3, 1, 2, 0, []), (4, .getfield 137, 3, 3, 0, 0, []), (7, .bipush 6, 2, 0, 0, 6, []), (9, .if_icmp .lt 13, 3, 22, 0, 0, []), (12, .aload_n 0, 1, 0, 0, 0, []), (13, .iconst 3, 1, 0, 0, 3, []), (14, .aload_n 0, 1, 0, 0, 0, []), (15, .getfield 72, 3, 1, 8, 0, []), (18, .invokevirtual 75, 3, 5, 2, 0, [1, 11]), (21, .ireturn, 1, 0, 0, 0, []), (22, .aload_n 0, 1, 0, 0, 0, []), (23, .invokevirtual 50, 3, 6, 0, 0, [0, 11]), (26, .aload_n 0, 1, 0, 0, 0, []), (27, .bipush 6, 2, 0, 0, 6, []), (29, .invokevirtual 111, 3, 13, 1, 0, [1, 11]), (32, .ifCond .ne 13, 3, 45, 0, 0, []), (35, .aload_n 0, 1, 0, 0, 0, []), (36, .iconst 1, 1, 0, 0, 1, []), (37, .aload_n 0, 1, 0, 0, 0, []), (38, .getfield 72, 3, 1, 8, 0, []), (41, .invokevirtual 75, 3, 5, 2, 0, [1, 11]), (44, .ireturn, 1, 0, 0, 0, []), (45, .aload_n 0, 1, 0, 0, 0, []), (46, .invokevirtual 114, 3, 14, 0, 0, [1, 11]), (49, .istore_n 1, 1, 1, 0, 0, []), (50, .aload_n 0, 1, 0, 0, 0, []), (51, .getfield 18, 3, 1, 2, 0, []), (54, .iload_n 1, 1, 1, 0, 0, []), (55, .invokevirtual 117, 3, 52, 1, 0, [1, 13]), (58, .iconst (-1), 1, 0, 0, -1, []), (59, .if_icmp .eq 13, 3, 72, 0, 0, []), (62, .aload_n 0, 1, 0, 0, 0, []), (63, .iconst 4, 1, 0, 0, 4, []), (64, .aload_n 0, 1, 0, 0, 0, []), (65, .getfield 72, 3, 1, 8, 0, []), (68, .invokevirtual 75, 3, 5, 2, 0, [1, 11]), (71, .ireturn, 1, 0, 0, 0, []), (72, .aload_n 0, 1, 0, 0, 0, []), (73, .invokevirtual 50, 3, 6, 0, 0, [0, 11]), (76, .aload_n 0, 1, 0, 0, 0, []), (77, .invokevirtual 140, 3, 17, 0, 0, [1, 11]), (80, .istore_n 2, 1, 2, 0, 0, []), (81, .iload_n 2, 1, 2, 0, 0, []), (82, .iconst (-1), 1, 0, 0, -1, []), (83, .if_icmp .ne 13, 3, 96, 0, 0, []), (86, .aload_n 0, 1, 0, 0, 0, []), (87, .iconst 1, 1, 0, 0, 1, []), (88, .aload_n 0, 1, 0, 0, 0, []), (89, .getfield 72, 3, 1, 8, 0, []), (92, .invokevirtual 75, 3, 5, 2, 0, [1, 11]), (95, .ireturn, 1, 0, 0, 0, []), (96, .aload_n 0, 1, 0, 0, 0, []), (97, .invokevirtual 50, 3, 6, 0, 0, [0, 11]), (100, .iload_n 2, 1, 2, 0, 0, []), (101, .ifCond .eq 16, 3, 117, 0, 0, []), (104, .iload_n 2, 1, 2, 0, 0, []), (105, .iconst 3, 1, 0, 0, 3, []), (106, .if_icmp .ne 23, 3, 129, 0, 0, []), (109, .aload_n 0, 1, 0, 0, 0, []), (110, .getfield 53, 3, 1, 7, 0, []), (113, .iconst 1, 1, 0, 0, 1, []), (114, .if_icmp .eq 15, 3, 129, 0, 0, []), (117, .aload_n 0, 1, 0, 0, 0, []), (118, .getfield 18, 3, 1, 2, 0, []), (121, .iload_n 1, 1, 1, 0, 0, []), (122, .iload_n 2, 1, 2, 0, 0, []), (123, .iconst (-1), 1, 0, 0, -1, []), (124, .invokevirtual 143, 3, 56, 3, 0, [0, 13]), (127, .iconst 1, 1, 0, 0, 1, []), (128, .ireturn, 1, 0, 0, 0, []), (129, .aload_n 0, 1, 0, 0, 0, []), (130, .iload_n 1, 1, 1, 0, 0, []), (131, .iload_n 2, 1, 2, 0, 0, []), (132, .invokevirtual 147, 3, 20, 2, 0, [1, 11]), (135, .ireturn, 1, 0, 0, 0, [])]
def zK_X1_readParent : List zEnt := [(0, .aload_n 0, 1, 0, 0, 0, []), (1, .invokevirtual 150, 3, 15, 0, 0, [1, 11]), (4, .istore_n 3, 1, 3, 0, 0, []), (5, .iload_n 3, 1, 3, 0, 0, []), (6, .iconst (-1), 1, 0, 0, -1, []), (7, .if_icmp .ne 5, 3, 12, 0, 0, []), (10, .iconst 0, 1, 0, 0, 0, []), (11, .ireturn, 1, 0, 0, 0, []), (12, .aload_n 0, 1, 0, 0, 0, []), (13, .getfield 18, 3, 1, 2, 0, []), (16, .getfield 153, 3, 3, 1, 0, []), (19, .iload_n 3, 1, 3, 0, 0, []), (20, .aaload, 1, 0, 0, 0, []), (21, .getfield 157, 3, 2, 1, 0, []), (24, .iconst 3, 1, 0, 0, 3, []), (25, .if_icmp .ne 13, 3, 38, 0, 0, []), (28, .aload_n 0, 1, 0, 0, 0, []), (29, .iconst 5, 1, 0, 0, 5, []), (30, .aload_n 0, 1, 0, 0, 0, []), (31, .getfield 72, 3, 1, 8, 0, []), (34, .invokevirtual 75, 3, 5, 2, 0, [1, 11]), (37, .ireturn, 1, 0, 0, 0, []), (38, .aload_n 0, 1, 0, 0, 0, []), (39, .getfield 18, 3, 1, 2, 0, []), (42, .iload_n 1, 1, 1, 0, 0, []), (43, .iload_n 2, 1, 2, 0, 0, []), (44, .iload_n 3, 1, 3, 0, 0, []), (45, .invokevirtual 143, 3, 56, 3, 0, [0, 13]), (48, .aload_n 0, 1, 0, 0, 0, []), (49, .invokevirtual 50, 3, 6, 0, 0, [0, 11]), (52, .iconst 1, 1, 0, 0, 1, []), (53, .ireturn, 1, 0, 0, 0, [])]
def zK_X1_readMarkLine : List zEnt := [(0, .aload_n 0, 1, 0, 0, 0, []), (1, .invokevirtual 162, 3, 18, 0, 0, [1, 11]), (4, .istore_n 1, 1, 1, 0, 0, []), (5, .iload_n 1, 1, 1, 0, 0, []), (6, .iconst (-1), 1, 0, 0, -1, []), (7, .if_icmp .ne 13, 3, 20, 0, 0, []), (10, .aload_n 0, 1, 0, 0, 0, []), (11, .iconst 1, 1, 0, 0, 1, []), (12, .aload_n 0, 1, 0, 0, 0, []), (13, .getfield 72, 3, 1, 8, 0, []), (16, .invokevirtual 75, 3, 5, 2, 0, [1, 11]), (19, .ireturn, 1, 0, 0, 0, []), (20, .aload_n 0, 1, 0, 0, 0, []), (21, .invokevirtual 50, 3, 6, 0, 0, [0, 11]), (24, .aload_n 0, 1, 0, 0, 0, []), (25, .invokevirtual 150, 3, 15, 0, 0, [1, 11]), (28, .istore_n 2, 1, 2, 0, 0, []), (29, .aload_n 0, 1, 0, 0, 0, []), (30, .getfield 72, 3, 1, 8, 0, []), (33, .istore_n 3, 1, 3, 0, 0, []), (34, .iload_n 2, 1, 2, 0, 0, []), (35, .iconst (-1), 1, 0, 0, -1, []), (36, .if_icmp .ne 5, 3, 41, 0, 0, []), (39, .iconst 0, 1, 0, 0, 0, []), (40, .ireturn, 1, 0, 0, 0, []), (41, .aload_n 0, 1, 0, 0, 0, []), (42, .invokevirtual 50, 3, 6, 0, 0, [0, 11]), (45, .aload_n 0, 1, 0, 0, 0, []), (46, .invokevirtual 165, 3, 16, 0, 0, [1, 11]), (49, .ifCond .ne 5, 3, 54, 0, 0, []), (52, .iconst 0, 1, 0, 0, 0, []), (53, .ireturn, 1, 0, 0, 0, []), (54, .aload_n 0, 1, 0, 0, 0, []), (55, .getfield 98, 3, 1, 11, 0, []), (58, .istore 4, 2, 4, 0, 0, []), (60, .aload_n 0, 1, 0, 0, 0, []), (61, .getfield 98, 3, 1, 11, 0, []), (64, .istore 5, 2, 5, 0, 0, []), (66, .aload_n 0, 1, 0, 0, 0, []), (67, .invokevirtual 50, 3, 6, 0, 0, [0, 11]), (70, .iload_n 1, 1, 1, 0, 0, []), (71, .iconst 1, 1, 0, 0, 1, []), (72, .if_icmp .ne 39, 3, 111, 0, 0, []), (75, .aload_n 0, 1, 0, 0, 0, []), (76, .invokevirtual 165, 3, 16, 0, 0, [1, 11]), (79, .ifCond .ne 5, 3, 84, 0, 0, []), (82, .iconst 0, 1, 0, 0, 0, []), (83, .ireturn, 1, 0, 0, 0, []), (84, .aload_n 0, 1, 0, 0, 0, []), (85, .getfield 98, 3, 1, 11, 0, []), (88, .istore 5, 2, 5, 0, 0, []), (90, .iload 5, 2, 5, 0, 0, []), (92, .iload 4, 2, 4, 0, 0, []), (94, .if_icmp .gt 13, 3, 107, 0, 0, []), (97, .aload_n 0, 1, 0, 0, 0, []), (98, .iconst 2, 1, 0, 0, 2, []), (99, .aload_n 0, 1, 0, 0, 0, []), (100, .getfield 72, 3, 1, 8, 0, []), (103, .invokevirtual 75, 3, 5, 2, 0, [1, 11]), (106, .ireturn, 1, 0, 0, 0, []), (107, .aload_n 0, 1, 0, 0, 0, []), (108, .invokevirtual 50, 3, 6, 0, 0, [0, 11]), (111, .aload_n 0, 1, 0, 0, 0, []), (112, .iload_n 1, 1, 1, 0, 0, []), (113, .iload_n 2, 1, 2, 0, 0, []), (114, .iload 4, 2, 4, 0, 0, []), (116, .iload 5, 2, 5, 0, 0, []), (118, .invokevirtual 168, 3, 22, 4, 0, [1, 11]), (121, .istore 6, 2, 6, 0, 0, []), (123, .iload 6, 2, 6, 0, 0, []), (125, .ifCond .eq 11, 3, 136, 0, 0, []), (128, .aload_n 0, 1, 0, 0, 0, []), (129, .iload 6, 2, 6, 0, 0, []), (131, .iload_n 3, 1, 3, 0, 0, []), (132, .invokevirtual 75, 3, 5, 2, 0, [1, 11]), (135, .ireturn, 1, 0, 0, 0, []), (136, .aload_n 0, 1, 0, 0, 0, []), (137, .iload_n 1, 1, 1, 0, 0, []), (138, .iload_n 2, 1, 2, 0, 0, []), (139, .aload_n 0, 1, 0, 0, 0, []), (140, .iload_n 1, 1, 1, 0, 0, []), (141, .iload_n 2, 1, 2, 0, 0, []), (142, .iload 4, 2, 4, 0, 0, []), (144, .iload 5, 2, 5, 0, 0, []), (146, .invokevirtual 172, 3, 23, 4, 0, [1, 11]), (149, .invokevirtual 175, 3, 24, 3, 0, [1, 11]), (152, .ireturn, 1, 0, 0, 0, [])]
def zK_X1_faultOf : List zEnt := [(0, .iconst 1, 1, 0, 0, 1, []), (1, .istore 6, 2, 6, 0, 0, []), (3, .iload_n 1, 1, 1, 0, 0, []), (4, .iconst 1, 1, 0, 0, 1, []), (5, .if_icmp .ne 29, 3, 34, 0, 0, []), (8, .aload_n 0, 1, 0, 0, 0, []), (9, .getfield 18, 3, 1, 2, 0, []), (12, .iload_n 2, 1, 2, 0, 0, []), (13, .iload_n 3, 1, 3, 0, 0, []), (14, .iload 4, 2, 4, 0, 0, []), (16, .invokevirtual 179, 3, 63, 3, 0, [1, 13]), (19, .istore 5, 2, 5, 0, 0, []), (21, .aload_n 0, 1, 0, 0, 0, []), (22, .getfield 18, 3, 1, 2, 0, []), (25, .iload_n 2, 1, 2, 0, 0, []), (26, .invokevirtual 182, 3, 64, 1, 0, [1, 13]), (29, .istore 6, 2, 6, 0, 0, []), (31, .goto 98, 3, 129, 0, 0, []), (34, .iload_n 1, 1, 1, 0, 0, []), (35, .iconst 2, 1, 0, 0, 2, []), (36, .if_icmp .ne 39, 3, 75, 0, 0, []), (39, .aload_n 0, 1, 0, 0, 0, []), (40, .getfield 18, 3, 1, 2, 0, []), (43, .iload_n 2, 1, 2, 0, 0, []), (44, .iload_n 3, 1, 3, 0, 0, []), (45, .invokevirtual 185, 3, 66, 2, 0, [1, 13]), (48, .istore 5, 2, 5, 0, 0, []), (50, .aload_n 0, 1, 0, 0, 0, []), (51, .getfield 18, 3, 1, 2, 0, []), (54, .getfield 153, 3, 3, 1, 0, []), (57, .iload_n 2, 1, 2, 0, 0, []), (58, .aaload, 1, 0, 0, 0, []), (59, .invokevirtual 188, 3, 26, 0, 0, [1, 12]), (62, .ifCond .ne 7, 3, 69, 0, 0, []), (65, .iconst 1, 1, 0, 0, 1, []), (66, .goto 4, 3, 70, 0, 0, []), (69, .iconst 0, 1, 0, 0, 0, []), (70, .istore 6, 2, 6, 0, 0, []), (72, .goto 57, 3, 129, 0, 0, []), (75, .iload_n 1, 1, 1, 0, 0, []), (76, .iconst 3, 1, 0, 0, 3, []), (77, .if_icmp .ne 28, 3, 105, 0, 0, []), (80, .aload_n 0, 1, 0, 0, 0, []), (81, .getfield 18, 3, 1, 2, 0, []), (84, .iload_n 2, 1, 2, 0, 0, []), (85, .iload_n 3, 1, 3, 0, 0, []), (86, .invokevirtual 191, 3, 72, 2, 0, [1, 13]), (89, .istore 5, 2, 5, 0, 0, []), (91, .aload_n 0, 1, 0, 0, 0, []), (92, .getfield 18, 3, 1, 2, 0, []), (95, .iload_n 2, 1, 2, 0, 0, []), (96, .iload_n 3, 1, 3, 0, 0, []), (97, .invokevirtual 194, 3, 73, 2, 0, [1, 13]), (100, .istore 6, 2, 6, 0, 0, []), (102, .goto 27, 3, 129, 0, 0, []), (105, .aload_n 0, 1, 0, 0, 0, []), (106, .getfield 18, 3, 1, 2, 0, []), (109, .getfield 153, 3, 3, 1, 0, []), (112, .iload_n 2, 1, 2, 0, 0, []), (113, .aaload, 1, 0, 0, 0, []), (114, .iload_n 3, 1, 3, 0, 0, []), (115, .invokevirtual 197, 3, 40, 1, 0, [1, 12]), (118, .iconst (-1), 1, 0, 0, -1, []), (119, .if_icmp .eq 7, 3, 126, 0, 0, []), (122, .iconst 1, 1, 0, 0, 1, []), (123, .goto 4, 3, 127, 0, 0, []), (126, .iconst 0, 1, 0, 0, 0, []), (127, .istore 5, 2, 5, 0, 0, []), (129, .iload 5, 2, 5, 0, 0, []), (131, .ifCond .ne 8, 3, 139, 0, 0, []), (134, .bipush 6, 2, 0, 0, 6, []), (136, .goto 13, 3, 149, 0, 0, []), (139, .iload 6, 2, 6, 0, 0, []), (141, .ifCond .ne 7, 3, 148, 0, 0, []), (144, .iconst 3, 1, 0, 0, 3, []), (145, .goto 4, 3, 149, 0, 0, []), (148, .iconst 0, 1, 0, 0, 0, []), (149, .ireturn, 1, 0, 0, 0, [])]
def zK_X1_carryOut : List zEnt := [(0, .iload_n 1, 1, 1, 0, 0, []), (1, .iconst 1, 1, 0, 0, 1, []), (2, .if_icmp .ne 15, 3, 17, 0, 0, []), (5, .aload_n 0, 1, 0, 0, 0, []), (6, .getfield 18, 3, 1, 2, 0, []), (9, .iload_n 2, 1, 2, 0, 0, []), (10, .iload_n 3, 1, 3, 0, 0, []), (11, .iload 4, 2, 4, 0, 0, []), (13, .invokevirtual 200, 3, 65, 3, 0, [1, 13]), (16, .ireturn, 1, 0, 0, 0, []), (17, .iload_n 1, 1, 1, 0, 0, []), (18, .iconst 2, 1, 0, 0, 2, []), (19, .if_icmp .ne 19, 3, 38, 0, 0, []), (22, .aload_n 0, 1, 0, 0, 0, []), (23, .getfield 18, 3, 1, 2, 0, []), (26, .getfield 153, 3, 3, 1, 0, []), (29, .iload_n 2, 1, 2, 0, 0, []), (30, .aaload, 1, 0, 0, 0, []), (31, .iload_n 3, 1, 3, 0, 0, []), (32, .iload_n 3, 1, 3, 0, 0, []), (33, .iconst 0, 1, 0, 0, 0, []), (34, .invokevirtual 204, 3, 30, 3, 0, [1, 12]), (37, .ireturn, 1, 0, 0, 0, []), (38, .iload_n 1, 1, 1, 0, 0, []), (39, .iconst 3, 1, 0, 0, 3, []), (40, .if_icmp .ne 13, 3, 53, 0, 0, []), (43, .aload_n 0, 1, 0, 0, 0, []), (44, .getfield 18, 3, 1, 2, 0, []), (47, .iload_n 2, 1, 2, 0, 0, []), (48, .iload_n 3, 1, 3, 0, 0, []), (49, .invokevirtual 207, 3, 74, 2, 0, [1, 13]), (52, .pop, 1, 0, 0, 0, []), (53, .aload_n 0, 1, 0, 0, 0, []), (54, .getfield 18, 3, 1, 2, 0, []), (57, .getfield 153, 3, 3, 1, 0, []), (60, .iload_n 2, 1, 2, 0, 0, []), (61, .aaload, 1, 0, 0, 0, []), (62, .iload_n 3, 1, 3, 0, 0, []), (63, .invokevirtual 197, 3, 40, 1, 0, [1, 12]), (66, .ireturn, 1, 0, 0, 0, [])]
def zK_X1_readLabel : List zEnt := [(0, .aload_n 0, 1, 0, 0, 0, []), (1, .getfield 53, 3, 1, 7, 0, []), (4, .iconst 1, 1, 0, 0, 1, []), (5, .if_icmp .eq 10, 3, 15, 0, 0, []), (8, .iload_n 1, 1, 1, 0, 0, []), (9, .iconst 4, 1, 0, 0, 4, []), (10, .if_icmp .eq 5, 3, 15, 0, 0, []), (13, .iconst 1, 1, 0, 0, 1, []), (14, .ireturn, 1, 0, 0, 0, []), (15, .aload_n 0, 1, 0, 0, 0, []), (16, .iconst 4, 1, 0, 0, 4, []), (17, .invokevirtual 111, 3, 13, 1, 0, [1, 11]), (20, .ifCond .ne 13, 3, 33, 0, 0, []), (23, .aload_n 0, 1, 0, 0, 0, []), (24, .iconst 1, 1, 0, 0, 1, []), (25, .aload_n 0, 1, 0, 0, 0, []), (26, .getfield 72, 3, 1, 8, 0, []), (29, .invokevirtual 75, 3, 5, 2, 0, [1, 11]), (32, .ireturn, 1, 0, 0, 0, []), (33, .aload_n 0, 1, 0, 0, 0, []), (34, .getfield 18, 3, 1, 2, 0, []), (37, .getfield 153, 3, 3, 1, 0, []), (40, .iload_n 2, 1, 2, 0, 0, []), (41, .aaload, 1, 0, 0, 0, []), (42, .iload_n 3, 1, 3, 0, 0, []), (43, .invokevirtual 210, 3, 27, 1, 0, [1, 12]), (46, .ifCond .eq 21, 3, 67, 0, 0, []), (49, .aload_n 0, 1, 0, 0, 0, []), (50, .getfield 18, 3, 1, 2, 0, []), (53, .getfield 153, 3, 3, 1, 0, []), (56, .iload_n 2, 1, 2, 0, 0, []), (57, .aaload, 1, 0, 0, 0, []), (58, .getfield 213, 3, 2, 8, 0, []), (61, .iload_n 3, 1, 3, 0, 0, []), (62, .aload_n 0, 1, 0, 0, 0, []), (63, .getfield 92, 3, 1, 10, 0, []), (66, .iastore, 1, 0, 0, 0, []), (67, .aload_n 0, 1, 0, 0, 0, []), (68, .invokevirtual 50, 3, 6, 0, 0, [0, 11]), (71, .iconst 1, 1, 0, 0, 1, []), (72, .ireturn, 1, 0, 0, 0, [])]
def zK_X2_copyFrom : List zEnt := [(0, .aload_n 0, 1, 0, 0, 0, []), (1, .aload_n 1, 1, 1, 0, 0, []), (2, .getfield 21, 3, 2, 0, 0, []), (5, .putfield 21, 3, 2, 0, 0, []), (8, .aload_n 0, 1, 0, 0, 0, []), (9, .aload_n 1, 1, 1, 0, 0, []), (10, .getfield 25, 3, 2, 1, 0, []), (13, .putfield 25, 3, 2, 1, 0, []), (16, .aload_n 0, 1, 0, 0, 0, []), (17, .aload_n 1, 1, 1, 0, 0, []), (18, .getfield 28, 3, 2, 2, 0, []), (21, .putfield 28, 3, 2, 2, 0, []), (24, .aload_n 0, 1, 0, 0, 0, []), (25, .aload_n 1, 1, 1, 0, 0, []), (26, .getfield 31, 3, 2, 3, 0, []), (29, .putfield 31, 3, 2, 3, 0, []), (32, .aload_n 0, 1, 0, 0, 0, []), (33, .aload_n 1, 1, 1, 0, 0, []), (34, .getfield 34, 3, 2, 4, 0, []), (37, .putfield 34, 3, 2, 4, 0, []), (40, .aload_n 0, 1, 0, 0, 0, []), (41, .aload_n 1, 1, 1, 0, 0, []), (42, .getfield 37, 3, 2, 5, 0, []), (45, .putfield 37, 3, 2, 5, 0, []), (48, .aload_n 1, 1, 1, 0, 0, []), (49, .getfield 9, 3, 2, 6, 0, []), (52, .iconst 0, 1, 0, 0, 0, []), (53, .aload_n 0, 1, 0, 0, 0, []), (54, .getfield 9, 3, 2, 6, 0, []), (57, .iconst 0, 1, 0, 0, 0, []), (58, .bipush 40, 2, 0, 0, 40, []), (60, .invokestatic 40, 3, 1003, 5, 0, []), (63, .aload_n 1, 1, 1, 0, 0, []), (64, .getfield 15, 3, 2, 7, 0, []), (67, .iconst 0, 1, 0, 0, 0, []), (68, .aload_n 0, 1, 0, 0, 0, []), (69, .getfield 15, 3, 2, 7, 0, []), (72, .iconst 0, 1, 0, 0, 0, []), (73, .bipush 40, 2, 0, 0, 40, []), (75, .invokestatic 40, 3, 1003, 5, 0, []), (78, .aload_n 1, 1, 1, 0, 0, []), (79, .getfield 18, 3, 2, 8, 0, []), (82, .iconst 0, 1, 0, 0, 0, []), (83, .aload_n 0, 1, 0, 0, 0, []), (84, .getfield 18, 3, 2, 8, 0, []), (87, .iconst 0, 1, 0, 0, 0, []), (88, .bipush 40, 2, 0, 0, 40, []), (90, .invokestatic 40, 3, 1003, 5, 0, []), (93, .return_, 1, 0, 0, 0, [])]
def zK_X2_isFull : List zEnt := [(0, .aload_n 0, 1, 0, 0, 0, []), (1, .getfield 37, 3, 2, 5, 0, []), (4, .bipush 40, 2, 0, 0, 40, []), (6, .if_icmp .lt 7, 3, 13, 0, 0, []), (9, .iconst 1, 1, 0, 0, 1, []), (10, .goto 4, 3, 14, 0, 0, []), (13, .iconst 0, 1, 0, 0, 0, []), (14, .ireturn, 1, 0, 0, 0, [])]
def zK_X2_hasMark : List zEnt := [(0, .iload_n 1, 1, 1, 0, 0, []), (1, .ifCond .lt 15, 3, 16, 0, 0, []), (4, .iload_n 1, 1, 1, 0, 0, []), (5, .aload_n 0, 1, 0, 0, 0, []), (6, .getfield 37, 3, 2, 5, 0, []), (9, .if_icmp .ge 7, 3, 16, 0, 0, []), (12, .iconst 1, 1, 0, 0, 1, []), (13, .goto 4, 3, 17, 0, 0, []), (16, .iconst 0, 1, 0, 0, 0, []), (17, .ireturn, 1, 0, 0, 0, [])]
def zK_X2_length : List zEnt := [(0, .aload_n 0, 1, 0, 0, 0, []), (1, .getfield 15, 3, 2, 7, 0, []), (4, .iload_n 1, 1, 1, 0, 0, []), (5, .iaload, 1, 0, 0, 0, []), (6, .aload_n 0, 1, 0, 0, 0, []), (7, .getfield 9, 3, 2, 6, 0, []), (10, .iload_n 1, 1, 1, 0, 0, []), (11, .iaload, 1, 0, 0, 0, []), (12, .isub, 1, 0, 0, 0, []), (13, .ireturn, 1, 0, 0, 0, [])]
def zK_X2_wholeLength : List zEnt := [(0, .iconst 0, 1, 0, 0, 0, []), (1, .istore_n 1, 1, 1, 0, 0, []), (2, .iconst 0, 1, 0, 0, 0, []), (3, .istore_n 2, 1, 2, 0, 0, []), (4, .iload_n 2, 1, 2, 0, 0, []), (5, .aload_n 0, 1, 0, 0, 0, []), (6, .getfield 37, 3, 2, 5, 0, []), (9, .if_icmp .ge 17, 3, 26, 0, 0, []), (12, .iload_n 1, 1, 1, 0, 0, []), (13, .aload_n 0, 1, 0, 0, 0, []), (14, .iload_n 2, 1, 2, 0, 0, []), (15, .invokevirtual 46, 3, 28, 1, 0, [1, 12]), (18, .iadd, 1, 0, 0, 0, []), (19, .istore_n 1, 1, 1, 0, 0, []), (20, .iinc 2 1, 3, 2, 0, 1, []), (23, .goto (-19), 3, 4, 0, 0, []), (26, .iload_n 1, 1, 1, 0, 0, []), (27, .ireturn, 1, 0, 0, 0, [])]
def zK_X2_insert : List zEnt := [(0, .aload_n 0, 1, 0, 0, 0, []), (1, .getfield 37, 3, 2, 5, 0, []), (4, .bipush 40, 2, 0, 0, 40, []), (6, .if_icmp .lt 5, 3, 11, 0, 0, []), (9, .iconst (-1), 1, 0, 0, -1, []), (10, .ireturn, 1, 0, 0, 0, []), (11, .aload_n 0, 1, 0, 0, 0, []), (12, .getfield 37, 3, 2, 5, 0, []), (15, .istore 4, 2, 4, 0, 0, []), (17, .iload 4, 2, 4, 0, 0, []), (19, .ifCond .le 70, 3, 89, 0, 0, []), (22, .aload_n 0, 1, 0, 0, 0, []), (23, .getfield 9, 3, 2, 6, 0, []), (26, .iload 4, 2, 4, 0, 0, []), (28, .iconst 1, 1, 0, 0, 1, []), (29, .isub, 1, 0, 0, 0, []), (30, .iaload, 1, 0, 0, 0, []), (31, .iload_n 1, 1, 1, 0, 0, []), (32, .if_icmp .le 57, 3, 89, 0, 0, []), (35, .aload_n 0, 1, 0, 0, 0, []), (36, .getfield 9, 3, 2, 6, 0, []), (39, .iload 4, 2, 4, 0, 0, []), (41, .aload_n 0, 1, 0, 0, 0, []), (42, .getfield 9, 3, 2, 6, 0, []), (45, .iload 4, 2, 4, 0, 0, []), (47, .iconst 1, 1, 0, 0, 1, []), (48, .isub, 1, 0, 0, 0, []), (49, .iaload, 1, 0, 0, 0, []), (50, .iastore, 1, 0, 0, 0, []), (51, .aload_n 0, 1, 0, 0, 0, []), (52, .getfield 15, 3, 2, 7, 0, []), (55, .iload 4, 2, 4, 0, 0, []), (57, .aload_n 0, 1, 0, 0, 0, []), (58, .getfield 15, 3, 2, 7, 0, []), (61, .iload 4, 2, 4, 0, 0, []), (63, .iconst 1, 1, 0, 0, 1, []), (64, .isub, 1, 0, 0, 0, []), (65, .iaload, 1, 0, 0, 0, []), (66, .iastore, 1, 0, 0, 0, []), (67, .aload_n 0, 1, 0, 0, 0, []), (68, .getfield 18, 3, 2, 8, 0, []), (71, .iload 4, 2, 4, 0, 0, []), (73, .aload_n 0, 1, 0, 0, 0, []), (74, .getfield 18, 3, 2, 8, 0, []), (77, .iload 4, 2, 4, 0, 0, []), (79, .iconst 1, 1, 0, 0, 1, []), (80, .isub, 1, 0, 0, 0, []), (81, .iaload, 1, 0, 0, 0, []), (82, .iastore, 1, 0, 0, 0, []), (83, .iinc 4 (-1), 3, 4, 0, -1, []), (86, .goto (-69), 3, 17, 0, 0, []), (89, .aload_n 0, 1, 0, 0, 0, []), (90, .getfield 9, 3, 2, 6, 0, []), (93, .iload 4, 2, 4, 0, 0, []), (95, .iload_n 1, 1, 1, 0, 0, []), (96, .iastore, 1, 0, 0, 0, []), (97, .aload_n 0, 1, 0, 0, 0, []), (98, .getfield 15, 3, 2, 7, 0, []), (101, .iload 4, 2, 4, 0, 0, []), (103, .iload_n 2, 1, 2, 0, 0, []), (104, .iastore, 1, 0, 0, 0, []), (105, .aload_n 0, 1, 0, 0, 0, []), (106, .getfield 18, 3, 2, 8, 0, []), (109, .iload 4, 2, 4, 0, 0, []), (111, .iload_n 3, 1, 3, 0, 0, []), (112, .iastore, 1, 0, 0, 0, []), (113, .aload_n 0, 1, 0, 0, 0, []), (114, .dup, 1, 0, 0, 0, []), (115, .getfield 37, 3, 2, 5, 0, []), (118, .iconst 1, 1, 0, 0, 1, []), (119, .iadd, 1, 0, 0, 0, []), (120, .putfield 37, 3, 2, 5, 0, []), (123, .iload 4, 2, 4, 0, 0, []), (125, .ireturn, 1, 0, 0, 0, [])]
def zK_X2_remove : List zEnt := [(0, .aload_n 0, 1, 0, 0, 0, []), (1, .iload_n 1, 1, 1, 0, 0, []), (2, .invokevirtual 50, 3, 27, 1, 0, [1, 12]), (5, .ifCond .ne 4, 3, 9, 0, 0, []), (8, .return_, 1, 0, 0, 0, []), (9, .iload_n 1, 1, 1, 0, 0, []), (10, .istore_n 2, 1, 2, 0, 0, []), (11, .iload_n 2, 1, 2, 0, 0, []), (12, .iconst 1, 1, 0, 0, 1, []), (13, .iadd, 1, 0, 0, 0, []), (14, .aload_n 0, 1, 0, 0, 0, []), (15, .getfield 37, 3, 2, 5, 0, []), (18, .if_icmp .ge 51, 3, 69, 0, 0, []), (21, .aload_n 0, 1, 0, 0, 0, []), (22, .getfield 9, 3, 2, 6, 0, []), (25, .iload_n 2, 1, 2, 0, 0, []), (26, .aload_n 0, 1, 0, 0, 0, []), (27, .getfield 9, 3, 2, 6, 0, []), (30, .iload_n 2, 1, 2, 0, 0, []), (31, .iconst 1, 1, 0, 0, 1, []), (32, .iadd, 1, 0, 0, 0, []), (33, .iaload, 1, 0, 0, 0, []), (34, .iastore, 1, 0, 0, 0, []), (35, .aload_n 0, 1, 0, 0, 0, []), (36, .getfield 15, 3, 2, 7, 0, []), (39, .iload_n 2, 1, 2, 0, 0, []), (40, .aload_n 0, 1, 0, 0, 0, []), (41, .getfield 15, 3, 2, 7, 0, []), (44, .iload_n 2, 1, 2, 0, 0, []), (45, .iconst 1, 1, 0, 0, 1, []), (46, .iadd, 1, 0, 0, 0, []), (47, .iaload, 1, 0, 0, 0, []), (48, .iastore, 1, 0, 0, 0, []), (49, .aload_n 0, 1, 0, 0, 0, []), (50, .getfield 18, 3, 2, 8, 0, []), (53, .iload_n 2, 1, 2, 0, 0, []), (54, .aload_n 0, 1, 0, 0, 0, []), (55, .getfield 18, 3, 2, 8, 0, []), (58, .iload_n 2, 1, 2, 0, 0, []), (59, .iconst 1, 1, 0, 0, 1, []), (60, .iadd, 1, 0, 0, 0, []), (61, .iaload, 1, 0, 0, 0, []), (62, .iastore, 1, 0, 0, 0, []), (63, .iinc 2 1, 3, 2, 0, 1, []), (66, .goto (-55), 3, 11, 0, 0, []), (69, .aload_n 0, 1, 0, 0, 0, []), (70, .dup, 1, 0, 0, 0, []), (71, .getfield 37, 3, 2, 5, 0, []), (74, .iconst 1, 1, 0, 0, 1, []), (75, .isub, 1, 0, 0, 0, []), (76, .putfield 37, 3, 2, 5, 0, []), (79, .return_, 1, 0, 0, 0, [])]
def zK_X2_removeWithin : List zEnt := [(0, .iconst 0, 1, 0, 0, 0, []), (1, .istore_n 3, 1, 3, 0, 0, []), (2, .aload_n 0, 1, 0, 0, 0, []), (3, .getfield 37, 3, 2, 5, 0, []), (6, .iconst 1, 1, 0, 0, 1, []), (7, .isub, 1, 0, 0, 0, []), (8, .istore 4, 2, 4, 0, 0, []), (10, .iload 4, 2, 4, 0, 0, []), (12, .ifCond .lt 29, 3, 41, 0, 0, []), (15, .aload_n 0, 1, 0, 0, 0, []), (16, .iload 4, 2, 4, 0, 0, []), (18, .iload_n 1, 1, 1, 0, 0, []), (19, .iload_n 2, 1, 2, 0, 0, []), (20, .invokevirtual 54, 3, 35, 3, 0, [1, 12]), (23, .ifCond .eq 12, 3, 35, 0, 0, []), (26, .aload_n 0, 1, 0, 0, 0, []), (27, .iload 4, 2, 4, 0, 0, []), (29, .invokevirtual 58, 3, 31, 1, 0, [0, 12]), (32, .iinc 3 1, 3, 3, 0, 1, []), (35, .iinc 4 (-1), 3, 4, 0, -1, []), (38, .goto (-28), 3, 10, 0, 0, []), (41, .iload_n 3, 1, 3, 0, 0, []), (42, .ireturn, 1, 0, 0, 0, [])]
def zK_X2_cutMark : List zEnt := [(0, .aload_n 0, 1, 0, 0, 0, []), (1, .iload_n 1, 1, 1, 0, 0, []), (2, .invokevirtual 50, 3, 27, 1, 0, [1, 12]), (5, .ifCond .eq 10, 3, 15, 0, 0, []), (8, .aload_n 0, 1, 0, 0, 0, []), (9, .invokevirtual 62, 3, 26, 0, 0, [1, 12]), (12, .ifCond .eq 4, 3, 16, 0, 0, []), (15, .return_, 1, 0, 0, 0, []), (16, .aload_n 0, 1, 0, 0, 0, []), (17, .getfield 15, 3, 2, 7, 0, []), (20, .iload_n 1, 1, 1, 0, 0, []), (21, .iaload, 1, 0, 0, 0, []), (22, .istore_n 3, 1, 3, 0, 0, []), (23, .aload_n 0, 1, 0, 0, 0, []), (24, .getfield 15, 3, 2, 7, 0, []), (27, .iload_n 1, 1, 1, 0, 0, []), (28, .iload_n 2, 1, 2, 0, 0, []), (29, .iastore, 1, 0, 0, 0, []), (30, .aload_n 0, 1, 0, 0, 0, []), (31, .iload_n 2, 1, 2, 0, 0, []), (32, .iload_n 3, 1, 3, 0, 0, []), (33, .aload_n 0, 1, 0, 0, 0, []), (34, .getfield 18, 3, 2, 8, 0, []), (37, .iload_n 1, 1, 1, 0, 0, []), (38, .iaload, 1, 0, 0, 0, []), (39, .invokevirtual 66, 3, 30, 3, 0, [1, 12]), (42, .pop, 1, 0, 0, 0, []), (43, .return_, 1, 0, 0, 0, [])]
def zK_X2_joinNext : List zEnt := [(0, .aload_n 0, 1, 0, 0, 0, []), (1, .iload_n 1, 1, 1, 0, 0, []), (2, .invokevirtual 50, 3, 27, 1, 0, [1, 12]), (5, .ifCond .eq 34, 3, 39, 0, 0, []), (8, .aload_n 0, 1, 0, 0, 0, []), (9, .iload_n 1, 1, 1, 0, 0, []), (10, .iconst 1, 1, 0, 0, 1, []), (11, .iadd, 1, 0, 0, 0, []), (12, .invokevirtual 50, 3, 27, 1, 0, [1, 12]), (15, .ifCond .eq 24, 3, 39, 0, 0, []), (18, .aload_n 0, 1, 0, 0, 0, []), (19, .getfield 15, 3, 2, 7, 0, []), (22, .iload_n 1, 1, 1, 0, 0, []), (23, .aload_n 0, 1, 0, 0, 0, []), (24, .getfield 15, 3, 2, 7, 0, []), (27, .iload_n 1, 1, 1, 0, 0, []), (28, .iconst 1, 1, 0, 0, 1, []), (29, .iadd, 1, 0, 0, 0, []), (30, .iaload, 1, 0, 0, 0, []), (31, .iastore, 1, 0, 0, 0, []), (32, .aload_n 0, 1, 0, 0, 0, []), (33, .iload_n 1, 1, 1, 0, 0, []), (34, .iconst 1, 1, 0, 0, 1, []), (35, .iadd, 1, 0, 0, 0, []), (36, .invokevirtual 58, 3, 31, 1, 0, [0, 12]), (39, .return_, 1, 0, 0, 0, [])]
def zK_X2_liesIn : List zEnt := [(0, .aload_n 0, 1, 0, 0, 0, []), (1, .getfield 9, 3, 2, 6, 0, []), (4, .iload_n 1, 1, 1, 0, 0, []), (5, .iaload, 1, 0, 0, 0, []), (6, .iload_n 2, 1, 2, 0, 0, []), (7, .if_icmp .lt 17, 3, 24, 0, 0, []), (10, .aload_n 0, 1, 0, 0, 0, []), (11, .getfield 15, 3, 2, 7, 0, []), (14, .iload_n 1, 1, 1, 0, 0, []), (15, .iaload, 1, 0, 0, 0, []), (16, .iload_n 3, 1, 3, 0, 0, []), (17, .if_icmp .gt 7, 3, 24, 0, 0, []), (20, .iconst 1, 1, 0, 0, 1, []), (21, .goto 4, 3, 25, 0, 0, []), (24, .iconst 0, 1, 0, 0, 0, []), (25, .ireturn, 1, 0, 0, 0, [])]
def zK_X2_isOver : List zEnt := [(0, .aload_n 0, 1, 0, 0, 0, []), (1, .getfield 25, 3, 2, 1, 0, []), (4, .iconst 3, 1, 0, 0, 3, []), (5, .if_icmp .ne 29, 3, 34, 0, 0, []), (8, .aload_n 0, 1, 0, 0, 0, []), (9, .getfield 9, 3, 2, 6, 0, []), (12, .iload_n 1, 1, 1, 0, 0, []), (13, .iaload, 1, 0, 0, 0, []), (14, .iload_n 2, 1, 2, 0, 0, []), (15, .if_icmp .lt 17, 3, 32, 0, 0, []), (18, .aload_n 0, 1, 0, 0, 0, []), (19, .getfield 9, 3, 2, 6, 0, []), (22, .iload_n 1, 1, 1, 0, 0, []), (23, .iaload, 1, 0, 0, 0, []), (24, .iload_n 3, 1, 3, 0, 0, []), (25, .if_icmp .ge 7, 3, 32, 0, 0, []), (28, .iconst 1, 1, 0, 0, 1, []), (29, .goto 4, 3, 33, 0, 0, []), (32, .iconst 0, 1, 0, 0, 0, []), (33, .ireturn, 1, 0, 0, 0, []), (34, .aload_n 0, 1, 0, 0, 0, []), (35, .getfield 9, 3, 2, 6, 0, []), (38, .iload_n 1, 1, 1, 0, 0, []), (39, .iaload, 1, 0, 0, 0, []), (40, .iload_n 3, 1, 3, 0, 0, []), (41, .if_icmp .ge 17, 3, 58, 0, 0, []), (44, .aload_n 0, 1, 0, 0, 0, []), (45, .getfield 15, 3, 2, 7, 0, []), (48, .iload_n 1, 1, 1, 0, 0, []), (49, .iaload, 1, 0, 0, 0, []), (50, .iload_n 2, 1, 2, 0, 0, []), (51, .if_icmp .le 7, 3, 58, 0, 0, []), (54, .iconst 1, 1, 0, 0, 1, []), (55, .goto 4, 3, 59, 0, 0, []), (58, .iconst 0, 1, 0, 0, 0, []), (59, .ireturn, 1, 0, 0, 0, [])]
def zK_X2_hasOver : List zEnt := [(0, .iconst 0, 1, 0, 0, 0, []), (1, .istore_n 3, 1, 3, 0, 0, []), (2, .iload_n 3, 1, 3, 0, 0, []), (3, .aload_n 0, 1, 0, 0, 0, []), (4, .getfield 37, 3, 2, 5, 0, []), (7, .if_icmp .ge 21, 3, 28, 0, 0, []), (10, .aload_n 0, 1, 0, 0, 0, []), (11, .iload_n 3, 1, 3, 0, 0, []), (12, .iload_n 1, 1, 1, 0, 0, []), (13, .iload_n 2, 1, 2, 0, 0, []), (14, .invokevirtual 70, 3, 36, 3, 0, [1, 12]), (17, .ifCond .eq 5, 3, 22, 0, 0, []), (20, .iconst 1, 1, 0, 0, 1, []), (21, .ireturn, 1, 0, 0, 0, []), (22, .iinc 3 1, 3, 3, 0, 1, []), (25, .goto (-23), 3, 2, 0, 0, []), (28, .iconst 0, 1, 0, 0, 0, []), (29, .ireturn, 1, 0, 0, 0, [])]
def zK_X2_shared : List zEnt := [(0, .iconst 0, 1, 0, 0, 0, []), (1, .aload_n 0, 1, 0, 0, 0, []), (2, .getfield 15, 3, 2, 7, 0, []), (5, .iload_n 1, 1, 1, 0, 0, []), (6, .iaload, 1, 0, 0, 0, []), (7, .iload_n 3, 1, 3, 0, 0, []), (8, .invokestatic 73, 3, 1001, 2, 0, []), (11, .aload_n 0, 1, 0, 0, 0, []), (12, .getfield 9, 3, 2, 6, 0, []), (15, .iload_n 1, 1, 1, 0, 0, []), (16, .iaload, 1, 0, 0, 0, []), (17, .iload_n 2, 1, 2, 0, 0, []), (18, .invokestatic 79, 3, 1000, 2, 0, []), (21, .isub, 1, 0, 0, 0, []), (22, .invokestatic 79, 3, 1000, 2, 0, []), (25, .ireturn, 1, 0, 0, 0, [])]
def zK_X2_sharedBeside : List zEnt := [(0, .iconst 0, 1, 0, 0, 0, []), (1, .istore_n 3, 1, 3, 0, 0, []), (2, .iconst 0, 1, 0, 0, 0, []), (3, .istore 4, 2, 4, 0, 0, []), (5, .iload 4, 2, 4, 0, 0, []), (7, .aload_n 0, 1, 0, 0, 0, []), (8, .getfield 37, 3, 2, 5, 0, []), (11, .if_icmp .ge 76, 3, 87, 0, 0, []), (14, .iconst 0, 1, 0, 0, 0, []), (15, .istore 5, 2, 5, 0, 0, []), (17, .iload 5, 2, 5, 0, 0, []), (19, .aload_n 1, 1, 1, 0, 0, []), (20, .getfield 37, 3, 2, 5, 0, []), (23, .if_icmp .ge 58, 3, 81, 0, 0, []), (26, .aload_n 0, 1, 0, 0, 0, []), (27, .getfield 18, 3, 2, 8, 0, []), (30, .iload 4, 2, 4, 0, 0, []), (32, .iaload, 1, 0, 0, 0, []), (33, .aload_n 1, 1, 1, 0, 0, []), (34, .getfield 18, 3, 2, 8, 0, []), (37, .iload 5, 2, 5, 0, 0, []), (39, .iaload, 1, 0, 0, 0, []), (40, .if_icmp .ne 7, 3, 47, 0, 0, []), (43, .iconst 1, 1, 0, 0, 1, []), (44, .goto 4, 3, 48, 0, 0, []), (47, .iconst 0, 1, 0, 0, 0, []), (48, .iload_n 2, 1, 2, 0, 0, []), (49, .if_icmp .ne 26, 3, 75, 0, 0, []), (52, .iload_n 3, 1, 3, 0, 0, []), (53, .aload_n 0, 1, 0, 0, 0, []), (54, .iload 4, 2, 4, 0, 0, []), (56, .aload_n 1, 1, 1, 0, 0, []), (57, .getfield 9, 3, 2, 6, 0, []), (60, .iload 5, 2, 5, 0, 0, []), (62, .iaload, 1, 0, 0, 0, []), (63, .aload_n 1, 1, 1, 0, 0, []), (64, .getfield 15, 3, 2, 7, 0, []), (67, .iload 5, 2, 5, 0, 0, []), (69, .iaload, 1, 0, 0, 0, []), (70, .invokevirtual 82, 3, 38, 3, 0, [1, 12]), (73, .iadd, 1, 0, 0, 0, []), (74, .istore_n 3, 1, 3, 0, 0, []), (75, .iinc 5 1, 3, 5, 0, 1, []), (78, .goto (-61), 3, 17, 0, 0, []), (81, .iinc 4 1, 3, 4, 0, 1, []), (84, .goto (-79), 3, 5, 0, 0, []), (87, .iload_n 3, 1, 3, 0, 0, []), (88, .ireturn, 1, 0, 0, 0, [])]
def zK_X2_markAt : List zEnt := [(0, .iconst 0, 1, 0, 0, 0, []), (1, .istore_n 2, 1, 2, 0, 0, []), (2, .iload_n 2, 1, 2, 0, 0, []), (3, .aload_n 0, 1, 0, 0, 0, []), (4, .getfield 37, 3, 2, 5, 0, []), (7, .if_icmp .ge 41, 3, 48, 0, 0, []), (10, .aload_n 0, 1, 0, 0, 0, []), (11, .getfield 9, 3, 2, 6, 0, []), (14, .iload_n 2, 1, 2, 0, 0, []), (15, .iaload, 1, 0, 0, 0, []), (16, .iload_n 1, 1, 1, 0, 0, []), (17, .if_icmp .eq 23, 3, 40, 0, 0, []), (20, .aload_n 0, 1, 0, 0, 0, []), (21, .getfield 9, 3, 2, 6, 0, []), (24, .iload_n 2, 1, 2, 0, 0, []), (25, .iaload, 1, 0, 0, 0, []), (26, .iload_n 1, 1, 1, 0, 0, []), (27, .if_icmp .ge 15, 3, 42, 0, 0, []), (30, .iload_n 1, 1, 1, 0, 0, []), (31, .aload_n 0, 1, 0, 0, 0, []), (32, .getfield 15, 3, 2, 7, 0, []), (35, .iload_n 2, 1, 2, 0, 0, []), (36, .iaload, 1, 0, 0, 0, []), (37, .if_icmp .ge 5, 3, 42, 0, 0, []), (40, .iload_n 2, 1, 2, 0, 0, []), (41, .ireturn, 1, 0, 0, 0, []), (42, .iinc 2 1, 3, 2, 0, 1, []), (45, .goto (-43), 3, 2, 0, 0, []), (48, .iconst (-1), 1, 0, 0, -1, []), (49, .ireturn, 1, 0, 0, 0, [])]
def zK_X2_markInside : List zEnt := [(0, .iconst 0, 1, 0, 0, 0, []), (1, .istore_n 2, 1, 2, 0, 0, []), (2, .iload_n 2, 1, 2, 0, 0, []), (3, .aload_n 0, 1, 0, 0, 0, []), (4, .getfield 37, 3, 2, 5, 0, []), (7, .if_icmp .ge 31, 3, 38, 0, 0, []), (10, .aload_n 0, 1, 0, 0, 0, []), (11, .getfield 9, 3, 2, 6, 0, []), (14, .iload_n 2, 1, 2, 0, 0, []), (15, .iaload, 1, 0, 0, 0, []), (16, .iload_n 1, 1, 1, 0, 0, []), (17, .if_icmp .ge 15, 3, 32, 0, 0, []), (20, .iload_n 1, 1, 1, 0, 0, []), (21, .aload_n 0, 1, 0, 0, 0, []), (22, .getfield 15, 3, 2, 7, 0, []), (25, .iload_n 2, 1, 2, 0, 0, []), (26, .iaload, 1, 0, 0, 0, []), (27, .if_icmp .ge 5, 3, 32, 0, 0, []), (30, .iload_n 2, 1, 2, 0, 0, []), (31, .ireturn, 1, 0, 0, 0, []), (32, .iinc 2 1, 3, 2, 0, 1, []), (35, .goto (-33), 3, 2, 0, 0, []), (38, .iconst (-1), 1, 0, 0, -1, []), (39, .ireturn, 1, 0, 0, 0, [])]
def zK_X2_markAround : List zEnt := [(0, .iconst 0, 1, 0, 0, 0, []), (1, .istore_n 3, 1, 3, 0, 0, []), (2, .iload_n 3, 1, 3, 0, 0, []), (3, .aload_n 0, 1, 0, 0, 0, []), (4, .getfield 37, 3, 2, 5, 0, []), (7, .if_icmp .ge 31, 3, 38, 0, 0, []), (10, .aload_n 0, 1, 0, 0, 0, []), (11, .getfield 9, 3, 2, 6, 0, []), (14, .iload_n 3, 1, 3, 0, 0, []), (15, .iaload, 1, 0, 0, 0, []), (16, .iload_n 1, 1, 1, 0, 0, []), (17, .if_icmp .gt 15, 3, 32, 0, 0, []), (20, .iload_n 2, 1, 2, 0, 0, []), (21, .aload_n 0, 1, 0, 0, 0, []), (22, .getfield 15, 3, 2, 7, 0, []), (25, .iload_n 3, 1, 3, 0, 0, []), (26, .iaload, 1, 0, 0, 0, []), (27, .if_icmp .gt 5, 3, 32, 0, 0, []), (30, .iload_n 3, 1, 3, 0, 0, []), (31, .ireturn, 1, 0, 0, 0, []), (32, .iinc 3 1, 3, 3, 0, 1, []), (35, .goto (-33), 3, 2, 0, 0, []), (38, .iconst (-1), 1, 0, 0, -1, []), (39, .ireturn, 1, 0, 0, 0, [])]
def zK_X2_labelOf : List zEnt := [(0, .iconst 0, 1, 0, 0, 0, []), (1, .istore_n 3, 1, 3, 0, 0, []), (2, .iload_n 3, 1, 3, 0, 0, []), (3, .aload_n 0, 1, 0, 0, 0, []), (4, .getfield 37, 3, 2, 5, 0, []), (7, .if_icmp .ge 36, 3, 43, 0, 0, []), (10, .aload_n 0, 1, 0, 0, 0, []), (11, .getfield 9, 3, 2, 6, 0, []), (14, .iload_n 3, 1, 3, 0, 0, []), (15, .iaload, 1, 0, 0, 0, []), (16, .iload_n 1, 1, 1, 0, 0, []), (17, .if_icmp .ne 20, 3, 37, 0, 0, []), (20, .aload_n 0, 1, 0, 0, 0, []), (21, .getfield 15, 3, 2, 7, 0, []), (24, .iload_n 3, 1, 3, 0, 0, []), (25, .iaload, 1, 0, 0, 0, []), (26, .iload_n 2, 1, 2, 0, 0, []), (27, .if_icmp .ne 10, 3, 37, 0, 0, []), (30, .aload_n 0, 1, 0, 0, 0, []), (31, .getfield 18, 3, 2, 8, 0, []), (34, .iload_n 3, 1, 3, 0, 0, []), (35, .iaload, 1, 0, 0, 0, []), (36, .ireturn, 1, 0, 0, 0, []), (37, .iinc 3 1, 3, 3, 0, 1, []), (40, .goto (-38), 3, 2, 0, 0, []), (43, .iconst 0, 1, 0, 0, 0, []), (44, .ireturn, 1, 0, 0, 0, [])]
def zK_X2_addTimesTo : List zEnt := [(0, .iconst 0, 1, 0, 0, 0, []), (1, .istore_n 2, 1, 2, 0, 0, []), (2, .iload_n 2, 1, 2, 0, 0, []), (3, .aload_n 0, 1, 0, 0, 0, []), (4, .getfield 37, 3, 2, 5, 0, []), (7, .if_icmp .ge 29, 3, 36, 0, 0, []), (10, .aload_n 1, 1, 1, 0, 0, []), (11, .aload_n 0, 1, 0, 0, 0, []), (12, .getfield 9, 3, 2, 6, 0, []), (15, .iload_n 2, 1, 2, 0, 0, []), (16, .iaload, 1, 0, 0, 0, []), (17, .invokevirtual 85, 3, 89, 1, 0, [0, 14]), (20, .aload_n 1, 1, 1, 0, 0, []), (21, .aload_n 0, 1, 0, 0, 0, []), (22, .getfield 15, 3, 2, 7, 0, []), (25, .iload_n 2, 1, 2, 0, 0, []), (26, .iaload, 1, 0, 0, 0, []), (27, .invokevirtual 85, 3, 89, 1, 0, [0, 14]), (30, .iinc 2 1, 3, 2, 0, 1, []), (33, .goto (-31), 3, 2, 0, 0, []), (36, .return_, 1, 0, 0, 0, [])]
def zK_X2_listTimes : List zEnt := [(0, .aload_n 1, 1, 1, 0, 0, []), (1, .invokevirtual 90, 3, 86, 0, 0, [0, 14]), (4, .aload_n 0, 1, 0, 0, 0, []), (5, .aload_n 1, 1, 1, 0, 0, []), (6, .invokevirtual 93, 3, 44, 1, 0, [0, 12]), (9, .return_, 1, 0, 0, 0, [])]
def zK_X2_countEnds : List zEnt := [(0, .iconst 0, 1, 0, 0, 0, []), (1, .istore_n 2, 1, 2, 0, 0, []), (2, .iconst 0, 1, 0, 0, 0, []), (3, .istore_n 3, 1, 3, 0, 0, []), (4, .iload_n 3, 1, 3, 0, 0, []), (5, .aload_n 0, 1, 0, 0, 0, []), (6, .getfield 37, 3, 2, 5, 0, []), (9, .if_icmp .ge 43, 3, 52, 0, 0, []), (12, .aload_n 0, 1, 0, 0, 0, []), (13, .getfield 9, 3, 2, 6, 0, []), (16, .iload_n 3, 1, 3, 0, 0, []), (17, .iaload, 1, 0, 0, 0, []), (18, .iload_n 1, 1, 1, 0, 0, []), (19, .if_icmp .ne 6, 3, 25, 0, 0, []), (22, .iinc 2 1, 3, 2, 0, 1, []), (25, .aload_n 0, 1, 0, 0, 0, []), (26, .getfield 25, 3, 2, 1, 0, []), (29, .iconst 3, 1, 0, 0, 3, []), (30, .if_icmp .eq 16, 3, 46, 0, 0, []), (33, .aload_n 0, 1, 0, 0, 0, []), (34, .getfield 15, 3, 2, 7, 0, []), (37, .iload_n 3, 1, 3, 0, 0, []), (38, .iaload, 1, 0, 0, 0, []), (39, .iload_n 1, 1, 1, 0, 0, []), (40, .if_icmp .ne 6, 3, 46, 0, 0, []), (43, .iinc 2 1, 3, 2, 0, 1, []), (46, .iinc 3 1, 3, 3, 0, 1, []), (49, .goto (-45), 3, 4, 0, 0, []), (52, .iload_n 2, 1, 2, 0, 0, []), (53, .ireturn, 1, 0, 0, 0, [])]
def zK_X2_shiftEnds : List zEnt := [(0, .iconst 0, 1, 0, 0, 0, []), (1, .istore_n 3, 1, 3, 0, 0, []), (2, .iload_n 3, 1, 3, 0, 0, []), (3, .aload_n 0, 1, 0, 0, 0, []), (4, .getfield 37, 3, 2, 5, 0, []), (7, .if_icmp .ge 43, 3, 50, 0, 0, []), (10, .aload_n 0, 1, 0, 0, 0, []), (11, .getfield 9, 3, 2, 6, 0, []), (14, .iload_n 3, 1, 3, 0, 0, []), (15, .iaload, 1, 0, 0, 0, []), (16, .iload_n 1, 1, 1, 0, 0, []), (17, .if_icmp .ne 10, 3, 27, 0, 0, []), (20, .aload_n 0, 1, 0, 0, 0, []), (21, .getfield 9, 3, 2, 6, 0, []), (24, .iload_n 3, 1, 3, 0, 0, []), (25, .iload_n 2, 1, 2, 0, 0, []), (26, .iastore, 1, 0, 0, 0, []), (27, .aload_n 0, 1, 0, 0, 0, []), (28, .getfield 15, 3, 2, 7, 0, []), (31, .iload_n 3, 1, 3, 0, 0, []), (32, .iaload, 1, 0, 0, 0, []), (33, .iload_n 1, 1, 1, 0, 0, []), (34, .if_icmp .ne 10, 3, 44, 0, 0, []), (37, .aload_n 0, 1, 0, 0, 0, []), (38, .getfield 15, 3, 2, 7, 0, []), (41, .iload_n 3, 1, 3, 0, 0, []), (42, .iload_n 2, 1, 2, 0, 0, []), (43, .iastore, 1, 0, 0, 0, []), (44, .iinc 3 1, 3, 3, 0, 1, []), (47, .goto (-45), 3, 2, 0, 0, []), (50, .return_, 1, 0, 0, 0, [])]
def zK_X2_insertSilence : List zEnt := [(0, .iconst 0, 1, 0, 0, 0, []), (1, .istore_n 3, 1, 3, 0, 0, []), (2, .iload_n 3, 1, 3, 0, 0, []), (3, .aload_n 0, 1, 0, 0, 0, []), (4, .getfield 37, 3, 2, 5, 0, []), (7, .if_icmp .ge 49, 3, 56, 0, 0, []), (10, .aload_n 0, 1, 0, 0, 0, []), (11, .getfield 9, 3, 2, 6, 0, []), (14, .iload_n 3, 1, 3, 0, 0, []), (15, .iaload, 1, 0, 0, 0, []), (16, .iload_n 1, 1, 1, 0, 0, []), (17, .if_icmp .le 13, 3, 30, 0, 0, []), (20, .aload_n 0, 1, 0, 0, 0, []), (21, .getfield 9, 3, 2, 6, 0, []), (24, .iload_n 3, 1, 3, 0, 0, []), (25, .dup2, 1, 0, 0, 0, []), (26, .iaload, 1, 0, 0, 0, []), (27, .iload_n 2, 1, 2, 0, 0, []), (28, .iadd, 1, 0, 0, 0, []), (29, .iastore, 1, 0, 0, 0, []), (30, .aload_n 0, 1, 0, 0, 0, []), (31, .getfield 15, 3, 2, 7, 0, []), (34, .iload_n 3, 1, 3, 0, 0, []), (35, .iaload, 1, 0, 0, 0, []), (36, .iload_n 1, 1, 1, 0, 0, []), (37, .if_icmp .le 13, 3, 50, 0, 0, []), (40, .aload_n 0, 1, 0, 0, 0, []), (41, .getfield 15, 3, 2, 7, 0, []), (44, .iload_n 3, 1, 3, 0, 0, []), (45, .dup2, 1, 0, 0, 0, []), (46, .iaload, 1, 0, 0, 0, []), (47, .iload_n 2, 1, 2, 0, 0, []), (48, .iadd, 1, 0, 0, 0, []), (49, .iastore, 1, 0, 0, 0, []), (50, .iinc 3 1, 3, 3, 0, 1, []), (53, .goto (-51), 3, 2, 0, 0, []), (56, .return_, 1, 0, 0, 0, [])]
def zK_X3_clear : List zEnt := [(0, .aload_n 0, 1, 0, 0, 0, []), (1, .iconst 0, 1, 0, 0, 0, []), (2, .putfield 18, 3, 3, 0, 0, []), (5, .return_, 1, 0, 0, 0, [])]
def zK_X3_copyFrom : List zEnt := [(0, .aload_n 0, 1, 0, 0, 0, []), (1, .aload_n 1, 1, 1, 0, 0, []), (2, .getfield 18, 3, 3, 0, 0, []), (5, .putfield 18, 3, 3, 0, 0, []), (8, .iconst 0, 1, 0, 0, 0, []), (9, .istore_n 2, 1, 2, 0, 0, []), (10, .iload_n 2, 1, 2, 0, 0, []), (11, .aload_n 0, 1, 0, 0, 0, []), (12, .getfield 18, 3, 3, 0, 0, []), (15, .if_icmp .ge 24, 3, 39, 0, 0, []), (18, .aload_n 0, 1, 0, 0, 0, []), (19, .getfield 11, 3, 3, 1, 0, []), (22, .iload_n 2, 1, 2, 0, 0, []), (23, .aaload, 1, 0, 0, 0, []), (24, .aload_n 1, 1, 1, 0, 0, []), (25, .getfield 11, 3, 3, 1, 0, []), (28, .iload_n 2, 1, 2, 0, 0, []), (29, .aaload, 1, 0, 0, 0, []), (30, .invokevirtual 22, 3, 25, 1, 0, [0, 12]), (33, .iinc 2 1, 3, 2, 0, 1, []), (36, .goto (-26), 3, 10, 0, 0, []), (39, .return_, 1, 0, 0, 0, [])]
def zK_X3_hasTier : List zEnt := [(0, .iload_n 1, 1, 1, 0, 0, []), (1, .ifCond .lt 15, 3, 16, 0, 0, []), (4, .iload_n 1, 1, 1, 0, 0, []), (5, .aload_n 0, 1, 0, 0, 0, []), (6, .getfield 18, 3, 3, 0, 0, []), (9, .if_icmp .ge 7, 3, 16, 0, 0, []), (12, .iconst 1, 1, 0, 0, 1, []), (13, .goto 4, 3, 17, 0, 0, []), (16, .iconst 0, 1, 0, 0, 0, []), (17, .ireturn, 1, 0, 0, 0, [])]
def zK_X3_indexOf : List zEnt := [(0, .iconst 0, 1, 0, 0, 0, []), (1, .istore_n 2, 1, 2, 0, 0, []), (2, .iload_n 2, 1, 2, 0, 0, []), (3, .aload_n 0, 1, 0, 0, 0, []), (4, .getfield 18, 3, 3, 0, 0, []), (7, .if_icmp .ge 24, 3, 31, 0, 0, []), (10, .aload_n 0, 1, 0, 0, 0, []), (11, .getfield 11, 3, 3, 1, 0, []), (14, .iload_n 2, 1, 2, 0, 0, []), (15, .aaload, 1, 0, 0, 0, []), (16, .getfield 26, 3, 2, 0, 0, []), (19, .iload_n 1, 1, 1, 0, 0, []), (20, .if_icmp .ne 5, 3, 25, 0, 0, []), (23, .iload_n 2, 1, 2, 0, 0, []), (24, .ireturn, 1, 0, 0, 0, []), (25, .iinc 2 1, 3, 2, 0, 1, []), (28, .goto (-26), 3, 2, 0, 0, []), (31, .iconst (-1), 1, 0, 0, -1, []), (32, .ireturn, 1, 0, 0, 0, [])]
def zK_X3_countMarks : List zEnt := [(0, .iconst 0, 1, 0, 0, 0, []), (1, .istore_n 1, 1, 1, 0, 0, []), (2, .iconst 0, 1, 0, 0, 0, []), (3, .istore_n 2, 1, 2, 0, 0, []), (4, .iload_n 2, 1, 2, 0, 0, []), (5, .aload_n 0, 1, 0, 0, 0, []), (6, .getfield 18, 3, 3, 0, 0, []), (9, .if_icmp .ge 21, 3, 30, 0, 0, []), (12, .iload_n 1, 1, 1, 0, 0, []), (13, .aload_n 0, 1, 0, 0, 0, []), (14, .getfield 11, 3, 3, 1, 0, []), (17, .iload_n 2, 1, 2, 0, 0, []), (18, .aaload, 1, 0, 0, 0, []), (19, .getfield 29, 3, 2, 5, 0, []), (22, .iadd, 1, 0, 0, 0, []), (23, .istore_n 1, 1, 1, 0, 0, []), (24, .iinc 2 1, 3, 2, 0, 1, []), (27, .goto (-23), 3, 4, 0, 0, []), (30, .iload_n 1, 1, 1, 0, 0, []), (31, .ireturn, 1, 0, 0, 0, [])]
def zK_X3_countFamilies : List zEnt := [(0, .aload_n 0, 1, 0, 0, 0, []), (1, .iconst (-1), 1, 0, 0, -1, []), (2, .invokevirtual 30, 3, 55, 1, 0, [1, 13]), (5, .ireturn, 1, 0, 0, 0, [])]
def zK_X3_countChildren : List zEnt := [(0, .iconst 0, 1, 0, 0, 0, []), (1, .istore_n 2, 1, 2, 0, 0, []), (2, .iconst 0, 1, 0, 0, 0, []), (3, .istore_n 3, 1, 3, 0, 0, []), (4, .iload_n 3, 1, 3, 0, 0, []), (5, .aload_n 0, 1, 0, 0, 0, []), (6, .getfield 18, 3, 3, 0, 0, []), (9, .if_icmp .ge 25, 3, 34, 0, 0, []), (12, .aload_n 0, 1, 0, 0, 0, []), (13, .getfield 11, 3, 3, 1, 0, []), (16, .iload_n 3, 1, 3, 0, 0, []), (17, .aaload, 1, 0, 0, 0, []), (18, .getfield 34, 3, 2, 2, 0, []), (21, .iload_n 1, 1, 1, 0, 0, []), (22, .if_icmp .ne 6, 3, 28, 0, 0, []), (25, .iinc 2 1, 3, 2, 0, 1, []), (28, .iinc 3 1, 3, 3, 0, 1, []), (31, .goto (-27), 3, 4, 0, 0, []), (34, .iload_n 2, 1, 2, 0, 0, []), (35, .ireturn, 1, 0, 0, 0, [])]
def zK_X3_addTier : List zEnt := [(0, .aload_n 0, 1, 0, 0, 0, []), (1, .getfield 18, 3, 3, 0, 0, []), (4, .bipush 6, 2, 0, 0, 6, []), (6, .if_icmp .lt 4, 3, 10, 0, 0, []), (9, .return_, 1, 0, 0, 0, []), (10, .aload_n 0, 1, 0, 0, 0, []), (11, .getfield 11, 3, 3, 1, 0, []), (14, .aload_n 0, 1, 0, 0, 0, []), (15, .getfield 18, 3, 3, 0, 0, []), (18, .aaload, 1, 0, 0, 0, []), (19, .astore 4, 2, 4, 0, 0, []), (21, .aload 4, 2, 4, 0, 0, []), (23, .iload_n 1, 1, 1, 0, 0, []), (24, .putfield 26, 3, 2, 0, 0, []), (27, .aload 4, 2, 4, 0, 0, []), (29, .iload_n 2, 1, 2, 0, 0, []), (30, .putfield 37, 3, 2, 1, 0, []), (33, .aload 4, 2, 4, 0, 0, []), (35, .iload_n 3, 1, 3, 0, 0, []), (36, .putfield 34, 3, 2, 2, 0, []), (39, .aload 4, 2, 4, 0, 0, []), (41, .aload_n 0, 1, 0, 0, 0, []), (42, .iload_n 3, 1, 3, 0, 0, []), (43, .invokevirtual 40, 3, 51, 1, 0, [1, 13]), (46, .ifCond .eq 15, 3, 61, 0, 0, []), (49, .aload_n 0, 1, 0, 0, 0, []), (50, .getfield 11, 3, 3, 1, 0, []), (53, .iload_n 3, 1, 3, 0, 0, []), (54, .aaload, 1, 0, 0, 0, []), (55, .getfield 44, 3, 2, 3, 0, []), (58, .goto 7, 3, 65, 0, 0, []), (61, .aload_n 0, 1, 0, 0, 0, []), (62, .getfield 18, 3, 3, 0, 0, []), (65, .putfield 44, 3, 2, 3, 0, []), (68, .aload 4, 2, 4, 0, 0, []), (70, .aload_n 0, 1, 0, 0, 0, []), (71, .iload_n 3, 1, 3, 0, 0, []), (72, .invokevirtual 40, 3, 51, 1, 0, [1, 13]), (75, .ifCond .eq 17, 3, 92, 0, 0, []), (78, .aload_n 0, 1, 0, 0, 0, []), (79, .getfield 11, 3, 3, 1, 0, []), (82, .iload_n 3, 1, 3, 0, 0, []), (83, .aaload, 1, 0, 0, 0, []), (84, .getfield 47, 3, 2, 4, 0, []), (87, .iconst 1, 1, 0, 0, 1, []), (88, .iadd, 1, 0, 0, 0, []), (89, .goto 4, 3, 93, 0, 0, []), (92, .iconst 0, 1, 0, 0, 0, []), (93, .putfield 47, 3, 2, 4, 0, []), (96, .aload 4, 2, 4, 0, 0, []), (98, .iconst 0, 1, 0, 0, 0, []), (99, .putfield 29, 3, 2, 5, 0, []), (102, .iload_n 2, 1, 2, 0, 0, []), (103, .iconst 1, 1, 0, 0, 1, []), (104, .if_icmp .ne 61, 3, 165, 0, 0, []), (107, .aload_n 0, 1, 0, 0, 0, []), (108, .iload_n 3, 1, 3, 0, 0, []), (109, .invokevirtual 40, 3, 51, 1, 0, [1, 13]), (112, .ifCond .eq 53, 3, 165, 0, 0, []), (115, .aload_n 0, 1, 0, 0, 0, []), (116, .getfield 11, 3, 3, 1, 0, []), (119, .iload_n 3, 1, 3, 0, 0, []), (120, .aaload, 1, 0, 0, 0, []), (121, .astore 5, 2, 5, 0, 0, []), (123, .iconst 0, 1, 0, 0, 0, []), (124, .istore 6, 2, 6, 0, 0, []), (126, .iload 6, 2, 6, 0, 0, []), (128, .aload 5, 2, 5, 0, 0, []), (130, .getfield 29, 3, 2, 5, 0, []), (133, .if_icmp .ge 32, 3, 165, 0, 0, []), (136, .aload 4, 2, 4, 0, 0, []), (138, .aload 5, 2, 5, 0, 0, []), (140, .getfield 50, 3, 2, 6, 0, []), (143, .iload 6, 2, 6, 0, 0, []), (145, .iaload, 1, 0, 0, 0, []), (146, .aload 5, 2, 5, 0, 0, []), (148, .getfield 54, 3, 2, 7, 0, []), (151, .iload 6, 2, 6, 0, 0, []), (153, .iaload, 1, 0, 0, 0, []), (154, .iconst 0, 1, 0, 0, 0, []), (155, .invokevirtual 57, 3, 30, 3, 0, [1, 12]), (158, .pop, 1, 0, 0, 0, []), (159, .iinc 6 1, 3, 6, 0, 1, []), (162, .goto (-36), 3, 126, 0, 0, []), (165, .aload_n 0, 1, 0, 0, 0, []), (166, .dup, 1, 0, 0, 0, []), (167, .getfield 18, 3, 3, 0, 0, []), (170, .iconst 1, 1, 0, 0, 1, []), (171, .iadd, 1, 0, 0, 0, []), (172, .putfield 18, 3, 3, 0, 0, []), (175, .return_, 1, 0, 0, 0, [])]
def zK_X3_isBelow : List zEnt := [(0, .aload_n 0, 1, 0, 0, 0, []), (1, .getfield 11, 3, 3, 1, 0, []), (4, .iload_n 1, 1, 1, 0, 0, []), (5, .aaload, 1, 0, 0, 0, []), (6, .getfield 34, 3, 2, 2, 0, []), (9, .istore_n 3, 1, 3, 0, 0, []), (10, .iconst 0, 1, 0, 0, 0, []), (11, .istore 4, 2, 4, 0, 0, []), (13, .iload 4, 2, 4, 0, 0, []), (15, .bipush 6, 2, 0, 0, 6, []), (17, .if_icmp .ge 24, 3, 41, 0, 0, []), (20, .iload_n 3, 1, 3, 0, 0, []), (21, .iload_n 2, 1, 2, 0, 0, []), (22, .if_icmp .le 19, 3, 41, 0, 0, []), (25, .aload_n 0, 1, 0, 0, 0, []), (26, .getfield 11, 3, 3, 1, 0, []), (29, .iload_n 3, 1, 3, 0, 0, []), (30, .aaload, 1, 0, 0, 0, []), (31, .getfield 34, 3, 2, 2, 0, []), (34, .istore_n 3, 1, 3, 0, 0, []), (35, .iinc 4 1, 3, 4, 0, 1, []), (38, .goto (-25), 3, 13, 0, 0, []), (41, .iload_n 3, 1, 3, 0, 0, []), (42, .iload_n 2, 1, 2, 0, 0, []), (43, .if_icmp .ne 7, 3, 50, 0, 0, []), (46, .iconst 1, 1, 0, 0, 1, []), (47, .goto 4, 3, 51, 0, 0, []), (50, .iconst 0, 1, 0, 0, 0, []), (51, .ireturn, 1, 0, 0, 0, [])]
def zK_X3_isPieceOf : List zEnt := [(0, .iload_n 1, 1, 1, 0, 0, []), (1, .istore_n 3, 1, 3, 0, 0, []), (2, .iconst 0, 1, 0, 0, 0, []), (3, .istore 4, 2, 4, 0, 0, []), (5, .iload 4, 2, 4, 0, 0, []), (7, .bipush 6, 2, 0, 0, 6, []), (9, .if_icmp .ge 37, 3, 46, 0, 0, []), (12, .iload_n 3, 1, 3, 0, 0, []), (13, .iload_n 2, 1, 2, 0, 0, []), (14, .if_icmp .le 32, 3, 46, 0, 0, []), (17, .aload_n 0, 1, 0, 0, 0, []), (18, .getfield 11, 3, 3, 1, 0, []), (21, .iload_n 3, 1, 3, 0, 0, []), (22, .aaload, 1, 0, 0, 0, []), (23, .getfield 37, 3, 2, 1, 0, []), (26, .iconst 1, 1, 0, 0, 1, []), (27, .if_icmp .ne 19, 3, 46, 0, 0, []), (30, .aload_n 0, 1, 0, 0, 0, []), (31, .getfield 11, 3, 3, 1, 0, []), (34, .iload_n 3, 1, 3, 0, 0, []), (35, .aaload, 1, 0, 0, 0, []), (36, .getfield 34, 3, 2, 2, 0, []), (39, .istore_n 3, 1, 3, 0, 0, []), (40, .iinc 4 1, 3, 4, 0, 1, []), (43, .goto (-38), 3, 5, 0, 0, []), (46, .iload_n 3, 1, 3, 0, 0, []), (47, .iload_n 2, 1, 2, 0, 0, []), (48, .if_icmp .ne 7, 3, 55, 0, 0, []), (51, .iconst 1, 1, 0, 0, 1, []), (52, .goto 4, 3, 56, 0, 0, []), (55, .iconst 0, 1, 0, 0, 0, []), (56, .ireturn, 1, 0, 0, 0, [])]
def zK_X3_parentMark : List zEnt := [(0, .aload_n 0, 1, 0, 0, 0, []), (1, .getfield 11, 3, 3, 1, 0, []), (4, .iload_n 1, 1, 1, 0, 0, []), (5, .aaload, 1, 0, 0, 0, []), (6, .astore_n 3, 1, 3, 0, 0, []), (7, .aload_n 0, 1, 0, 0, 0, []), (8, .aload_n 3, 1, 3, 0, 0, []), (9, .getfield 34, 3, 2, 2, 0, []), (12, .invokevirtual 40, 3, 51, 1, 0, [1, 13]), (15, .ifCond .eq 11, 3, 26, 0, 0, []), (18, .aload_n 3, 1, 3, 0, 0, []), (19, .iload_n 2, 1, 2, 0, 0, []), (20, .invokevirtual 61, 3, 27, 1, 0, [1, 12]), (23, .ifCond .ne 5, 3, 28, 0, 0, []), (26, .iconst (-1), 1, 0, 0, -1, []), (27, .ireturn, 1, 0, 0, 0, []), (28, .aload_n 0, 1, 0, 0, 0, []), (29, .getfield 11, 3, 3, 1, 0, []), (32, .aload_n 3, 1, 3, 0, 0, []), (33, .getfield 34, 3, 2, 2, 0, []), (36, .aaload, 1, 0, 0, 0, []), (37, .aload_n 3, 1, 3, 0, 0, []), (38, .getfield 50, 3, 2, 6, 0, []), (41, .iload_n 2, 1, 2, 0, 0, []), (42, .iaload, 1, 0, 0, 0, []), (43, .aload_n 3, 1, 3, 0, 0, []), (44, .getfield 54, 3, 2, 7, 0, []), (47, .iload_n 2, 1, 2, 0, 0, []), (48, .iaload, 1, 0, 0, 0, []), (49, .invokevirtual 64, 3, 42, 2, 0, [1, 12]), (52, .ireturn, 1, 0, 0, 0, [])]
def zK_X3_haveSameParent : List zEnt := [(0, .aload_n 0, 1, 0, 0, 0, []), (1, .iload_n 1, 1, 1, 0, 0, []), (2, .iload_n 2, 1, 2, 0, 0, []), (3, .invokevirtual 68, 3, 59, 2, 0, [1, 13]), (6, .aload_n 0, 1, 0, 0, 0, []), (7, .iload_n 1, 1, 1, 0, 0, []), (8, .iload_n 3, 1, 3, 0, 0, []), (9, .invokevirtual 68, 3, 59, 2, 0, [1, 13]), (12, .if_icmp .ne 7, 3, 19, 0, 0, []), (15, .iconst 1, 1, 0, 0, 1, []), (16, .goto 4, 3, 20, 0, 0, []), (19, .iconst 0, 1, 0, 0, 0, []), (20, .ireturn, 1, 0, 0, 0, [])]
def zK_X3_countHeld : List zEnt := [(0, .iconst 0, 1, 0, 0, 0, []), (1, .istore_n 3, 1, 3, 0, 0, []), (2, .iload_n 1, 1, 1, 0, 0, []), (3, .iconst 1, 1, 0, 0, 1, []), (4, .iadd, 1, 0, 0, 0, []), (5, .istore 4, 2, 4, 0, 0, []), (7, .iload 4, 2, 4, 0, 0, []), (9, .aload_n 0, 1, 0, 0, 0, []), (10, .getfield 18, 3, 3, 0, 0, []), (13, .if_icmp .ge 62, 3, 75, 0, 0, []), (16, .iconst 0, 1, 0, 0, 0, []), (17, .istore 5, 2, 5, 0, 0, []), (19, .aload_n 0, 1, 0, 0, 0, []), (20, .getfield 11, 3, 3, 1, 0, []), (23, .iload 4, 2, 4, 0, 0, []), (25, .aaload, 1, 0, 0, 0, []), (26, .getfield 34, 3, 2, 2, 0, []), (29, .iload_n 1, 1, 1, 0, 0, []), (30, .if_icmp .ne 39, 3, 69, 0, 0, []), (33, .iload 5, 2, 5, 0, 0, []), (35, .aload_n 0, 1, 0, 0, 0, []), (36, .getfield 11, 3, 3, 1, 0, []), (39, .iload 4, 2, 4, 0, 0, []), (41, .aaload, 1, 0, 0, 0, []), (42, .getfield 29, 3, 2, 5, 0, []), (45, .if_icmp .ge 24, 3, 69, 0, 0, []), (48, .aload_n 0, 1, 0, 0, 0, []), (49, .iload 4, 2, 4, 0, 0, []), (51, .iload 5, 2, 5, 0, 0, []), (53, .invokevirtual 68, 3, 59, 2, 0, [1, 13]), (56, .iload_n 2, 1, 2, 0, 0, []), (57, .if_icmp .ne 6, 3, 63, 0, 0, []), (60, .iinc 3 1, 3, 3, 0, 1, []), (63, .iinc 5 1, 3, 5, 0, 1, []), (66, .goto (-47), 3, 19, 0, 0, []), (69, .iinc 4 1, 3, 4, 0, 1, []), (72, .goto (-65), 3, 7, 0, 0, []), (75, .iload_n 3, 1, 3, 0, 0, []), (76, .ireturn, 1, 0, 0, 0, [])]
def zK_X3_liesInParent : List zEnt := [(0, .aload_n 0, 1, 0, 0, 0, []), (1, .aload_n 1, 1, 1, 0, 0, []), (2, .getfield 34, 3, 2, 2, 0, []), (5, .invokevirtual 40, 3, 51, 1, 0, [1, 13]), (8, .ifCond .eq 25, 3, 33, 0, 0, []), (11, .aload_n 0, 1, 0, 0, 0, []), (12, .getfield 11, 3, 3, 1, 0, []), (15, .aload_n 1, 1, 1, 0, 0, []), (16, .getfield 34, 3, 2, 2, 0, []), (19, .aaload, 1, 0, 0, 0, []), (20, .iload_n 2, 1, 2, 0, 0, []), (21, .iload_n 3, 1, 3, 0, 0, []), (22, .invokevirtual 64, 3, 42, 2, 0, [1, 12]), (25, .iconst (-1), 1, 0, 0, -1, []), (26, .if_icmp .eq 7, 3, 33, 0, 0, []), (29, .iconst 1, 1, 0, 0, 1, []), (30, .goto 4, 3, 34, 0, 0, []), (33, .iconst 0, 1, 0, 0, 0, []), (34, .ireturn, 1, 0, 0, 0, [])]
def zK_X3_allowsMark : List zEnt := [(0, .aload_n 0, 1, 0, 0, 0, []), (1, .getfield 11, 3, 3, 1, 0, []), (4, .iload_n 1, 1, 1, 0, 0, []), (5, .aaload, 1, 0, 0, 0, []), (6, .astore 4, 2, 4, 0, 0, []), (8, .aload 4, 2, 4, 0, 0, []), (10, .getfield 37, 3, 2, 1, 0, []), (13, .ifCond .eq 12, 3, 25, 0, 0, []), (16, .aload 4, 2, 4, 0, 0, []), (18, .getfield 37, 3, 2, 1, 0, []), (21, .iconst 2, 1, 0, 0, 2, []), (22, .if_icmp .ne 13, 3, 35, 0, 0, []), (25, .aload 4, 2, 4, 0, 0, []), (27, .iload_n 2, 1, 2, 0, 0, []), (28, .iload_n 3, 1, 3, 0, 0, []), (29, .invokevirtual 71, 3, 37, 2, 0, [1, 12]), (32, .ifCond .eq 5, 3, 37, 0, 0, []), (35, .iconst 0, 1, 0, 0, 0, []), (36, .ireturn, 1, 0, 0, 0, []), (37, .aload 4, 2, 4, 0, 0, []), (39, .getfield 37, 3, 2, 1, 0, []), (42, .ifCond .eq 14, 3, 56, 0, 0, []), (45, .aload_n 0, 1, 0, 0, 0, []), (46, .aload 4, 2, 4, 0, 0, []), (48, .iload_n 2, 1, 2, 0, 0, []), (49, .iload_n 3, 1, 3, 0, 0, []), (50, .invokevirtual 75, 3, 62, 3, 0, [1, 13]), (53, .ifCond .eq 7, 3, 60, 0, 0, []), (56, .iconst 1, 1, 0, 0, 1, []), (57, .goto 4, 3, 61, 0, 0, []), (60, .iconst 0, 1, 0, 0, 0, []), (61, .ireturn, 1, 0, 0, 0, [])]
def zK_X3_hasRoomForMark : List zEnt := [(0, .iload_n 1, 1, 1, 0, 0, []), (1, .istore_n 2, 1, 2, 0, 0, []), (2, .iload_n 2, 1, 2, 0, 0, []), (3, .aload_n 0, 1, 0, 0, 0, []), (4, .getfield 18, 3, 3, 0, 0, []), (7, .if_icmp .ge 32, 3, 39, 0, 0, []), (10, .aload_n 0, 1, 0, 0, 0, []), (11, .iload_n 2, 1, 2, 0, 0, []), (12, .iload_n 1, 1, 1, 0, 0, []), (13, .invokevirtual 79, 3, 58, 2, 0, [1, 13]), (16, .ifCond .eq 17, 3, 33, 0, 0, []), (19, .aload_n 0, 1, 0, 0, 0, []), (20, .getfield 11, 3, 3, 1, 0, []), (23, .iload_n 2, 1, 2, 0, 0, []), (24, .aaload, 1, 0, 0, 0, []), (25, .invokevirtual 82, 3, 26, 0, 0, [1, 12]), (28, .ifCond .eq 5, 3, 33, 0, 0, []), (31, .iconst 0, 1, 0, 0, 0, []), (32, .ireturn, 1, 0, 0, 0, []), (33, .iinc 2 1, 3, 2, 0, 1, []), (36, .goto (-34), 3, 2, 0, 0, []), (39, .iconst 1, 1, 0, 0, 1, []), (40, .ireturn, 1, 0, 0, 0, [])]
def zK_X3_addMark : List zEnt := [(0, .iload_n 1, 1, 1, 0, 0, []), (1, .iconst 1, 1, 0, 0, 1, []), (2, .iadd, 1, 0, 0, 0, []), (3, .istore 4, 2, 4, 0, 0, []), (5, .iload 4, 2, 4, 0, 0, []), (7, .aload_n 0, 1, 0, 0, 0, []), (8, .getfield 18, 3, 3, 0, 0, []), (11, .if_icmp .ge 33, 3, 44, 0, 0, []), (14, .aload_n 0, 1, 0, 0, 0, []), (15, .iload 4, 2, 4, 0, 0, []), (17, .iload_n 1, 1, 1, 0, 0, []), (18, .invokevirtual 79, 3, 58, 2, 0, [1, 13]), (21, .ifCond .eq 17, 3, 38, 0, 0, []), (24, .aload_n 0, 1, 0, 0, 0, []), (25, .getfield 11, 3, 3, 1, 0, []), (28, .iload 4, 2, 4, 0, 0, []), (30, .aaload, 1, 0, 0, 0, []), (31, .iload_n 2, 1, 2, 0, 0, []), (32, .iload_n 3, 1, 3, 0, 0, []), (33, .iconst 0, 1, 0, 0, 0, []), (34, .invokevirtual 57, 3, 30, 3, 0, [1, 12]), (37, .pop, 1, 0, 0, 0, []), (38, .iinc 4 1, 3, 4, 0, 1, []), (41, .goto (-36), 3, 5, 0, 0, []), (44, .aload_n 0, 1, 0, 0, 0, []), (45, .getfield 11, 3, 3, 1, 0, []), (48, .iload_n 1, 1, 1, 0, 0, []), (49, .aaload, 1, 0, 0, 0, []), (50, .iload_n 2, 1, 2, 0, 0, []), (51, .iload_n 3, 1, 3, 0, 0, []), (52, .iconst 0, 1, 0, 0, 0, []), (53, .invokevirtual 57, 3, 30, 3, 0, [1, 12]), (56, .ireturn, 1, 0, 0, 0, [])]
def zK_X3_allowsPoint : List zEnt := [(0, .aload_n 0, 1, 0, 0, 0, []), (1, .getfield 11, 3, 3, 1, 0, []), (4, .iload_n 1, 1, 1, 0, 0, []), (5, .aaload, 1, 0, 0, 0, []), (6, .astore_n 3, 1, 3, 0, 0, []), (7, .aload_n 3, 1, 3, 0, 0, []), (8, .getfield 37, 3, 2, 1, 0, []), (11, .iconst 3, 1, 0, 0, 3, []), (12, .if_icmp .ne 12, 3, 24, 0, 0, []), (15, .aload_n 3, 1, 3, 0, 0, []), (16, .iload_n 2, 1, 2, 0, 0, []), (17, .invokevirtual 86, 3, 40, 1, 0, [1, 12]), (20, .iconst (-1), 1, 0, 0, -1, []), (21, .if_icmp .eq 5, 3, 26, 0, 0, []), (24, .iconst 0, 1, 0, 0, 0, []), (25, .ireturn, 1, 0, 0, 0, []), (26, .aload_n 3, 1, 3, 0, 0, []), (27, .getfield 34, 3, 2, 2, 0, []), (30, .iconst (-1), 1, 0, 0, -1, []), (31, .if_icmp .eq 13, 3, 44, 0, 0, []), (34, .aload_n 0, 1, 0, 0, 0, []), (35, .aload_n 3, 1, 3, 0, 0, []), (36, .iload_n 2, 1, 2, 0, 0, []), (37, .iload_n 2, 1, 2, 0, 0, []), (38, .invokevirtual 75, 3, 62, 3, 0, [1, 13]), (41, .ifCond .eq 7, 3, 48, 0, 0, []), (44, .iconst 1, 1, 0, 0, 1, []), (45, .goto 4, 3, 49, 0, 0, []), (48, .iconst 0, 1, 0, 0, 0, []), (49, .ireturn, 1, 0, 0, 0, [])]
def zK_X3_heirOf : List zEnt := [(0, .aload_n 0, 1, 0, 0, 0, []), (1, .getfield 11, 3, 3, 1, 0, []), (4, .iload_n 1, 1, 1, 0, 0, []), (5, .aaload, 1, 0, 0, 0, []), (6, .astore_n 3, 1, 3, 0, 0, []), (7, .aload_n 3, 1, 3, 0, 0, []), (8, .iload_n 2, 1, 2, 0, 0, []), (9, .iconst 1, 1, 0, 0, 1, []), (10, .isub, 1, 0, 0, 0, []), (11, .invokevirtual 61, 3, 27, 1, 0, [1, 12]), (14, .ifCond .eq 19, 3, 33, 0, 0, []), (17, .aload_n 0, 1, 0, 0, 0, []), (18, .iload_n 1, 1, 1, 0, 0, []), (19, .iload_n 2, 1, 2, 0, 0, []), (20, .iconst 1, 1, 0, 0, 1, []), (21, .isub, 1, 0, 0, 0, []), (22, .iload_n 2, 1, 2, 0, 0, []), (23, .invokevirtual 89, 3, 60, 3, 0, [1, 13]), (26, .ifCond .eq 7, 3, 33, 0, 0, []), (29, .iload_n 2, 1, 2, 0, 0, []), (30, .iconst 1, 1, 0, 0, 1, []), (31, .isub, 1, 0, 0, 0, []), (32, .ireturn, 1, 0, 0, 0, []), (33, .aload_n 3, 1, 3, 0, 0, []), (34, .iload_n 2, 1, 2, 0, 0, []), (35, .iconst 1, 1, 0, 0, 1, []), (36, .iadd, 1, 0, 0, 0, []), (37, .invokevirtual 61, 3, 27, 1, 0, [1, 12]), (40, .ifCond .eq 19, 3, 59, 0, 0, []), (43, .aload_n 0, 1, 0, 0, 0, []), (44, .iload_n 1, 1, 1, 0, 0, []), (45, .iload_n 2, 1, 2, 0, 0, []), (46, .iload_n 2, 1, 2, 0, 0, []), (47, .iconst 1, 1, 0, 0, 1, []), (48, .iadd, 1, 0, 0, 0, []), (49, .invokevirtual 89, 3, 60, 3, 0, [1, 13]), (52, .ifCond .eq 7, 3, 59, 0, 0, []), (55, .iload_n 2, 1, 2, 0, 0, []), (56, .iconst 1, 1, 0, 0, 1, []), (57, .iadd, 1, 0, 0, 0, []), (58, .ireturn, 1, 0, 0, 0, []), (59, .iconst (-1), 1, 0, 0, -1, []), (60, .ireturn, 1, 0, 0, 0, [])]
def zK_X3_removePiece : List zEnt := [(0, .aload_n 0, 1, 0, 0, 0, []), (1, .getfield 11, 3, 3, 1, 0, []), (4, .iload_n 1, 1, 1, 0, 0, []), (5, .aaload, 1, 0, 0, 0, []), (6, .astore 4, 2, 4, 0, 0, []), (8, .iload_n 3, 1, 3, 0, 0, []), (9, .iload_n 2, 1, 2, 0, 0, []), (10, .if_icmp .ge 20, 3, 30, 0, 0, []), (13, .aload 4, 2, 4, 0, 0, []), (15, .getfield 54, 3, 2, 7, 0, []), (18, .iload_n 3, 1, 3, 0, 0, []), (19, .aload 4, 2, 4, 0, 0, []), (21, .getfield 54, 3, 2, 7, 0, []), (24, .iload_n 2, 1, 2, 0, 0, []), (25, .iaload, 1, 0, 0, 0, []), (26, .iastore, 1, 0, 0, 0, []), (27, .goto 17, 3, 44, 0, 0, []), (30, .aload 4, 2, 4, 0, 0, []), (32, .getfield 50, 3, 2, 6, 0, []), (35, .iload_n 3, 1, 3, 0, 0, []), (36, .aload 4, 2, 4, 0, 0, []), (38, .getfield 50, 3, 2, 6, 0, []), (41, .iload_n 2, 1, 2, 0, 0, []), (42, .iaload, 1, 0, 0, 0, []), (43, .iastore, 1, 0, 0, 0, []), (44, .aload 4, 2, 4, 0, 0, []), (46, .iload_n 2, 1, 2, 0, 0, []), (47, .invokevirtual 93, 3, 31, 1, 0, [0, 12]), (50, .return_, 1, 0, 0, 0, [])]
def zK_X3_removeWhole : List zEnt := [(0, .aload_n 0, 1, 0, 0, 0, []), (1, .getfield 11, 3, 3, 1, 0, []), (4, .iload_n 1, 1, 1, 0, 0, []), (5, .aaload, 1, 0, 0, 0, []), (6, .getfield 50, 3, 2, 6, 0, []), (9, .iload_n 2, 1, 2, 0, 0, []), (10, .iaload, 1, 0, 0, 0, []), (11, .istore_n 3, 1, 3, 0, 0, []), (12, .aload_n 0, 1, 0, 0, 0, []), (13, .getfield 11, 3, 3, 1, 0, []), (16, .iload_n 1, 1, 1, 0, 0, []), (17, .aaload, 1, 0, 0, 0, []), (18, .getfield 54, 3, 2, 7, 0, []), (21, .iload_n 2, 1, 2, 0, 0, []), (22, .iaload, 1, 0, 0, 0, []), (23, .istore 4, 2, 4, 0, 0, []), (25, .aload_n 0, 1, 0, 0, 0, []), (26, .getfield 11, 3, 3, 1, 0, []), (29, .iload_n 1, 1, 1, 0, 0, []), (30, .aaload, 1, 0, 0, 0, []), (31, .iload_n 3, 1, 3, 0, 0, []), (32, .iload 4, 2, 4, 0, 0, []), (34, .invokevirtual 97, 3, 32, 2, 0, [1, 12]), (37, .istore 5, 2, 5, 0, 0, []), (39, .iload_n 1, 1, 1, 0, 0, []), (40, .iconst 1, 1, 0, 0, 1, []), (41, .iadd, 1, 0, 0, 0, []), (42, .istore 6, 2, 6, 0, 0, []), (44, .iload 6, 2, 6, 0, 0, []), (46, .aload_n 0, 1, 0, 0, 0, []), (47, .getfield 18, 3, 3, 0, 0, []), (50, .if_icmp .ge 65, 3, 115, 0, 0, []), (53, .aload_n 0, 1, 0, 0, 0, []), (54, .iload 6, 2, 6, 0, 0, []), (56, .iload_n 1, 1, 1, 0, 0, []), (57, .invokevirtual 100, 3, 57, 2, 0, [1, 13]), (60, .ifCond .eq 49, 3, 109, 0, 0, []), (63, .iload 5, 2, 5, 0, 0, []), (65, .aload_n 0, 1, 0, 0, 0, []), (66, .getfield 11, 3, 3, 1, 0, []), (69, .iload 6, 2, 6, 0, 0, []), (71, .aaload, 1, 0, 0, 0, []), (72, .getfield 37, 3, 2, 1, 0, []), (75, .iconst 3, 1, 0, 0, 3, []), (76, .if_icmp .ne 17, 3, 93, 0, 0, []), (79, .aload_n 0, 1, 0, 0, 0, []), (80, .aload_n 0, 1, 0, 0, 0, []), (81, .getfield 11, 3, 3, 1, 0, []), (84, .iload 6, 2, 6, 0, 0, []), (86, .aaload, 1, 0, 0, 0, []), (87, .invokevirtual 103, 3, 70, 1, 0, [1, 13]), (90, .goto 16, 3, 106, 0, 0, []), (93, .aload_n 0, 1, 0, 0, 0, []), (94, .getfield 11, 3, 3, 1, 0, []), (97, .iload 6, 2, 6, 0, 0, []), (99, .aaload, 1, 0, 0, 0, []), (100, .iload_n 3, 1, 3, 0, 0, []), (101, .iload 4, 2, 4, 0, 0, []), (103, .invokevirtual 97, 3, 32, 2, 0, [1, 12]), (106, .iadd, 1, 0, 0, 0, []), (107, .istore 5, 2, 5, 0, 0, []), (109, .iinc 6 1, 3, 6, 0, 1, []), (112, .goto (-68), 3, 44, 0, 0, []), (115, .iload 5, 2, 5, 0, 0, []), (117, .ireturn, 1, 0, 0, 0, [])]
def zK_X3_removeLostPoints : List zEnt := [(0, .iconst 0, 1, 0, 0, 0, []), (1, .istore_n 2, 1, 2, 0, 0, []), (2, .aload_n 1, 1, 1, 0, 0, []), (3, .getfield 29, 3, 2, 5, 0, []), (6, .iconst 1, 1, 0, 0, 1, []), (7, .isub, 1, 0, 0, 0, []), (8, .istore_n 3, 1, 3, 0, 0, []), (9, .iload_n 3, 1, 3, 0, 0, []), (10, .ifCond .lt 37, 3, 47, 0, 0, []), (13, .aload_n 0, 1, 0, 0, 0, []), (14, .aload_n 1, 1, 1, 0, 0, []), (15, .aload_n 1, 1, 1, 0, 0, []), (16, .getfield 50, 3, 2, 6, 0, []), (19, .iload_n 3, 1, 3, 0, 0, []), (20, .iaload, 1, 0, 0, 0, []), (21, .aload_n 1, 1, 1, 0, 0, []), (22, .getfield 54, 3, 2, 7, 0, []), (25, .iload_n 3, 1, 3, 0, 0, []), (26, .iaload, 1, 0, 0, 0, []), (27, .invokevirtual 75, 3, 62, 3, 0, [1, 13]), (30, .ifCond .ne 11, 3, 41, 0, 0, []), (33, .aload_n 1, 1, 1, 0, 0, []), (34, .iload_n 3, 1, 3, 0, 0, []), (35, .invokevirtual 93, 3, 31, 1, 0, [0, 12]), (38, .iinc 2 1, 3, 2, 0, 1, []), (41, .iinc 3 (-1), 3, 3, 0, -1, []), (44, .goto (-35), 3, 9, 0, 0, []), (47, .iload_n 2, 1, 2, 0, 0, []), (48, .ireturn, 1, 0, 0, 0, [])]
def zK_X3_isCutWith : List zEnt := [(0, .iload_n 1, 1, 1, 0, 0, []), (1, .iload_n 2, 1, 2, 0, 0, []), (2, .if_icmp .eq 27, 3, 29, 0, 0, []), (5, .aload_n 0, 1, 0, 0, 0, []), (6, .getfield 11, 3, 3, 1, 0, []), (9, .iload_n 1, 1, 1, 0, 0, []), (10, .aaload, 1, 0, 0, 0, []), (11, .getfield 37, 3, 2, 1, 0, []), (14, .iconst 1, 1, 0, 0, 1, []), (15, .if_icmp .ne 12, 3, 27, 0, 0, []), (18, .aload_n 0, 1, 0, 0, 0, []), (19, .iload_n 1, 1, 1, 0, 0, []), (20, .iload_n 2, 1, 2, 0, 0, []), (21, .invokevirtual 100, 3, 57, 2, 0, [1, 13]), (24, .ifCond .ne 5, 3, 29, 0, 0, []), (27, .iconst 0, 1, 0, 0, 0, []), (28, .ireturn, 1, 0, 0, 0, []), (29, .aload_n 0, 1, 0, 0, 0, []), (30, .getfield 11, 3, 3, 1, 0, []), (33, .iload_n 1, 1, 1, 0, 0, []), (34, .aaload, 1, 0, 0, 0, []), (35, .iload_n 3, 1, 3, 0, 0, []), (36, .invokevirtual 107, 3, 41, 1, 0, [1, 12]), (39, .iconst (-1), 1, 0, 0, -1, []), (40, .if_icmp .eq 7, 3, 47, 0, 0, []), (43, .iconst 1, 1, 0, 0, 1, []), (44, .goto 4, 3, 48, 0, 0, []), (47, .iconst 0, 1, 0, 0, 0, []), (48, .ireturn, 1, 0, 0, 0, [])]
def zK_X3_allowsCut : List zEnt := [(0, .aload_n 0, 1, 0, 0, 0, []), (1, .getfield 11, 3, 3, 1, 0, []), (4, .iload_n 1, 1, 1, 0, 0, []), (5, .aaload, 1, 0, 0, 0, []), (6, .getfield 37, 3, 2, 1, 0, []), (9, .iconst 3, 1, 0, 0, 3, []), (10, .if_icmp .eq 17, 3, 27, 0, 0, []), (13, .aload_n 0, 1, 0, 0, 0, []), (14, .getfield 11, 3, 3, 1, 0, []), (17, .iload_n 1, 1, 1, 0, 0, []), (18, .aaload, 1, 0, 0, 0, []), (19, .iload_n 2, 1, 2, 0, 0, []), (20, .invokevirtual 107, 3, 41, 1, 0, [1, 12]), (23, .iconst (-1), 1, 0, 0, -1, []), (24, .if_icmp .ne 5, 3, 29, 0, 0, []), (27, .iconst 0, 1, 0, 0, 0, []), (28, .ireturn, 1, 0, 0, 0, []), (29, .iload_n 1, 1, 1, 0, 0, []), (30, .iconst 1, 1, 0, 0, 1, []), (31, .iadd, 1, 0, 0, 0, []), (32, .istore_n 3, 1, 3, 0, 0, []), (33, .iload_n 3, 1, 3, 0, 0, []), (34, .aload_n 0, 1, 0, 0, 0, []), (35, .getfield 18, 3, 3, 0, 0, []), (38, .if_icmp .ge 47, 3, 85, 0, 0, []), (41, .aload_n 0, 1, 0, 0, 0, []), (42, .getfield 11, 3, 3, 1, 0, []), (45, .iload_n 3, 1, 3, 0, 0, []), (46, .aaload, 1, 0, 0, 0, []), (47, .getfield 37, 3, 2, 1, 0, []), (50, .iconst 2, 1, 0, 0, 2, []), (51, .if_icmp .ne 28, 3, 79, 0, 0, []), (54, .aload_n 0, 1, 0, 0, 0, []), (55, .iload_n 3, 1, 3, 0, 0, []), (56, .iload_n 1, 1, 1, 0, 0, []), (57, .invokevirtual 100, 3, 57, 2, 0, [1, 13]), (60, .ifCond .eq 19, 3, 79, 0, 0, []), (63, .aload_n 0, 1, 0, 0, 0, []), (64, .getfield 11, 3, 3, 1, 0, []), (67, .iload_n 3, 1, 3, 0, 0, []), (68, .aaload, 1, 0, 0, 0, []), (69, .iload_n 2, 1, 2, 0, 0, []), (70, .invokevirtual 107, 3, 41, 1, 0, [1, 12]), (73, .iconst (-1), 1, 0, 0, -1, []), (74, .if_icmp .eq 5, 3, 79, 0, 0, []), (77, .iconst 0, 1, 0, 0, 0, []), (78, .ireturn, 1, 0, 0, 0, []), (79, .iinc 3 1, 3, 3, 0, 1, []), (82, .goto (-49), 3, 33, 0, 0, []), (85, .iconst 1, 1, 0, 0, 1, []), (86, .ireturn, 1, 0, 0, 0, [])]
def zK_X3_hasRoomForCut : List zEnt := [(0, .iload_n 1, 1, 1, 0, 0, []), (1, .istore_n 3, 1, 3, 0, 0, []), (2, .iload_n 3, 1, 3, 0, 0, []), (3, .aload_n 0, 1, 0, 0, 0, []), (4, .getfield 18, 3, 3, 0, 0, []), (7, .if_icmp .ge 33, 3, 40, 0, 0, []), (10, .aload_n 0, 1, 0, 0, 0, []), (11, .iload_n 3, 1, 3, 0, 0, []), (12, .iload_n 1, 1, 1, 0, 0, []), (13, .iload_n 2, 1, 2, 0, 0, []), (14, .invokevirtual 110, 3, 71, 3, 0, [1, 13]), (17, .ifCond .eq 17, 3, 34, 0, 0, []), (20, .aload_n 0, 1, 0, 0, 0, []), (21, .getfield 11, 3, 3, 1, 0, []), (24, .iload_n 3, 1, 3, 0, 0, []), (25, .aaload, 1, 0, 0, 0, []), (26, .invokevirtual 82, 3, 26, 0, 0, [1, 12]), (29, .ifCond .eq 5, 3, 34, 0, 0, []), (32, .iconst 0, 1, 0, 0, 0, []), (33, .ireturn, 1, 0, 0, 0, []), (34, .iinc 3 1, 3, 3, 0, 1, []), (37, .goto (-35), 3, 2, 0, 0, []), (40, .iconst 1, 1, 0, 0, 1, []), (41, .ireturn, 1, 0, 0, 0, [])]
def zK_X3_cutAt : List zEnt := [(0, .iconst 0, 1, 0, 0, 0, []), (1, .istore_n 3, 1, 3, 0, 0, []), (2, .iload_n 1, 1, 1, 0, 0, []), (3, .istore 4, 2, 4, 0, 0, []), (5, .iload 4, 2, 4, 0, 0, []), (7, .aload_n 0, 1, 0, 0, 0, []), (8, .getfield 18, 3, 3, 0, 0, []), (11, .if_icmp .ge 45, 3, 56, 0, 0, []), (14, .aload_n 0, 1, 0, 0, 0, []), (15, .iload 4, 2, 4, 0, 0, []), (17, .iload_n 1, 1, 1, 0, 0, []), (18, .iload_n 2, 1, 2, 0, 0, []), (19, .invokevirtual 110, 3, 71, 3, 0, [1, 13]), (22, .ifCond .eq 28, 3, 50, 0, 0, []), (25, .aload_n 0, 1, 0, 0, 0, []), (26, .getfield 11, 3, 3, 1, 0, []), (29, .iload 4, 2, 4, 0, 0, []), (31, .aaload, 1, 0, 0, 0, []), (32, .aload_n 0, 1, 0, 0, 0, []), (33, .getfield 11, 3, 3, 1, 0, []), (36, .iload 4, 2, 4, 0, 0, []), (38, .aaload, 1, 0, 0, 0, []), (39, .iload_n 2, 1, 2, 0, 0, []), (40, .invokevirtual 107, 3, 41, 1, 0, [1, 12]), (43, .iload_n 2, 1, 2, 0, 0, []), (44, .invokevirtual 113, 3, 33, 2, 0, [0, 12]), (47, .iinc 3 1, 3, 3, 0, 1, []), (50, .iinc 4 1, 3, 4, 0, 1, []), (53, .goto (-48), 3, 5, 0, 0, []), (56, .iload_n 3, 1, 3, 0, 0, []), (57, .ireturn, 1, 0, 0, 0, [])]
def zK_X3_allowsJoin : List zEnt := [(0, .aload_n 0, 1, 0, 0, 0, []), (1, .getfield 11, 3, 3, 1, 0, []), (4, .iload_n 1, 1, 1, 0, 0, []), (5, .aaload, 1, 0, 0, 0, []), (6, .astore_n 3, 1, 3, 0, 0, []), (7, .aload_n 3, 1, 3, 0, 0, []), (8, .getfield 37, 3, 2, 1, 0, []), (11, .iconst 3, 1, 0, 0, 3, []), (12, .if_icmp .eq 21, 3, 33, 0, 0, []), (15, .aload_n 3, 1, 3, 0, 0, []), (16, .iload_n 2, 1, 2, 0, 0, []), (17, .invokevirtual 61, 3, 27, 1, 0, [1, 12]), (20, .ifCond .eq 13, 3, 33, 0, 0, []), (23, .aload_n 3, 1, 3, 0, 0, []), (24, .iload_n 2, 1, 2, 0, 0, []), (25, .iconst 1, 1, 0, 0, 1, []), (26, .iadd, 1, 0, 0, 0, []), (27, .invokevirtual 61, 3, 27, 1, 0, [1, 12]), (30, .ifCond .ne 5, 3, 35, 0, 0, []), (33, .iconst 0, 1, 0, 0, 0, []), (34, .ireturn, 1, 0, 0, 0, []), (35, .aload_n 3, 1, 3, 0, 0, []), (36, .getfield 54, 3, 2, 7, 0, []), (39, .iload_n 2, 1, 2, 0, 0, []), (40, .iaload, 1, 0, 0, 0, []), (41, .aload_n 3, 1, 3, 0, 0, []), (42, .getfield 50, 3, 2, 6, 0, []), (45, .iload_n 2, 1, 2, 0, 0, []), (46, .iconst 1, 1, 0, 0, 1, []), (47, .iadd, 1, 0, 0, 0, []), (48, .iaload, 1, 0, 0, 0, []), (49, .if_icmp .ne 19, 3, 68, 0, 0, []), (52, .aload_n 0, 1, 0, 0, 0, []), (53, .iload_n 1, 1, 1, 0, 0, []), (54, .iload_n 2, 1, 2, 0, 0, []), (55, .iload_n 2, 1, 2, 0, 0, []), (56, .iconst 1, 1, 0, 0, 1, []), (57, .iadd, 1, 0, 0, 0, []), (58, .invokevirtual 89, 3, 60, 3, 0, [1, 13]), (61, .ifCond .eq 7, 3, 68, 0, 0, []), (64, .iconst 1, 1, 0, 0, 1, []), (65, .goto 4, 3, 69, 0, 0, []), (68, .iconst 0, 1, 0, 0, 0, []), (69, .ireturn, 1, 0, 0, 0, [])]
def zK_X3_gapBehind : List zEnt := [(0, .aload_n 0, 1, 0, 0, 0, []), (1, .getfield 11, 3, 3, 1, 0, []), (4, .iload_n 1, 1, 1, 0, 0, []), (5, .aaload, 1, 0, 0, 0, []), (6, .astore_n 3, 1, 3, 0, 0, []), (7, .aload_n 3, 1, 3, 0, 0, []), (8, .getfield 37, 3, 2, 1, 0, []), (11, .iconst 3, 1, 0, 0, 3, []), (12, .if_icmp .eq 21, 3, 33, 0, 0, []), (15, .aload_n 3, 1, 3, 0, 0, []), (16, .iload_n 2, 1, 2, 0, 0, []), (17, .invokevirtual 61, 3, 27, 1, 0, [1, 12]), (20, .ifCond .eq 13, 3, 33, 0, 0, []), (23, .aload_n 3, 1, 3, 0, 0, []), (24, .iload_n 2, 1, 2, 0, 0, []), (25, .iconst 1, 1, 0, 0, 1, []), (26, .iadd, 1, 0, 0, 0, []), (27, .invokevirtual 61, 3, 27, 1, 0, [1, 12]), (30, .ifCond .ne 5, 3, 35, 0, 0, []), (33, .iconst 0, 1, 0, 0, 0, []), (34, .ireturn, 1, 0, 0, 0, []), (35, .aload_n 0, 1, 0, 0, 0, []), (36, .iload_n 1, 1, 1, 0, 0, []), (37, .iload_n 2, 1, 2, 0, 0, []), (38, .iload_n 2, 1, 2, 0, 0, []), (39, .iconst 1, 1, 0, 0, 1, []), (40, .iadd, 1, 0, 0, 0, []), (41, .invokevirtual 89, 3, 60, 3, 0, [1, 13]), (44, .ifCond .eq 21, 3, 65, 0, 0, []), (47, .aload_n 3, 1, 3, 0, 0, []), (48, .getfield 50, 3, 2, 6, 0, []), (51, .iload_n 2, 1, 2, 0, 0, []), (52, .iconst 1, 1, 0, 0, 1, []), (53, .iadd, 1, 0, 0, 0, []), (54, .iaload, 1, 0, 0, 0, []), (55, .aload_n 3, 1, 3, 0, 0, []), (56, .getfield 54, 3, 2, 7, 0, []), (59, .iload_n 2, 1, 2, 0, 0, []), (60, .iaload, 1, 0, 0, 0, []), (61, .isub, 1, 0, 0, 0, []), (62, .goto 4, 3, 66, 0, 0, []), (65, .iconst 0, 1, 0, 0, 0, []), (66, .ireturn, 1, 0, 0, 0, [])]
def zK_X3_listStops : List zEnt := [(0, .aload_n 2, 1, 2, 0, 0, []), (1, .invokevirtual 117, 3, 86, 0, 0, [0, 14]), (4, .iconst 0, 1, 0, 0, 0, []), (5, .istore_n 3, 1, 3, 0, 0, []), (6, .iload_n 3, 1, 3, 0, 0, []), (7, .aload_n 0, 1, 0, 0, 0, []), (8, .getfield 18, 3, 3, 0, 0, []), (11, .if_icmp .ge 32, 3, 43, 0, 0, []), (14, .aload_n 0, 1, 0, 0, 0, []), (15, .getfield 11, 3, 3, 1, 0, []), (18, .iload_n 3, 1, 3, 0, 0, []), (19, .aaload, 1, 0, 0, 0, []), (20, .getfield 44, 3, 2, 3, 0, []), (23, .iload_n 1, 1, 1, 0, 0, []), (24, .if_icmp .ne 13, 3, 37, 0, 0, []), (27, .aload_n 0, 1, 0, 0, 0, []), (28, .getfield 11, 3, 3, 1, 0, []), (31, .iload_n 3, 1, 3, 0, 0, []), (32, .aaload, 1, 0, 0, 0, []), (33, .aload_n 2, 1, 2, 0, 0, []), (34, .invokevirtual 122, 3, 44, 1, 0, [0, 12]), (37, .iinc 3 1, 3, 3, 0, 1, []), (40, .goto (-34), 3, 6, 0, 0, []), (43, .return_, 1, 0, 0, 0, [])]
def zK_X3_countEnds : List zEnt := [(0, .iconst 0, 1, 0, 0, 0, []), (1, .istore_n 3, 1, 3, 0, 0, []), (2, .iconst 0, 1, 0, 0, 0, []), (3, .istore 4, 2, 4, 0, 0, []), (5, .iload 4, 2, 4, 0, 0, []), (7, .aload_n 0, 1, 0, 0, 0, []), (8, .getfield 18, 3, 3, 0, 0, []), (11, .if_icmp .ge 37, 3, 48, 0, 0, []), (14, .aload_n 0, 1, 0, 0, 0, []), (15, .getfield 11, 3, 3, 1, 0, []), (18, .iload 4, 2, 4, 0, 0, []), (20, .aaload, 1, 0, 0, 0, []), (21, .getfield 44, 3, 2, 3, 0, []), (24, .iload_n 1, 1, 1, 0, 0, []), (25, .if_icmp .ne 17, 3, 42, 0, 0, []), (28, .iload_n 3, 1, 3, 0, 0, []), (29, .aload_n 0, 1, 0, 0, 0, []), (30, .getfield 11, 3, 3, 1, 0, []), (33, .iload 4, 2, 4, 0, 0, []), (35, .aaload, 1, 0, 0, 0, []), (36, .iload_n 2, 1, 2, 0, 0, []), (37, .invokevirtual 126, 3, 46, 1, 0, [1, 12]), (40, .iadd, 1, 0, 0, 0, []), (41, .istore_n 3, 1, 3, 0, 0, []), (42, .iinc 4 1, 3, 4, 0, 1, []), (45, .goto (-40), 3, 5, 0, 0, []), (48, .iload_n 3, 1, 3, 0, 0, []), (49, .ireturn, 1, 0, 0, 0, [])]
def zK_X3_leastFor : List zEnt := [(0, .iconst 0, 1, 0, 0, 0, []), (1, .istore_n 3, 1, 3, 0, 0, []), (2, .iconst 0, 1, 0, 0, 0, []), (3, .istore 4, 2, 4, 0, 0, []), (5, .iload 4, 2, 4, 0, 0, []), (7, .aload_n 0, 1, 0, 0, 0, []), (8, .getfield 18, 3, 3, 0, 0, []), (11, .if_icmp .ge 121, 3, 132, 0, 0, []), (14, .iconst 0, 1, 0, 0, 0, []), (15, .istore 5, 2, 5, 0, 0, []), (17, .aload_n 0, 1, 0, 0, 0, []), (18, .getfield 11, 3, 3, 1, 0, []), (21, .iload 4, 2, 4, 0, 0, []), (23, .aaload, 1, 0, 0, 0, []), (24, .getfield 44, 3, 2, 3, 0, []), (27, .iload_n 1, 1, 1, 0, 0, []), (28, .if_icmp .ne 98, 3, 126, 0, 0, []), (31, .iload 5, 2, 5, 0, 0, []), (33, .aload_n 0, 1, 0, 0, 0, []), (34, .getfield 11, 3, 3, 1, 0, []), (37, .iload 4, 2, 4, 0, 0, []), (39, .aaload, 1, 0, 0, 0, []), (40, .getfield 29, 3, 2, 5, 0, []), (43, .if_icmp .ge 83, 3, 126, 0, 0, []), (46, .aload_n 0, 1, 0, 0, 0, []), (47, .getfield 11, 3, 3, 1, 0, []), (50, .iload 4, 2, 4, 0, 0, []), (52, .aaload, 1, 0, 0, 0, []), (53, .getfield 50, 3, 2, 6, 0, []), (56, .iload 5, 2, 5, 0, 0, []), (58, .iaload, 1, 0, 0, 0, []), (59, .iload_n 2, 1, 2, 0, 0, []), (60, .if_icmp .ge 23, 3, 83, 0, 0, []), (63, .iload_n 3, 1, 3, 0, 0, []), (64, .aload_n 0, 1, 0, 0, 0, []), (65, .getfield 11, 3, 3, 1, 0, []), (68, .iload 4, 2, 4, 0, 0, []), (70, .aaload, 1, 0, 0, 0, []), (71, .getfield 50, 3, 2, 6, 0, []), (74, .iload 5, 2, 5, 0, 0, []), (76, .iaload, 1, 0, 0, 0, []), (77, .iconst 1, 1, 0, 0, 1, []), (78, .iadd, 1, 0, 0, 0, []), (79, .invokestatic 129, 3, 1000, 2, 0, []), (82, .istore_n 3, 1, 3, 0, 0, []), (83, .aload_n 0, 1, 0, 0, 0, []), (84, .getfield 11, 3, 3, 1, 0, []), (87, .iload 4, 2, 4, 0, 0, []), (89, .aaload, 1, 0, 0, 0, []), (90, .getfield 54, 3, 2, 7, 0, []), (93, .iload 5, 2, 5, 0, 0, []), (95, .iaload, 1, 0, 0, 0, []), (96, .iload_n 2, 1, 2, 0, 0, []), (97, .if_icmp .ge 23, 3, 120, 0, 0, []), (100, .iload_n 3, 1, 3, 0, 0, []), (101, .aload_n 0, 1, 0, 0, 0, []), (102, .getfield 11, 3, 3, 1, 0, []), (105, .iload 4, 2, 4, 0, 0, []), (107, .aaload, 1, 0, 0, 0, []), (108, .getfield 54, 3, 2, 7, 0, []), (111, .iload 5, 2, 5, 0, 0, []), (113, .iaload, 1, 0, 0, 0, []), (114, .iconst 1, 1, 0, 0, 1, []), (115, .iadd, 1, 0, 0, 0, []), (116, .invokestatic 129, 3, 1000, 2, 0, []), (119, .istore_n 3, 1, 3, 0, 0, []), (120, .iinc 5 1, 3, 5, 0, 1, []), (123, .goto (-106), 3, 17, 0, 0, []), (126, .iinc 4 1, 3, 4, 0, 1, []), (129, .goto (-124), 3, 5, 0, 0, []), (132, .iload_n 3, 1, 3, 0, 0, []), (133, .ireturn, 1, 0, 0, 0, [])]
def zK_X3_greatestFor : List zEnt := [(0, .sipush 999, 3, 0, 0, 999, []), (3, .istore_n 3, 1, 3, 0, 0, []), (4, .iconst 0, 1, 0, 0, 0, []), (5, .istore 4, 2, 4, 0, 0, []), (7, .iload 4, 2, 4, 0, 0, []), (9, .aload_n 0, 1, 0, 0, 0, []), (10, .getfield 18, 3, 3, 0, 0, []), (13, .if_icmp .ge 121, 3, 134, 0, 0, []), (16, .iconst 0, 1, 0, 0, 0, []), (17, .istore 5, 2, 5, 0, 0, []), (19, .aload_n 0, 1, 0, 0, 0, []), (20, .getfield 11, 3, 3, 1, 0, []), (23, .iload 4, 2, 4, 0, 0, []), (25, .aaload, 1, 0, 0, 0, []), (26, .getfield 44, 3, 2, 3, 0, []), (29, .iload_n 1, 1, 1, 0, 0, []), (30, .if_icmp .ne 98, 3, 128, 0, 0, []), (33, .iload 5, 2, 5, 0, 0, []), (35, .aload_n 0, 1, 0, 0, 0, []), (36, .getfield 11, 3, 3, 1, 0, []), (39, .iload 4, 2, 4, 0, 0, []), (41, .aaload, 1, 0, 0, 0, []), (42, .getfield 29, 3, 2, 5, 0, []), (45, .if_icmp .ge 83, 3, 128, 0, 0, []), (48, .aload_n 0, 1, 0, 0, 0, []), (49, .getfield 11, 3, 3, 1, 0, []), (52, .iload 4, 2, 4, 0, 0, []), (54, .aaload, 1, 0, 0, 0, []), (55, .getfield 50, 3, 2, 6, 0, []), (58, .iload 5, 2, 5, 0, 0, []), (60, .iaload, 1, 0, 0, 0, []), (61, .iload_n 2, 1, 2, 0, 0, []), (62, .if_icmp .le 23, 3, 85, 0, 0, []), (65, .iload_n 3, 1, 3, 0, 0, []), (66, .aload_n 0, 1, 0, 0, 0, []), (67, .getfield 11, 3, 3, 1, 0, []), (70, .iload 4, 2, 4, 0, 0, []), (72, .aaload, 1, 0, 0, 0, []), (73, .getfield 50, 3, 2, 6, 0, []), (76, .iload 5, 2, 5, 0, 0, []), (78, .iaload, 1, 0, 0, 0, []), (79, .iconst 1, 1, 0, 0, 1, []), (80, .isub, 1, 0, 0, 0, []), (81, .invokestatic 134, 3, 1001, 2, 0, []), (84, .istore_n 3, 1, 3, 0, 0, []), (85, .aload_n 0, 1, 0, 0, 0, []), (86, .getfield 11, 3, 3, 1, 0, []), (89, .iload 4, 2, 4, 0, 0, []), (91, .aaload, 1, 0, 0, 0, []), (92, .getfield 54, 3, 2, 7, 0, []), (95, .iload 5, 2, 5, 0, 0, []), (97, .iaload, 1, 0, 0, 0, []), (98, .iload_n 2, 1, 2, 0, 0, []), (99, .if_icmp .le 23, 3, 122, 0, 0, []), (102, .iload_n 3, 1, 3, 0, 0, []), (103, .aload_n 0, 1, 0, 0, 0, []), (104, .getfield 11, 3, 3, 1, 0, []), (107, .iload 4, 2, 4, 0, 0, []), (109, .aaload, 1, 0, 0, 0, []), (110, .getfield 54, 3, 2, 7, 0, []), (113, .iload 5, 2, 5, 0, 0, []), (115, .iaload, 1, 0, 0, 0, []), (116, .iconst 1, 1, 0, 0, 1, []), (117, .isub, 1, 0, 0, 0, []), (118, .invokestatic 134, 3, 1001, 2, 0, []), (121, .istore_n 3, 1, 3, 0, 0, []), (122, .iinc 5 1, 3, 5, 0, 1, []), (125, .goto (-106), 3, 19, 0, 0, []), (128, .iinc 4 1, 3, 4, 0, 1, []), (131, .goto (-124), 3, 7, 0, 0, []), (134, .iload_n 3, 1, 3, 0, 0, []), (135, .ireturn, 1, 0, 0, 0, [])]
def zK_X3_allowsShift : List zEnt := [(0, .iload_n 3, 1, 3, 0, 0, []), (1, .aload_n 0, 1, 0, 0, 0, []), (2, .iload_n 1, 1, 1, 0, 0, []), (3, .iload_n 2, 1, 2, 0, 0, []), (4, .invokevirtual 137, 3, 79, 2, 0, [1, 13]), (7, .if_icmp .lt 17, 3, 24, 0, 0, []), (10, .iload_n 3, 1, 3, 0, 0, []), (11, .aload_n 0, 1, 0, 0, 0, []), (12, .iload_n 1, 1, 1, 0, 0, []), (13, .iload_n 2, 1, 2, 0, 0, []), (14, .invokevirtual 140, 3, 80, 2, 0, [1, 13]), (17, .if_icmp .gt 7, 3, 24, 0, 0, []), (20, .iconst 1, 1, 0, 0, 1, []), (21, .goto 4, 3, 25, 0, 0, []), (24, .iconst 0, 1, 0, 0, 0, []), (25, .ireturn, 1, 0, 0, 0, [])]
def zK_X3_shiftStop : List zEnt := [(0, .aload_n 0, 1, 0, 0, 0, []), (1, .iload_n 1, 1, 1, 0, 0, []), (2, .iload_n 2, 1, 2, 0, 0, []), (3, .invokevirtual 143, 3, 78, 2, 0, [1, 13]), (6, .istore 4, 2, 4, 0, 0, []), (8, .iconst 0, 1, 0, 0, 0, []), (9, .istore 5, 2, 5, 0, 0, []), (11, .iload 5, 2, 5, 0, 0, []), (13, .aload_n 0, 1, 0, 0, 0, []), (14, .getfield 18, 3, 3, 0, 0, []), (17, .if_icmp .ge 35, 3, 52, 0, 0, []), (20, .aload_n 0, 1, 0, 0, 0, []), (21, .getfield 11, 3, 3, 1, 0, []), (24, .iload 5, 2, 5, 0, 0, []), (26, .aaload, 1, 0, 0, 0, []), (27, .getfield 44, 3, 2, 3, 0, []), (30, .iload_n 1, 1, 1, 0, 0, []), (31, .if_icmp .ne 15, 3, 46, 0, 0, []), (34, .aload_n 0, 1, 0, 0, 0, []), (35, .getfield 11, 3, 3, 1, 0, []), (38, .iload 5, 2, 5, 0, 0, []), (40, .aaload, 1, 0, 0, 0, []), (41, .iload_n 2, 1, 2, 0, 0, []), (42, .iload_n 3, 1, 3, 0, 0, []), (43, .invokevirtual 145, 3, 47, 2, 0, [0, 12]), (46, .iinc 5 1, 3, 5, 0, 1, []), (49, .goto (-38), 3, 11, 0, 0, []), (52, .iload 4, 2, 4, 0, 0, []), (54, .ireturn, 1, 0, 0, 0, [])]
def zK_X3_allowsSilence : List zEnt := [(0, .iconst 0, 1, 0, 0, 0, []), (1, .istore_n 3, 1, 3, 0, 0, []), (2, .iload_n 3, 1, 3, 0, 0, []), (3, .aload_n 0, 1, 0, 0, 0, []), (4, .getfield 18, 3, 3, 0, 0, []), (7, .if_icmp .ge 63, 3, 70, 0, 0, []), (10, .aload_n 0, 1, 0, 0, 0, []), (11, .getfield 11, 3, 3, 1, 0, []), (14, .iload_n 3, 1, 3, 0, 0, []), (15, .aaload, 1, 0, 0, 0, []), (16, .getfield 29, 3, 2, 5, 0, []), (19, .istore 4, 2, 4, 0, 0, []), (21, .iload 4, 2, 4, 0, 0, []), (23, .ifCond .ne 7, 3, 30, 0, 0, []), (26, .iconst 0, 1, 0, 0, 0, []), (27, .goto 17, 3, 44, 0, 0, []), (30, .aload_n 0, 1, 0, 0, 0, []), (31, .getfield 11, 3, 3, 1, 0, []), (34, .iload_n 3, 1, 3, 0, 0, []), (35, .aaload, 1, 0, 0, 0, []), (36, .getfield 54, 3, 2, 7, 0, []), (39, .iload 4, 2, 4, 0, 0, []), (41, .iconst 1, 1, 0, 0, 1, []), (42, .isub, 1, 0, 0, 0, []), (43, .iaload, 1, 0, 0, 0, []), (44, .istore 5, 2, 5, 0, 0, []), (46, .iload 5, 2, 5, 0, 0, []), (48, .iload_n 1, 1, 1, 0, 0, []), (49, .if_icmp .le 15, 3, 64, 0, 0, []), (52, .iload 5, 2, 5, 0, 0, []), (54, .iload_n 2, 1, 2, 0, 0, []), (55, .iadd, 1, 0, 0, 0, []), (56, .sipush 999, 3, 0, 0, 999, []), (59, .if_icmp .le 5, 3, 64, 0, 0, []), (62, .iconst 0, 1, 0, 0, 0, []), (63, .ireturn, 1, 0, 0, 0, []), (64, .iinc 3 1, 3, 3, 0, 1, []), (67, .goto (-65), 3, 2, 0, 0, []), (70, .iconst 1, 1, 0, 0, 1, []), (71, .ireturn, 1, 0, 0, 0, [])]
def zK_X3_countStopsBehind : List zEnt := [(0, .iconst 0, 1, 0, 0, 0, []), (1, .istore_n 3, 1, 3, 0, 0, []), (2, .iconst 0, 1, 0, 0, 0, []), (3, .istore 4, 2, 4, 0, 0, []), (5, .iload 4, 2, 4, 0, 0, []), (7, .aload_n 0, 1, 0, 0, 0, []), (8, .getfield 18, 3, 3, 0, 0, []), (11, .if_icmp .ge 45, 3, 56, 0, 0, []), (14, .aload_n 0, 1, 0, 0, 0, []), (15, .getfield 11, 3, 3, 1, 0, []), (18, .iload 4, 2, 4, 0, 0, []), (20, .aaload, 1, 0, 0, 0, []), (21, .getfield 34, 3, 2, 2, 0, []), (24, .iconst (-1), 1, 0, 0, -1, []), (25, .if_icmp .ne 25, 3, 50, 0, 0, []), (28, .aload_n 0, 1, 0, 0, 0, []), (29, .iload 4, 2, 4, 0, 0, []), (31, .aload_n 2, 1, 2, 0, 0, []), (32, .invokevirtual 148, 3, 77, 2, 0, [0, 13]), (35, .iload_n 3, 1, 3, 0, 0, []), (36, .aload_n 2, 1, 2, 0, 0, []), (37, .getfield 152, 3, 4, 1, 0, []), (40, .aload_n 2, 1, 2, 0, 0, []), (41, .iload_n 1, 1, 1, 0, 0, []), (42, .iconst 1, 1, 0, 0, 1, []), (43, .iadd, 1, 0, 0, 0, []), (44, .invokevirtual 153, 3, 87, 1, 0, [1, 14]), (47, .isub, 1, 0, 0, 0, []), (48, .iadd, 1, 0, 0, 0, []), (49, .istore_n 3, 1, 3, 0, 0, []), (50, .iinc 4 1, 3, 4, 0, 1, []), (53, .goto (-48), 3, 5, 0, 0, []), (56, .iload_n 3, 1, 3, 0, 0, []), (57, .ireturn, 1, 0, 0, 0, [])]
def zK_X3_insertSilence : List zEnt := [(0, .iconst 0, 1, 0, 0, 0, []), (1, .istore_n 3, 1, 3, 0, 0, []), (2, .iload_n 3, 1, 3, 0, 0, []), (3, .aload_n 0, 1, 0, 0, 0, []), (4, .getfield 18, 3, 3, 0, 0, []), (7, .if_icmp .ge 20, 3, 27, 0, 0, []), (10, .aload_n 0, 1, 0, 0, 0, []), (11, .getfield 11, 3, 3, 1, 0, []), (14, .iload_n 3, 1, 3, 0, 0, []), (15, .aaload, 1, 0, 0, 0, []), (16, .iload_n 1, 1, 1, 0, 0, []), (17, .iload_n 2, 1, 2, 0, 0, []), (18, .invokevirtual 156, 3, 48, 2, 0, [0, 12]), (21, .iinc 3 1, 3, 3, 0, 1, []), (24, .goto (-22), 3, 2, 0, 0, []), (27, .return_, 1, 0, 0, 0, [])]
def zK_X4_clear : List zEnt := [(0, .aload_n 0, 1, 0, 0, 0, []), (1, .iconst 0, 1, 0, 0, 0, []), (2, .putfield 15, 3, 4, 1, 0, []), (5, .return_, 1, 0, 0, 0, [])]
def zK_X4_placeOf : List zEnt := [(0, .iconst 0, 1, 0, 0, 0, []), (1, .istore_n 2, 1, 2, 0, 0, []), (2, .aload_n 0, 1, 0, 0, 0, []), (3, .getfield 15, 3, 4, 1, 0, []), (6, .istore_n 3, 1, 3, 0, 0, []), (7, .iconst 0, 1, 0, 0, 0, []), (8, .istore 4, 2, 4, 0, 0, []), (10, .iload 4, 2, 4, 0, 0, []), (12, .sipush 480, 3, 0, 0, 480, []), (15, .if_icmp .ge 43, 3, 58, 0, 0, []), (18, .iload_n 2, 1, 2, 0, 0, []), (19, .iload_n 3, 1, 3, 0, 0, []), (20, .if_icmp .ge 38, 3, 58, 0, 0, []), (23, .iload_n 2, 1, 2, 0, 0, []), (24, .iload_n 3, 1, 3, 0, 0, []), (25, .iadd, 1, 0, 0, 0, []), (26, .iconst 2, 1, 0, 0, 2, []), (27, .idiv, 1, 0, 0, 0, []), (28, .istore 5, 2, 5, 0, 0, []), (30, .aload_n 0, 1, 0, 0, 0, []), (31, .getfield 9, 3, 4, 0, 0, []), (34, .iload 5, 2, 5, 0, 0, []), (36, .iaload, 1, 0, 0, 0, []), (37, .iload_n 1, 1, 1, 0, 0, []), (38, .if_icmp .ge 11, 3, 49, 0, 0, []), (41, .iload 5, 2, 5, 0, 0, []), (43, .iconst 1, 1, 0, 0, 1, []), (44, .iadd, 1, 0, 0, 0, []), (45, .istore_n 2, 1, 2, 0, 0, []), (46, .goto 6, 3, 52, 0, 0, []), (49, .iload 5, 2, 5, 0, 0, []), (51, .istore_n 3, 1, 3, 0, 0, []), (52, .iinc 4 1, 3, 4, 0, 1, []), (55, .goto (-45), 3, 10, 0, 0, []), (58, .iload_n 2, 1, 2, 0, 0, []), (59, .ireturn, 1, 0, 0, 0, [])]
def zK_X4_has : List zEnt := [(0, .aload_n 0, 1, 0, 0, 0, []), (1, .iload_n 1, 1, 1, 0, 0, []), (2, .invokevirtual 19, 3, 87, 1, 0, [1, 14]), (5, .istore_n 2, 1, 2, 0, 0, []), (6, .iload_n 2, 1, 2, 0, 0, []), (7, .aload_n 0, 1, 0, 0, 0, []), (8, .getfield 15, 3, 4, 1, 0, []), (11, .if_icmp .ge 17, 3, 28, 0, 0, []), (14, .aload_n 0, 1, 0, 0, 0, []), (15, .getfield 9, 3, 4, 0, 0, []), (18, .iload_n 2, 1, 2, 0, 0, []), (19, .iaload, 1, 0, 0, 0, []), (20, .iload_n 1, 1, 1, 0, 0, []), (21, .if_icmp .ne 7, 3, 28, 0, 0, []), (24, .iconst 1, 1, 0, 0, 1, []), (25, .goto 4, 3, 29, 0, 0, []), (28, .iconst 0, 1, 0, 0, 0, []), (29, .ireturn, 1, 0, 0, 0, [])]
def zK_X4_add : List zEnt := [(0, .aload_n 0, 1, 0, 0, 0, []), (1, .iload_n 1, 1, 1, 0, 0, []), (2, .invokevirtual 19, 3, 87, 1, 0, [1, 14]), (5, .istore_n 2, 1, 2, 0, 0, []), (6, .aload_n 0, 1, 0, 0, 0, []), (7, .getfield 15, 3, 4, 1, 0, []), (10, .aload_n 0, 1, 0, 0, 0, []), (11, .getfield 9, 3, 4, 0, 0, []), (14, .arraylength, 1, 0, 0, 0, []), (15, .if_icmp .ge 21, 3, 36, 0, 0, []), (18, .iload_n 2, 1, 2, 0, 0, []), (19, .aload_n 0, 1, 0, 0, 0, []), (20, .getfield 15, 3, 4, 1, 0, []), (23, .if_icmp .ge 14, 3, 37, 0, 0, []), (26, .aload_n 0, 1, 0, 0, 0, []), (27, .getfield 9, 3, 4, 0, 0, []), (30, .iload_n 2, 1, 2, 0, 0, []), (31, .iaload, 1, 0, 0, 0, []), (32, .iload_n 1, 1, 1, 0, 0, []), (33, .if_icmp .ne 4, 3, 37, 0, 0, []), (36, .return_, 1, 0, 0, 0, []), (37, .aload_n 0, 1, 0, 0, 0, []), (38, .getfield 15, 3, 4, 1, 0, []), (41, .istore_n 3, 1, 3, 0, 0, []), (42, .iload_n 3, 1, 3, 0, 0, []), (43, .iload_n 2, 1, 2, 0, 0, []), (44, .if_icmp .le 23, 3, 67, 0, 0, []), (47, .aload_n 0, 1, 0, 0, 0, []), (48, .getfield 9, 3, 4, 0, 0, []), (51, .iload_n 3, 1, 3, 0, 0, []), (52, .aload_n 0, 1, 0, 0, 0, []), (53, .getfield 9, 3, 4, 0, 0, []), (56, .iload_n 3, 1, 3, 0, 0, []), (57, .iconst 1, 1, 0, 0, 1, []), (58, .isub, 1, 0, 0, 0, []), (59, .iaload, 1, 0, 0, 0, []), (60, .iastore, 1, 0, 0, 0, []), (61, .iinc 3 (-1), 3, 3, 0, -1, []), (64, .goto (-22), 3, 42, 0, 0, []), (67, .aload_n 0, 1, 0, 0, 0, []), (68, .getfield 9, 3, 4, 0, 0, []), (71, .iload_n 2, 1, 2, 0, 0, []), (72, .iload_n 1, 1, 1, 0, 0, []), (73, .iastore, 1, 0, 0, 0, []), (74, .aload_n 0, 1, 0, 0, 0, []), (75, .dup, 1, 0, 0, 0, []), (76, .getfield 15, 3, 4, 1, 0, []), (79, .iconst 1, 1, 0, 0, 1, []), (80, .iadd, 1, 0, 0, 0, []), (81, .putfield 15, 3, 4, 1, 0, []), (84, .return_, 1, 0, 0, 0, [])]
def zK_X4_nearest : List zEnt := [(0, .aload_n 0, 1, 0, 0, 0, []), (1, .getfield 15, 3, 4, 1, 0, []), (4, .ifCond .ne 5, 3, 9, 0, 0, []), (7, .iconst (-1), 1, 0, 0, -1, []), (8, .ireturn, 1, 0, 0, 0, []), (9, .aload_n 0, 1, 0, 0, 0, []), (10, .iload_n 1, 1, 1, 0, 0, []), (11, .invokevirtual 19, 3, 87, 1, 0, [1, 14]), (14, .istore_n 2, 1, 2, 0, 0, []), (15, .iload_n 2, 1, 2, 0, 0, []), (16, .ifCond .ne 10, 3, 26, 0, 0, []), (19, .aload_n 0, 1, 0, 0, 0, []), (20, .getfield 9, 3, 4, 0, 0, []), (23, .iconst 0, 1, 0, 0, 0, []), (24, .iaload, 1, 0, 0, 0, []), (25, .ireturn, 1, 0, 0, 0, []), (26, .aload_n 0, 1, 0, 0, 0, []), (27, .getfield 9, 3, 4, 0, 0, []), (30, .iload_n 2, 1, 2, 0, 0, []), (31, .iconst 1, 1, 0, 0, 1, []), (32, .isub, 1, 0, 0, 0, []), (33, .iaload, 1, 0, 0, 0, []), (34, .istore_n 3, 1, 3, 0, 0, []), (35, .iload_n 2, 1, 2, 0, 0, []), (36, .aload_n 0, 1, 0, 0, 0, []), (37, .getfield 15, 3, 4, 1, 0, []), (40, .if_icmp .eq 17, 3, 57, 0, 0, []), (43, .iload_n 1, 1, 1, 0, 0, []), (44, .iload_n 3, 1, 3, 0, 0, []), (45, .isub, 1, 0, 0, 0, []), (46, .aload_n 0, 1, 0, 0, 0, []), (47, .getfield 9, 3, 4, 0, 0, []), (50, .iload_n 2, 1, 2, 0, 0, []), (51, .iaload, 1, 0, 0, 0, []), (52, .iload_n 1, 1, 1, 0, 0, []), (53, .isub, 1, 0, 0, 0, []), (54, .if_icmp .gt 5, 3, 59, 0, 0, []), (57, .iload_n 3, 1, 3, 0, 0, []), (58, .ireturn, 1, 0, 0, 0, []), (59, .aload_n 0, 1, 0, 0, 0, []), (60, .getfield 9, 3, 4, 0, 0, []), (63, .iload_n 2, 1, 2, 0, 0, []), (64, .iaload, 1, 0, 0, 0, []), (65, .ireturn, 1, 0, 0, 0, [])]
def zK_X5_feed : List zEnt := [(0, .aload_n 0, 1, 0, 0, 0, []), (1, .getfield 29, 3, 5, 4, 0, []), (4, .getfield 52, 3, 1, 1, 0, []), (7, .bipush 20, 2, 0, 0, 20, []), (9, .iadd, 1, 0, 0, 0, []), (10, .sipush 400, 3, 0, 0, 400, []), (13, .if_icmp .le 5, 3, 18, 0, 0, []), (16, .iconst (-1), 1, 0, 0, -1, []), (17, .ireturn, 1, 0, 0, 0, []), (18, .aload_n 0, 1, 0, 0, 0, []), (19, .getfield 29, 3, 5, 4, 0, []), (22, .iload_n 1, 1, 1, 0, 0, []), (23, .invokevirtual 56, 3, 3, 1, 0, [0, 11]), (26, .aload_n 0, 1, 0, 0, 0, []), (27, .getfield 29, 3, 5, 4, 0, []), (30, .iload_n 2, 1, 2, 0, 0, []), (31, .invokevirtual 56, 3, 3, 1, 0, [0, 11]), (34, .aload_n 0, 1, 0, 0, 0, []), (35, .getfield 29, 3, 5, 4, 0, []), (38, .iload_n 3, 1, 3, 0, 0, []), (39, .invokevirtual 56, 3, 3, 1, 0, [0, 11]), (42, .aload_n 0, 1, 0, 0, 0, []), (43, .getfield 29, 3, 5, 4, 0, []), (46, .iload 4, 2, 4, 0, 0, []), (48, .invokevirtual 56, 3, 3, 1, 0, [0, 11]), (51, .aload_n 0, 1, 0, 0, 0, []), (52, .getfield 29, 3, 5, 4, 0, []), (55, .iload 5, 2, 5, 0, 0, []), (57, .invokevirtual 56, 3, 3, 1, 0, [0, 11]), (60, .aload_n 0, 1, 0, 0, 0, []), (61, .getfield 29, 3, 5, 4, 0, []), (64, .getfield 52, 3, 1, 1, 0, []), (67, .ireturn, 1, 0, 0, 0, [])]
def zK_X5_text : List zEnt := [(0, .aload_n 0, 1, 0, 0, 0, []), (1, .iload_n 1, 1, 1, 0, 0, []), (2, .iconst 0, 1, 0, 0, 0, []), (3, .aload_n 0, 1, 0, 0, 0, []), (4, .getfield 29, 3, 5, 4, 0, []), (7, .getfield 52, 3, 1, 1, 0, []), (10, .invokevirtual 59, 3, 128, 3, 0, [0, 15]), (13, .aload_n 0, 1, 0, 0, 0, []), (14, .getfield 29, 3, 5, 4, 0, []), (17, .iload_n 1, 1, 1, 0, 0, []), (18, .invokevirtual 63, 3, 4, 1, 0, [1, 11]), (21, .ifCond .ne 14, 3, 35, 0, 0, []), (24, .aload_n 0, 1, 0, 0, 0, []), (25, .getfield 29, 3, 5, 4, 0, []), (28, .getfield 67, 3, 1, 3, 0, []), (31, .bipush 10, 2, 0, 0, 10, []), (33, .isub, 1, 0, 0, 0, []), (34, .ireturn, 1, 0, 0, 0, []), (35, .aload_n 0, 1, 0, 0, 0, []), (36, .getfield 12, 3, 5, 0, 0, []), (39, .aload_n 0, 1, 0, 0, 0, []), (40, .getfield 29, 3, 5, 4, 0, []), (43, .getfield 70, 3, 1, 2, 0, []), (46, .invokevirtual 73, 3, 50, 1, 0, [0, 13]), (49, .aload_n 0, 1, 0, 0, 0, []), (50, .getfield 22, 3, 5, 3, 0, []), (53, .invokevirtual 77, 3, 0, 0, 0, [0, 10]), (56, .aload_n 0, 1, 0, 0, 0, []), (57, .getfield 12, 3, 5, 0, 0, []), (60, .invokevirtual 80, 3, 53, 0, 0, [1, 13]), (63, .ireturn, 1, 0, 0, 0, [])]
def zK_X5_fault : List zEnt := [(0, .aload_n 0, 1, 0, 0, 0, []), (1, .getfield 29, 3, 5, 4, 0, []), (4, .getfield 84, 3, 1, 4, 0, []), (7, .ireturn, 1, 0, 0, 0, [])]
def zK_X5_put : List zEnt := [(0, .aload_n 0, 1, 0, 0, 0, []), (1, .iload_n 1, 1, 1, 0, 0, []), (2, .invokevirtual 87, 3, 125, 1, 0, [0, 15]), (5, .aload_n 0, 1, 0, 0, 0, []), (6, .iload_n 2, 1, 2, 0, 0, []), (7, .iload_n 3, 1, 3, 0, 0, []), (8, .invokevirtual 90, 3, 130, 2, 0, [0, 15]), (11, .aload_n 0, 1, 0, 0, 0, []), (12, .aload_n 0, 1, 0, 0, 0, []), (13, .getfield 12, 3, 5, 0, 0, []), (16, .iload_n 1, 1, 1, 0, 0, []), (17, .iload_n 2, 1, 2, 0, 0, []), (18, .iload_n 3, 1, 3, 0, 0, []), (19, .invokevirtual 94, 3, 63, 3, 0, [1, 13]), (22, .ifCond .eq 18, 3, 40, 0, 0, []), (25, .aload_n 0, 1, 0, 0, 0, []), (26, .getfield 12, 3, 5, 0, 0, []), (29, .iload_n 1, 1, 1, 0, 0, []), (30, .invokevirtual 98, 3, 64, 1, 0, [1, 13]), (33, .ifCond .eq 7, 3, 40, 0, 0, []), (36, .iconst 1, 1, 0, 0, 1, []), (37, .goto 4, 3, 41, 0, 0, []), (40, .iconst 0, 1, 0, 0, 0, []), (41, .invokevirtual 101, 3, 124, 1, 0, [0, 15]), (44, .aload_n 0, 1, 0, 0, 0, []), (45, .getfield 22, 3, 5, 3, 0, []), (48, .aload_n 0, 1, 0, 0, 0, []), (49, .getfield 12, 3, 5, 0, 0, []), (52, .invokevirtual 105, 3, 1, 1, 0, [0, 10]), (55, .aload_n 0, 1, 0, 0, 0, []), (56, .getfield 12, 3, 5, 0, 0, []), (59, .iload_n 1, 1, 1, 0, 0, []), (60, .iload_n 2, 1, 2, 0, 0, []), (61, .iload_n 3, 1, 3, 0, 0, []), (62, .invokevirtual 108, 3, 65, 3, 0, [1, 13]), (65, .ireturn, 1, 0, 0, 0, [])]
def zK_X5_point : List zEnt := [(0, .aload_n 0, 1, 0, 0, 0, []), (1, .iload_n 1, 1, 1, 0, 0, []), (2, .invokevirtual 87, 3, 125, 1, 0, [0, 15]), (5, .aload_n 0, 1, 0, 0, 0, []), (6, .iload_n 2, 1, 2, 0, 0, []), (7, .invokevirtual 112, 3, 129, 1, 0, [0, 15]), (10, .aload_n 0, 1, 0, 0, 0, []), (11, .aload_n 0, 1, 0, 0, 0, []), (12, .getfield 12, 3, 5, 0, 0, []), (15, .iload_n 1, 1, 1, 0, 0, []), (16, .iload_n 2, 1, 2, 0, 0, []), (17, .invokevirtual 115, 3, 66, 2, 0, [1, 13]), (20, .ifCond .eq 22, 3, 42, 0, 0, []), (23, .aload_n 0, 1, 0, 0, 0, []), (24, .getfield 12, 3, 5, 0, 0, []), (27, .getfield 119, 3, 3, 1, 0, []), (30, .iload_n 1, 1, 1, 0, 0, []), (31, .aaload, 1, 0, 0, 0, []), (32, .invokevirtual 123, 3, 26, 0, 0, [1, 12]), (35, .ifCond .ne 7, 3, 42, 0, 0, []), (38, .iconst 1, 1, 0, 0, 1, []), (39, .goto 4, 3, 43, 0, 0, []), (42, .iconst 0, 1, 0, 0, 0, []), (43, .invokevirtual 101, 3, 124, 1, 0, [0, 15]), (46, .aload_n 0, 1, 0, 0, 0, []), (47, .getfield 22, 3, 5, 3, 0, []), (50, .aload_n 0, 1, 0, 0, 0, []), (51, .getfield 12, 3, 5, 0, 0, []), (54, .invokevirtual 105, 3, 1, 1, 0, [0, 10]), (57, .aload_n 0, 1, 0, 0, 0, []), (58, .getfield 12, 3, 5, 0, 0, []), (61, .getfield 119, 3, 3, 1, 0, []), (64, .iload_n 1, 1, 1, 0, 0, []), (65, .aaload, 1, 0, 0, 0, []), (66, .iload_n 2, 1, 2, 0, 0, []), (67, .iload_n 2, 1, 2, 0, 0, []), (68, .iconst 0, 1, 0, 0, 0, []), (69, .invokevirtual 129, 3, 30, 3, 0, [1, 12]), (72, .ireturn, 1, 0, 0, 0, [])]
def zK_X5_take : List zEnt := [(0, .aload_n 0, 1, 0, 0, 0, []), (1, .iload_n 1, 1, 1, 0, 0, []), (2, .iload_n 2, 1, 2, 0, 0, []), (3, .invokevirtual 132, 3, 126, 2, 0, [0, 15]), (6, .aload_n 0, 1, 0, 0, 0, []), (7, .getfield 12, 3, 5, 0, 0, []), (10, .getfield 119, 3, 3, 1, 0, []), (13, .iload_n 1, 1, 1, 0, 0, []), (14, .aaload, 1, 0, 0, 0, []), (15, .getfield 135, 3, 2, 1, 0, []), (18, .istore_n 3, 1, 3, 0, 0, []), (19, .iload_n 3, 1, 3, 0, 0, []), (20, .iconst 1, 1, 0, 0, 1, []), (21, .if_icmp .ne 53, 3, 74, 0, 0, []), (24, .aload_n 0, 1, 0, 0, 0, []), (25, .getfield 12, 3, 5, 0, 0, []), (28, .iload_n 1, 1, 1, 0, 0, []), (29, .iload_n 2, 1, 2, 0, 0, []), (30, .invokevirtual 138, 3, 67, 2, 0, [1, 13]), (33, .istore 4, 2, 4, 0, 0, []), (35, .aload_n 0, 1, 0, 0, 0, []), (36, .iload 4, 2, 4, 0, 0, []), (38, .iconst (-1), 1, 0, 0, -1, []), (39, .if_icmp .eq 7, 3, 46, 0, 0, []), (42, .iconst 1, 1, 0, 0, 1, []), (43, .goto 4, 3, 47, 0, 0, []), (46, .iconst 0, 1, 0, 0, 0, []), (47, .invokevirtual 101, 3, 124, 1, 0, [0, 15]), (50, .aload_n 0, 1, 0, 0, 0, []), (51, .getfield 22, 3, 5, 3, 0, []), (54, .aload_n 0, 1, 0, 0, 0, []), (55, .getfield 12, 3, 5, 0, 0, []), (58, .invokevirtual 105, 3, 1, 1, 0, [0, 10]), (61, .aload_n 0, 1, 0, 0, 0, []), (62, .getfield 12, 3, 5, 0, 0, []), (65, .iload_n 1, 1, 1, 0, 0, []), (66, .iload_n 2, 1, 2, 0, 0, []), (67, .iload 4, 2, 4, 0, 0, []), (69, .invokevirtual 142, 3, 68, 3, 0, [0, 13]), (72, .iconst 1, 1, 0, 0, 1, []), (73, .ireturn, 1, 0, 0, 0, []), (74, .aload_n 0, 1, 0, 0, 0, []), (75, .getfield 22, 3, 5, 3, 0, []), (78, .aload_n 0, 1, 0, 0, 0, []), (79, .getfield 12, 3, 5, 0, 0, []), (82, .invokevirtual 105, 3, 1, 1, 0, [0, 10]), (85, .iload_n 3, 1, 3, 0, 0, []), (86, .iconst 3, 1, 0, 0, 3, []), (87, .if_icmp .ne 18, 3, 105, 0, 0, []), (90, .aload_n 0, 1, 0, 0, 0, []), (91, .getfield 12, 3, 5, 0, 0, []), (94, .getfield 119, 3, 3, 1, 0, []), (97, .iload_n 1, 1, 1, 0, 0, []), (98, .aaload, 1, 0, 0, 0, []), (99, .iload_n 2, 1, 2, 0, 0, []), (100, .invokevirtual 145, 3, 31, 1, 0, [0, 12]), (103, .iconst 1, 1, 0, 0, 1, []), (104, .ireturn, 1, 0, 0, 0, []), (105, .aload_n 0, 1, 0, 0, 0, []), (106, .getfield 12, 3, 5, 0, 0, []), (109, .iload_n 1, 1, 1, 0, 0, []), (110, .iload_n 2, 1, 2, 0, 0, []), (111, .invokevirtual 148, 3, 69, 2, 0, [1, 13]), (114, .ireturn, 1, 0, 0, 0, [])]
def zK_X5_split : List zEnt := [(0, .aload_n 0, 1, 0, 0, 0, []), (1, .iload_n 1, 1, 1, 0, 0, []), (2, .iload_n 2, 1, 2, 0, 0, []), (3, .invokevirtual 132, 3, 126, 2, 0, [0, 15]), (6, .aload_n 0, 1, 0, 0, 0, []), (7, .getfield 12, 3, 5, 0, 0, []), (10, .getfield 119, 3, 3, 1, 0, []), (13, .iload_n 1, 1, 1, 0, 0, []), (14, .aaload, 1, 0, 0, 0, []), (15, .astore 4, 2, 4, 0, 0, []), (17, .aload_n 0, 1, 0, 0, 0, []), (18, .aload 4, 2, 4, 0, 0, []), (20, .getfield 135, 3, 2, 1, 0, []), (23, .iconst 3, 1, 0, 0, 3, []), (24, .if_icmp .eq 7, 3, 31, 0, 0, []), (27, .iconst 1, 1, 0, 0, 1, []), (28, .goto 4, 3, 32, 0, 0, []), (31, .iconst 0, 1, 0, 0, 0, []), (32, .invokevirtual 101, 3, 124, 1, 0, [0, 15]), (35, .aload_n 0, 1, 0, 0, 0, []), (36, .iload_n 3, 1, 3, 0, 0, []), (37, .aload 4, 2, 4, 0, 0, []), (39, .getfield 151, 3, 2, 6, 0, []), (42, .iload_n 2, 1, 2, 0, 0, []), (43, .iaload, 1, 0, 0, 0, []), (44, .iconst 1, 1, 0, 0, 1, []), (45, .iadd, 1, 0, 0, 0, []), (46, .aload 4, 2, 4, 0, 0, []), (48, .getfield 154, 3, 2, 7, 0, []), (51, .iload_n 2, 1, 2, 0, 0, []), (52, .iaload, 1, 0, 0, 0, []), (53, .iconst 1, 1, 0, 0, 1, []), (54, .isub, 1, 0, 0, 0, []), (55, .invokevirtual 59, 3, 128, 3, 0, [0, 15]), (58, .aload_n 0, 1, 0, 0, 0, []), (59, .aload_n 0, 1, 0, 0, 0, []), (60, .getfield 12, 3, 5, 0, 0, []), (63, .iload_n 1, 1, 1, 0, 0, []), (64, .iload_n 3, 1, 3, 0, 0, []), (65, .invokevirtual 157, 3, 72, 2, 0, [1, 13]), (68, .ifCond .eq 19, 3, 87, 0, 0, []), (71, .aload_n 0, 1, 0, 0, 0, []), (72, .getfield 12, 3, 5, 0, 0, []), (75, .iload_n 1, 1, 1, 0, 0, []), (76, .iload_n 3, 1, 3, 0, 0, []), (77, .invokevirtual 160, 3, 73, 2, 0, [1, 13]), (80, .ifCond .eq 7, 3, 87, 0, 0, []), (83, .iconst 1, 1, 0, 0, 1, []), (84, .goto 4, 3, 88, 0, 0, []), (87, .iconst 0, 1, 0, 0, 0, []), (88, .invokevirtual 101, 3, 124, 1, 0, [0, 15]), (91, .aload_n 0, 1, 0, 0, 0, []), (92, .getfield 22, 3, 5, 3, 0, []), (95, .aload_n 0, 1, 0, 0, 0, []), (96, .getfield 12, 3, 5, 0, 0, []), (99, .invokevirtual 105, 3, 1, 1, 0, [0, 10]), (102, .aload_n 0, 1, 0, 0, 0, []), (103, .getfield 12, 3, 5, 0, 0, []), (106, .iload_n 1, 1, 1, 0, 0, []), (107, .iload_n 3, 1, 3, 0, 0, []), (108, .invokevirtual 163, 3, 74, 2, 0, [1, 13]), (111, .ireturn, 1, 0, 0, 0, [])]
def zK_X5_join : List zEnt := [(0, .aload_n 0, 1, 0, 0, 0, []), (1, .iload_n 1, 1, 1, 0, 0, []), (2, .iload_n 2, 1, 2, 0, 0, []), (3, .invokevirtual 132, 3, 126, 2, 0, [0, 15]), (6, .aload_n 0, 1, 0, 0, 0, []), (7, .aload_n 0, 1, 0, 0, 0, []), (8, .getfield 12, 3, 5, 0, 0, []), (11, .iload_n 1, 1, 1, 0, 0, []), (12, .iload_n 2, 1, 2, 0, 0, []), (13, .invokevirtual 166, 3, 75, 2, 0, [1, 13]), (16, .invokevirtual 101, 3, 124, 1, 0, [0, 15]), (19, .aload_n 0, 1, 0, 0, 0, []), (20, .getfield 22, 3, 5, 3, 0, []), (23, .aload_n 0, 1, 0, 0, 0, []), (24, .getfield 12, 3, 5, 0, 0, []), (27, .invokevirtual 105, 3, 1, 1, 0, [0, 10]), (30, .aload_n 0, 1, 0, 0, 0, []), (31, .getfield 12, 3, 5, 0, 0, []), (34, .getfield 119, 3, 3, 1, 0, []), (37, .iload_n 1, 1, 1, 0, 0, []), (38, .aaload, 1, 0, 0, 0, []), (39, .astore_n 3, 1, 3, 0, 0, []), (40, .aload_n 3, 1, 3, 0, 0, []), (41, .iload_n 2, 1, 2, 0, 0, []), (42, .invokevirtual 169, 3, 34, 1, 0, [0, 12]), (45, .aload_n 3, 1, 3, 0, 0, []), (46, .getfield 154, 3, 2, 7, 0, []), (49, .iload_n 2, 1, 2, 0, 0, []), (50, .iaload, 1, 0, 0, 0, []), (51, .ireturn, 1, 0, 0, 0, [])]
def zK_X5_move : List zEnt := [(0, .aload_n 0, 1, 0, 0, 0, []), (1, .iload_n 1, 1, 1, 0, 0, []), (2, .iload_n 2, 1, 2, 0, 0, []), (3, .invokevirtual 172, 3, 127, 2, 0, [0, 15]), (6, .aload_n 0, 1, 0, 0, 0, []), (7, .iload_n 3, 1, 3, 0, 0, []), (8, .invokevirtual 112, 3, 129, 1, 0, [0, 15]), (11, .aload_n 0, 1, 0, 0, 0, []), (12, .getfield 12, 3, 5, 0, 0, []), (15, .getfield 119, 3, 3, 1, 0, []), (18, .iload_n 1, 1, 1, 0, 0, []), (19, .aaload, 1, 0, 0, 0, []), (20, .getfield 175, 3, 2, 3, 0, []), (23, .istore 4, 2, 4, 0, 0, []), (25, .aload_n 0, 1, 0, 0, 0, []), (26, .aload_n 0, 1, 0, 0, 0, []), (27, .getfield 12, 3, 5, 0, 0, []), (30, .iload 4, 2, 4, 0, 0, []), (32, .iload_n 2, 1, 2, 0, 0, []), (33, .iload_n 3, 1, 3, 0, 0, []), (34, .invokevirtual 178, 3, 81, 3, 0, [1, 13]), (37, .invokevirtual 101, 3, 124, 1, 0, [0, 15]), (40, .aload_n 0, 1, 0, 0, 0, []), (41, .getfield 22, 3, 5, 3, 0, []), (44, .aload_n 0, 1, 0, 0, 0, []), (45, .getfield 12, 3, 5, 0, 0, []), (48, .invokevirtual 105, 3, 1, 1, 0, [0, 10]), (51, .aload_n 0, 1, 0, 0, 0, []), (52, .getfield 12, 3, 5, 0, 0, []), (55, .iload 4, 2, 4, 0, 0, []), (57, .iload_n 2, 1, 2, 0, 0, []), (58, .iload_n 3, 1, 3, 0, 0, []), (59, .invokevirtual 181, 3, 82, 3, 0, [1, 13]), (62, .ireturn, 1, 0, 0, 0, [])]
def zK_X5_silence : List zEnt := [(0, .aload_n 0, 1, 0, 0, 0, []), (1, .iload_n 1, 1, 1, 0, 0, []), (2, .invokevirtual 112, 3, 129, 1, 0, [0, 15]), (5, .aload_n 0, 1, 0, 0, 0, []), (6, .iload_n 2, 1, 2, 0, 0, []), (7, .iconst 1, 1, 0, 0, 1, []), (8, .sipush 999, 3, 0, 0, 999, []), (11, .invokevirtual 59, 3, 128, 3, 0, [0, 15]), (14, .aload_n 0, 1, 0, 0, 0, []), (15, .aload_n 0, 1, 0, 0, 0, []), (16, .getfield 12, 3, 5, 0, 0, []), (19, .iload_n 1, 1, 1, 0, 0, []), (20, .iload_n 2, 1, 2, 0, 0, []), (21, .invokevirtual 184, 3, 83, 2, 0, [1, 13]), (24, .invokevirtual 101, 3, 124, 1, 0, [0, 15]), (27, .aload_n 0, 1, 0, 0, 0, []), (28, .getfield 22, 3, 5, 3, 0, []), (31, .aload_n 0, 1, 0, 0, 0, []), (32, .getfield 12, 3, 5, 0, 0, []), (35, .invokevirtual 105, 3, 1, 1, 0, [0, 10]), (38, .aload_n 0, 1, 0, 0, 0, []), (39, .getfield 12, 3, 5, 0, 0, []), (42, .iload_n 1, 1, 1, 0, 0, []), (43, .aload_n 0, 1, 0, 0, 0, []), (44, .getfield 38, 3, 5, 5, 0, []), (47, .invokevirtual 187, 3, 84, 2, 0, [1, 13]), (50, .istore_n 3, 1, 3, 0, 0, []), (51, .aload_n 0, 1, 0, 0, 0, []), (52, .getfield 12, 3, 5, 0, 0, []), (55, .iload_n 1, 1, 1, 0, 0, []), (56, .iload_n 2, 1, 2, 0, 0, []), (57, .invokevirtual 191, 3, 85, 2, 0, [0, 13]), (60, .iload_n 3, 1, 3, 0, 0, []), (61, .ireturn, 1, 0, 0, 0, [])]
def zK_X5_label : List zEnt := [(0, .aload_n 0, 1, 0, 0, 0, []), (1, .iload_n 1, 1, 1, 0, 0, []), (2, .iload_n 2, 1, 2, 0, 0, []), (3, .invokevirtual 132, 3, 126, 2, 0, [0, 15]), (6, .iload_n 3, 1, 3, 0, 0, []), (7, .invokestatic 194, 3, 131, 1, 0, [1]), (10, .ifCond .ne 7, 3, 17, 0, 0, []), (13, .aload_n 0, 1, 0, 0, 0, []), (14, .invokevirtual 197, 3, 123, 0, 0, [0, 15]), (17, .aload_n 0, 1, 0, 0, 0, []), (18, .getfield 22, 3, 5, 3, 0, []), (21, .aload_n 0, 1, 0, 0, 0, []), (22, .getfield 12, 3, 5, 0, 0, []), (25, .invokevirtual 105, 3, 1, 1, 0, [0, 10]), (28, .aload_n 0, 1, 0, 0, 0, []), (29, .getfield 12, 3, 5, 0, 0, []), (32, .getfield 119, 3, 3, 1, 0, []), (35, .iload_n 1, 1, 1, 0, 0, []), (36, .aaload, 1, 0, 0, 0, []), (37, .getfield 200, 3, 2, 8, 0, []), (40, .iload_n 2, 1, 2, 0, 0, []), (41, .iaload, 1, 0, 0, 0, []), (42, .istore 4, 2, 4, 0, 0, []), (44, .aload_n 0, 1, 0, 0, 0, []), (45, .getfield 12, 3, 5, 0, 0, []), (48, .getfield 119, 3, 3, 1, 0, []), (51, .iload_n 1, 1, 1, 0, 0, []), (52, .aaload, 1, 0, 0, 0, []), (53, .getfield 200, 3, 2, 8, 0, []), (56, .iload_n 2, 1, 2, 0, 0, []), (57, .iload_n 3, 1, 3, 0, 0, []), (58, .iastore, 1, 0, 0, 0, []), (59, .iload 4, 2, 4, 0, 0, []), (61, .ireturn, 1, 0, 0, 0, [])]
def zK_X5_adopt : List zEnt := [(0, .aload_n 0, 1, 0, 0, 0, []), (1, .iload_n 1, 1, 1, 0, 0, []), (2, .invokevirtual 87, 3, 125, 1, 0, [0, 15]), (5, .aload_n 0, 1, 0, 0, 0, []), (6, .getfield 12, 3, 5, 0, 0, []), (9, .getfield 119, 3, 3, 1, 0, []), (12, .iload_n 1, 1, 1, 0, 0, []), (13, .aaload, 1, 0, 0, 0, []), (14, .astore_n 2, 1, 2, 0, 0, []), (15, .aload_n 0, 1, 0, 0, 0, []), (16, .aload_n 2, 1, 2, 0, 0, []), (17, .invokevirtual 203, 3, 132, 1, 0, [2, 15]), (20, .astore_n 3, 1, 3, 0, 0, []), (21, .aload_n 3, 1, 3, 0, 0, []), (22, .ifnonnull 5, 3, 27, 0, 0, []), (25, .iconst (-1), 1, 0, 0, -1, []), (26, .ireturn, 1, 0, 0, 0, []), (27, .iconst 0, 1, 0, 0, 0, []), (28, .istore 4, 2, 4, 0, 0, []), (30, .iconst 0, 1, 0, 0, 0, []), (31, .istore 5, 2, 5, 0, 0, []), (33, .iload 5, 2, 5, 0, 0, []), (35, .aload_n 2, 1, 2, 0, 0, []), (36, .getfield 207, 3, 2, 5, 0, []), (39, .if_icmp .ge 76, 3, 115, 0, 0, []), (42, .aload_n 2, 1, 2, 0, 0, []), (43, .getfield 200, 3, 2, 8, 0, []), (46, .iload 5, 2, 5, 0, 0, []), (48, .iaload, 1, 0, 0, 0, []), (49, .ifCond .ne 24, 3, 73, 0, 0, []), (52, .aload_n 3, 1, 3, 0, 0, []), (53, .aload_n 2, 1, 2, 0, 0, []), (54, .getfield 151, 3, 2, 6, 0, []), (57, .iload 5, 2, 5, 0, 0, []), (59, .iaload, 1, 0, 0, 0, []), (60, .aload_n 2, 1, 2, 0, 0, []), (61, .getfield 154, 3, 2, 7, 0, []), (64, .iload 5, 2, 5, 0, 0, []), (66, .iaload, 1, 0, 0, 0, []), (67, .invokevirtual 210, 3, 43, 2, 0, [1, 12]), (70, .goto 4, 3, 74, 0, 0, []), (73, .iconst 0, 1, 0, 0, 0, []), (74, .istore 6, 2, 6, 0, 0, []), (76, .iload 6, 2, 6, 0, 0, []), (78, .ifCond .eq 31, 3, 109, 0, 0, []), (81, .iload 4, 2, 4, 0, 0, []), (83, .ifCond .ne 14, 3, 97, 0, 0, []), (86, .aload_n 0, 1, 0, 0, 0, []), (87, .getfield 22, 3, 5, 3, 0, []), (90, .aload_n 0, 1, 0, 0, 0, []), (91, .getfield 12, 3, 5, 0, 0, []), (94, .invokevirtual 105, 3, 1, 1, 0, [0, 10]), (97, .aload_n 2, 1, 2, 0, 0, []), (98, .getfield 200, 3, 2, 8, 0, []), (101, .iload 5, 2, 5, 0, 0, []), (103, .iload 6, 2, 6, 0, 0, []), (105, .iastore, 1, 0, 0, 0, []), (106, .iinc 4 1, 3, 4, 0, 1, []), (109, .iinc 5 1, 3, 5, 0, 1, []), (112, .goto (-79), 3, 33, 0, 0, []), (115, .iload 4, 2, 4, 0, 0, []), (117, .ireturn, 1, 0, 0, 0, [])]
def zK_X5_snap : List zEnt := [(0, .aload_n 0, 1, 0, 0, 0, []), (1, .iload_n 1, 1, 1, 0, 0, []), (2, .invokevirtual 87, 3, 125, 1, 0, [0, 15]), (5, .aload_n 0, 1, 0, 0, 0, []), (6, .iload_n 2, 1, 2, 0, 0, []), (7, .iconst 1, 1, 0, 0, 1, []), (8, .sipush 999, 3, 0, 0, 999, []), (11, .invokevirtual 59, 3, 128, 3, 0, [0, 15]), (14, .aload_n 0, 1, 0, 0, 0, []), (15, .getfield 12, 3, 5, 0, 0, []), (18, .getfield 119, 3, 3, 1, 0, []), (21, .iload_n 1, 1, 1, 0, 0, []), (22, .aaload, 1, 0, 0, 0, []), (23, .astore_n 3, 1, 3, 0, 0, []), (24, .aload_n 0, 1, 0, 0, 0, []), (25, .aload_n 3, 1, 3, 0, 0, []), (26, .invokevirtual 203, 3, 132, 1, 0, [2, 15]), (29, .astore 4, 2, 4, 0, 0, []), (31, .aload 4, 2, 4, 0, 0, []), (33, .ifnonnull 5, 3, 38, 0, 0, []), (36, .iconst (-1), 1, 0, 0, -1, []), (37, .ireturn, 1, 0, 0, 0, []), (38, .aload_n 3, 1, 3, 0, 0, []), (39, .aload_n 0, 1, 0, 0, 0, []), (40, .getfield 42, 3, 5, 6, 0, []), (43, .invokevirtual 213, 3, 45, 1, 0, [0, 12]), (46, .aload 4, 2, 4, 0, 0, []), (48, .aload_n 0, 1, 0, 0, 0, []), (49, .getfield 45, 3, 5, 7, 0, []), (52, .invokevirtual 213, 3, 45, 1, 0, [0, 12]), (55, .iconst 0, 1, 0, 0, 0, []), (56, .istore 5, 2, 5, 0, 0, []), (58, .iconst 0, 1, 0, 0, 0, []), (59, .istore 6, 2, 6, 0, 0, []), (61, .iload 6, 2, 6, 0, 0, []), (63, .aload_n 0, 1, 0, 0, 0, []), (64, .getfield 42, 3, 5, 6, 0, []), (67, .getfield 217, 3, 4, 1, 0, []), (70, .if_icmp .ge 75, 3, 145, 0, 0, []), (73, .aload_n 0, 1, 0, 0, 0, []), (74, .getfield 42, 3, 5, 6, 0, []), (77, .getfield 218, 3, 4, 0, 0, []), (80, .iload 6, 2, 6, 0, 0, []), (82, .iaload, 1, 0, 0, 0, []), (83, .istore 7, 2, 7, 0, 0, []), (85, .aload_n 0, 1, 0, 0, 0, []), (86, .aload_n 3, 1, 3, 0, 0, []), (87, .getfield 175, 3, 2, 3, 0, []), (90, .iload 7, 2, 7, 0, 0, []), (92, .iload_n 2, 1, 2, 0, 0, []), (93, .invokevirtual 221, 3, 133, 3, 0, [1, 15]), (96, .istore 8, 2, 8, 0, 0, []), (98, .iload 8, 2, 8, 0, 0, []), (100, .iconst (-1), 1, 0, 0, -1, []), (101, .if_icmp .eq 38, 3, 139, 0, 0, []), (104, .iload 5, 2, 5, 0, 0, []), (106, .ifCond .ne 14, 3, 120, 0, 0, []), (109, .aload_n 0, 1, 0, 0, 0, []), (110, .getfield 22, 3, 5, 3, 0, []), (113, .aload_n 0, 1, 0, 0, 0, []), (114, .getfield 12, 3, 5, 0, 0, []), (117, .invokevirtual 105, 3, 1, 1, 0, [0, 10]), (120, .aload_n 0, 1, 0, 0, 0, []), (121, .getfield 12, 3, 5, 0, 0, []), (124, .aload_n 3, 1, 3, 0, 0, []), (125, .getfield 175, 3, 2, 3, 0, []), (128, .iload 7, 2, 7, 0, 0, []), (130, .iload 8, 2, 8, 0, 0, []), (132, .invokevirtual 181, 3, 82, 3, 0, [1, 13]), (135, .pop, 1, 0, 0, 0, []), (136, .iinc 5 1, 3, 5, 0, 1, []), (139, .iinc 6 1, 3, 6, 0, 1, []), (142, .goto (-81), 3, 61, 0, 0, []), (145, .iload 5, 2, 5, 0, 0, []), (147, .ireturn, 1, 0, 0, 0, [])]
def zK_X5_undo : List zEnt := [(0, .aload_n 0, 1, 0, 0, 0, []), (1, .getfield 22, 3, 5, 3, 0, []), (4, .aload_n 0, 1, 0, 0, 0, []), (5, .getfield 12, 3, 5, 0, 0, []), (8, .invokevirtual 224, 3, 2, 1, 0, [1, 10]), (11, .ifCond .eq 13, 3, 24, 0, 0, []), (14, .aload_n 0, 1, 0, 0, 0, []), (15, .getfield 22, 3, 5, 3, 0, []), (18, .getfield 228, 3, 0, 2, 0, []), (21, .goto 4, 3, 25, 0, 0, []), (24, .iconst (-1), 1, 0, 0, -1, []), (25, .ireturn, 1, 0, 0, 0, [])]
def zK_X5_keep : List zEnt := [(0, .aload_n 0, 1, 0, 0, 0, []), (1, .getfield 16, 3, 5, 1, 0, []), (4, .aload_n 0, 1, 0, 0, 0, []), (5, .getfield 12, 3, 5, 0, 0, []), (8, .invokevirtual 73, 3, 50, 1, 0, [0, 13]), (11, .aload_n 0, 1, 0, 0, 0, []), (12, .iconst 1, 1, 0, 0, 1, []), (13, .putfield 229, 3, 5, 2, 0, []), (16, .aload_n 0, 1, 0, 0, 0, []), (17, .getfield 16, 3, 5, 1, 0, []), (20, .invokevirtual 80, 3, 53, 0, 0, [1, 13]), (23, .ireturn, 1, 0, 0, 0, [])]
def zK_X5_told : List zEnt := [(0, .aload_n 0, 1, 0, 0, 0, []), (1, .iload_n 1, 1, 1, 0, 0, []), (2, .iconst 0, 1, 0, 0, 0, []), (3, .iconst 5, 1, 0, 0, 5, []), (4, .invokevirtual 59, 3, 128, 3, 0, [0, 15]), (7, .iload_n 1, 1, 1, 0, 0, []), (8, .tableswitch 76 0 4 #[36, 44, 52, 60, 68], 36, 84, 0, 0, [44, 52, 60, 68, 76]), (44, .aload_n 0, 1, 0, 0, 0, []), (45, .getfield 12, 3, 5, 0, 0, []), (48, .getfield 233, 3, 3, 0, 0, []), (51, .ireturn, 1, 0, 0, 0, []), (52, .aload_n 0, 1, 0, 0, 0, []), (53, .getfield 12, 3, 5, 0, 0, []), (56, .invokevirtual 80, 3, 53, 0, 0, [1, 13]), (59, .ireturn, 1, 0, 0, 0, []), (60, .aload_n 0, 1, 0, 0, 0, []), (61, .getfield 12, 3, 5, 0, 0, []), (64, .invokevirtual 234, 3, 54, 0, 0, [1, 13]), (67, .ireturn, 1, 0, 0, 0, []), (68, .aload_n 0, 1, 0, 0, 0, []), (69, .getfield 22, 3, 5, 3, 0, []), (72, .getfield 228, 3, 0, 2, 0, []), (75, .ireturn, 1, 0, 0, 0, []), (76, .aload_n 0, 1, 0, 0, 0, []), (77, .getfield 29, 3, 5, 4, 0, []), (80, .getfield 52, 3, 1, 1, 0, []), (83, .ireturn, 1, 0, 0, 0, []), (84, .aload_n 0, 1, 0, 0, 0, []), (85, .getfield 229, 3, 5, 2, 0, []), (88, .ifCond .eq 13, 3, 101, 0, 0, []), (91, .aload_n 0, 1, 0, 0, 0, []), (92, .getfield 16, 3, 5, 1, 0, []), (95, .invokevirtual 80, 3, 53, 0, 0, [1, 13]), (98, .goto 4, 3, 102, 0, 0, []), (101, .iconst (-1), 1, 0, 0, -1, []), (102, .ireturn, 1, 0, 0, 0, [])]
def zK_X5_tier : List zEnt := [(0, .aload_n 0, 1, 0, 0, 0, []), (1, .iload_n 1, 1, 1, 0, 0, []), (2, .invokevirtual 87, 3, 125, 1, 0, [0, 15]), (5, .aload_n 0, 1, 0, 0, 0, []), (6, .iload_n 2, 1, 2, 0, 0, []), (7, .iconst 0, 1, 0, 0, 0, []), (8, .bipush 8, 2, 0, 0, 8, []), (10, .invokevirtual 59, 3, 128, 3, 0, [0, 15]), (13, .aload_n 0, 1, 0, 0, 0, []), (14, .getfield 12, 3, 5, 0, 0, []), (17, .getfield 119, 3, 3, 1, 0, []), (20, .iload_n 1, 1, 1, 0, 0, []), (21, .aaload, 1, 0, 0, 0, []), (22, .astore_n 3, 1, 3, 0, 0, []), (23, .iload_n 2, 1, 2, 0, 0, []), (24, .tableswitch 110 0 7 #[48, 53, 58, 63, 68, 73, 78, 87], 48, 134, 0, 0, [72, 77, 82, 87, 92, 97, 102, 111]), (72, .aload_n 3, 1, 3, 0, 0, []), (73, .getfield 135, 3, 2, 1, 0, []), (76, .ireturn, 1, 0, 0, 0, []), (77, .aload_n 3, 1, 3, 0, 0, []), (78, .getfield 237, 3, 2, 2, 0, []), (81, .ireturn, 1, 0, 0, 0, []), (82, .aload_n 3, 1, 3, 0, 0, []), (83, .getfield 207, 3, 2, 5, 0, []), (86, .ireturn, 1, 0, 0, 0, []), (87, .aload_n 3, 1, 3, 0, 0, []), (88, .getfield 240, 3, 2, 4, 0, []), (91, .ireturn, 1, 0, 0, 0, []), (92, .aload_n 3, 1, 3, 0, 0, []), (93, .getfield 175, 3, 2, 3, 0, []), (96, .ireturn, 1, 0, 0, 0, []), (97, .aload_n 3, 1, 3, 0, 0, []), (98, .invokevirtual 243, 3, 29, 0, 0, [1, 12]), (101, .ireturn, 1, 0, 0, 0, []), (102, .aload_n 0, 1, 0, 0, 0, []), (103, .getfield 12, 3, 5, 0, 0, []), (106, .iload_n 1, 1, 1, 0, 0, []), (107, .invokevirtual 246, 3, 55, 1, 0, [1, 13]), (110, .ireturn, 1, 0, 0, 0, []), (111, .aload_n 0, 1, 0, 0, 0, []), (112, .getfield 12, 3, 5, 0, 0, []), (115, .aload_n 3, 1, 3, 0, 0, []), (116, .getfield 175, 3, 2, 3, 0, []), (119, .aload_n 0, 1, 0, 0, 0, []), (120, .getfield 38, 3, 5, 5, 0, []), (123, .invokevirtual 250, 3, 77, 2, 0, [0, 13]), (126, .aload_n 0, 1, 0, 0, 0, []), (127, .getfield 38, 3, 5, 5, 0, []), (130, .getfield 217, 3, 4, 1, 0, []), (133, .ireturn, 1, 0, 0, 0, []), (134, .aload_n 3, 1, 3, 0, 0, []), (135, .getfield 254, 3, 2, 0, 0, []), (138, .ireturn, 1, 0, 0, 0, [])]
def zK_X5_mark : List zEnt := [(0, .aload_n 0, 1, 0, 0, 0, []), (1, .iload_n 1, 1, 1, 0, 0, []), (2, .iload_n 2, 1, 2, 0, 0, []), (3, .invokevirtual 132, 3, 126, 2, 0, [0, 15]), (6, .aload_n 0, 1, 0, 0, 0, []), (7, .iload_n 3, 1, 3, 0, 0, []), (8, .iconst 0, 1, 0, 0, 0, []), (9, .bipush 6, 2, 0, 0, 6, []), (11, .invokevirtual 59, 3, 128, 3, 0, [0, 15]), (14, .aload_n 0, 1, 0, 0, 0, []), (15, .getfield 12, 3, 5, 0, 0, []), (18, .getfield 119, 3, 3, 1, 0, []), (21, .iload_n 1, 1, 1, 0, 0, []), (22, .aaload, 1, 0, 0, 0, []), (23, .astore 4, 2, 4, 0, 0, []), (25, .iload_n 3, 1, 3, 0, 0, []), (26, .tableswitch 102 0 5 #[38, 46, 54, 62, 72, 82], 38, 128, 0, 0, [64, 72, 80, 88, 98, 108]), (64, .aload 4, 2, 4, 0, 0, []), (66, .getfield 151, 3, 2, 6, 0, []), (69, .iload_n 2, 1, 2, 0, 0, []), (70, .iaload, 1, 0, 0, 0, []), (71, .ireturn, 1, 0, 0, 0, []), (72, .aload 4, 2, 4, 0, 0, []), (74, .getfield 154, 3, 2, 7, 0, []), (77, .iload_n 2, 1, 2, 0, 0, []), (78, .iaload, 1, 0, 0, 0, []), (79, .ireturn, 1, 0, 0, 0, []), (80, .aload 4, 2, 4, 0, 0, []), (82, .getfield 200, 3, 2, 8, 0, []), (85, .iload_n 2, 1, 2, 0, 0, []), (86, .iaload, 1, 0, 0, 0, []), (87, .ireturn, 1, 0, 0, 0, []), (88, .aload_n 0, 1, 0, 0, 0, []), (89, .getfield 12, 3, 5, 0, 0, []), (92, .iload_n 1, 1, 1, 0, 0, []), (93, .iload_n 2, 1, 2, 0, 0, []), (94, .invokevirtual 257, 3, 59, 2, 0, [1, 13]), (97, .ireturn, 1, 0, 0, 0, []), (98, .aload_n 0, 1, 0, 0, 0, []), (99, .getfield 12, 3, 5, 0, 0, []), (102, .iload_n 1, 1, 1, 0, 0, []), (103, .iload_n 2, 1, 2, 0, 0, []), (104, .invokevirtual 260, 3, 61, 2, 0, [1, 13]), (107, .ireturn, 1, 0, 0, 0, []), (108, .aload_n 0, 1, 0, 0, 0, []), (109, .getfield 12, 3, 5, 0, 0, []), (112, .aload 4, 2, 4, 0, 0, []), (114, .getfield 175, 3, 2, 3, 0, []), (117, .aload 4, 2, 4, 0, 0, []), (119, .getfield 151, 3, 2, 6, 0, []), (122, .iload_n 2, 1, 2, 0, 0, []), (123, .iaload, 1, 0, 0, 0, []), (124, .invokevirtual 263, 3, 78, 2, 0, [1, 13]), (127, .ireturn, 1, 0, 0, 0, []), (128, .aload_n 0, 1, 0, 0, 0, []), (129, .getfield 12, 3, 5, 0, 0, []), (132, .aload 4, 2, 4, 0, 0, []), (134, .getfield 175, 3, 2, 3, 0, []), (137, .aload 4, 2, 4, 0, 0, []), (139, .getfield 154, 3, 2, 7, 0, []), (142, .iload_n 2, 1, 2, 0, 0, []), (143, .iaload, 1, 0, 0, 0, []), (144, .invokevirtual 263, 3, 78, 2, 0, [1, 13]), (147, .ireturn, 1, 0, 0, 0, [])]
def zK_X5_at : List zEnt := [(0, .aload_n 0, 1, 0, 0, 0, []), (1, .iload_n 1, 1, 1, 0, 0, []), (2, .invokevirtual 87, 3, 125, 1, 0, [0, 15]), (5, .aload_n 0, 1, 0, 0, 0, []), (6, .iload_n 2, 1, 2, 0, 0, []), (7, .invokevirtual 112, 3, 129, 1, 0, [0, 15]), (10, .aload_n 0, 1, 0, 0, 0, []), (11, .getfield 12, 3, 5, 0, 0, []), (14, .getfield 119, 3, 3, 1, 0, []), (17, .iload_n 1, 1, 1, 0, 0, []), (18, .aaload, 1, 0, 0, 0, []), (19, .iload_n 2, 1, 2, 0, 0, []), (20, .invokevirtual 266, 3, 40, 1, 0, [1, 12]), (23, .ireturn, 1, 0, 0, 0, [])]
def zK_X5_over : List zEnt := [(0, .aload_n 0, 1, 0, 0, 0, []), (1, .iload_n 1, 1, 1, 0, 0, []), (2, .invokevirtual 87, 3, 125, 1, 0, [0, 15]), (5, .aload_n 0, 1, 0, 0, 0, []), (6, .iload_n 2, 1, 2, 0, 0, []), (7, .iload_n 3, 1, 3, 0, 0, []), (8, .invokevirtual 90, 3, 130, 2, 0, [0, 15]), (11, .aload_n 0, 1, 0, 0, 0, []), (12, .iload 4, 2, 4, 0, 0, []), (14, .iconst 0, 1, 0, 0, 0, []), (15, .iconst 2, 1, 0, 0, 2, []), (16, .invokevirtual 59, 3, 128, 3, 0, [0, 15]), (19, .aload_n 0, 1, 0, 0, 0, []), (20, .getfield 12, 3, 5, 0, 0, []), (23, .getfield 119, 3, 3, 1, 0, []), (26, .iload_n 1, 1, 1, 0, 0, []), (27, .aaload, 1, 0, 0, 0, []), (28, .astore 5, 2, 5, 0, 0, []), (30, .iconst 0, 1, 0, 0, 0, []), (31, .istore 6, 2, 6, 0, 0, []), (33, .iconst (-1), 1, 0, 0, -1, []), (34, .istore 7, 2, 7, 0, 0, []), (36, .iconst 0, 1, 0, 0, 0, []), (37, .istore 8, 2, 8, 0, 0, []), (39, .iconst 0, 1, 0, 0, 0, []), (40, .istore 9, 2, 9, 0, 0, []), (42, .iload 9, 2, 9, 0, 0, []), (44, .aload 5, 2, 5, 0, 0, []), (46, .getfield 207, 3, 2, 5, 0, []), (49, .if_icmp .ge 52, 3, 101, 0, 0, []), (52, .aload 5, 2, 5, 0, 0, []), (54, .iload 9, 2, 9, 0, 0, []), (56, .iload_n 2, 1, 2, 0, 0, []), (57, .iload_n 3, 1, 3, 0, 0, []), (58, .invokevirtual 269, 3, 36, 3, 0, [1, 12]), (61, .ifCond .eq 34, 3, 95, 0, 0, []), (64, .iload 6, 2, 6, 0, 0, []), (66, .ifCond .ne 8, 3, 74, 0, 0, []), (69, .iload 9, 2, 9, 0, 0, []), (71, .goto 5, 3, 76, 0, 0, []), (74, .iload 7, 2, 7, 0, 0, []), (76, .istore 7, 2, 7, 0, 0, []), (78, .iinc 6 1, 3, 6, 0, 1, []), (81, .iload 8, 2, 8, 0, 0, []), (83, .aload 5, 2, 5, 0, 0, []), (85, .iload 9, 2, 9, 0, 0, []), (87, .iload_n 2, 1, 2, 0, 0, []), (88, .iload_n 3, 1, 3, 0, 0, []), (89, .invokevirtual 272, 3, 38, 3, 0, [1, 12]), (92, .iadd, 1, 0, 0, 0, []), (93, .istore 8, 2, 8, 0, 0, []), (95, .iinc 9 1, 3, 9, 0, 1, []), (98, .goto (-56), 3, 42, 0, 0, []), (101, .iload 4, 2, 4, 0, 0, []), (103, .ifCond .ne 8, 3, 111, 0, 0, []), (106, .iload 6, 2, 6, 0, 0, []), (108, .goto 16, 3, 124, 0, 0, []), (111, .iload 4, 2, 4, 0, 0, []), (113, .iconst 1, 1, 0, 0, 1, []), (114, .if_icmp .ne 8, 3, 122, 0, 0, []), (117, .iload 7, 2, 7, 0, 0, []), (119, .goto 5, 3, 124, 0, 0, []), (122, .iload 8, 2, 8, 0, 0, []), (124, .ireturn, 1, 0, 0, 0, [])]
def zK_X5_within : List zEnt := [(0, .aload_n 0, 1, 0, 0, 0, []), (1, .iload_n 1, 1, 1, 0, 0, []), (2, .iload_n 2, 1, 2, 0, 0, []), (3, .invokevirtual 132, 3, 126, 2, 0, [0, 15]), (6, .aload_n 0, 1, 0, 0, 0, []), (7, .iload_n 3, 1, 3, 0, 0, []), (8, .invokevirtual 87, 3, 125, 1, 0, [0, 15]), (11, .aload_n 0, 1, 0, 0, 0, []), (12, .iload 4, 2, 4, 0, 0, []), (14, .iconst 0, 1, 0, 0, 0, []), (15, .iconst 2, 1, 0, 0, 2, []), (16, .invokevirtual 59, 3, 128, 3, 0, [0, 15]), (19, .aload_n 0, 1, 0, 0, 0, []), (20, .getfield 12, 3, 5, 0, 0, []), (23, .getfield 119, 3, 3, 1, 0, []), (26, .iload_n 1, 1, 1, 0, 0, []), (27, .aaload, 1, 0, 0, 0, []), (28, .getfield 151, 3, 2, 6, 0, []), (31, .iload_n 2, 1, 2, 0, 0, []), (32, .iaload, 1, 0, 0, 0, []), (33, .istore 5, 2, 5, 0, 0, []), (35, .aload_n 0, 1, 0, 0, 0, []), (36, .getfield 12, 3, 5, 0, 0, []), (39, .getfield 119, 3, 3, 1, 0, []), (42, .iload_n 1, 1, 1, 0, 0, []), (43, .aaload, 1, 0, 0, 0, []), (44, .getfield 154, 3, 2, 7, 0, []), (47, .iload_n 2, 1, 2, 0, 0, []), (48, .iaload, 1, 0, 0, 0, []), (49, .istore 6, 2, 6, 0, 0, []), (51, .aload_n 0, 1, 0, 0, 0, []), (52, .getfield 12, 3, 5, 0, 0, []), (55, .getfield 119, 3, 3, 1, 0, []), (58, .iload_n 3, 1, 3, 0, 0, []), (59, .aaload, 1, 0, 0, 0, []), (60, .astore 7, 2, 7, 0, 0, []), (62, .iconst 0, 1, 0, 0, 0, []), (63, .istore 8, 2, 8, 0, 0, []), (65, .iconst (-1), 1, 0, 0, -1, []), (66, .istore 9, 2, 9, 0, 0, []), (68, .iconst 0, 1, 0, 0, 0, []), (69, .istore 10, 2, 10, 0, 0, []), (71, .iconst 0, 1, 0, 0, 0, []), (72, .istore 11, 2, 11, 0, 0, []), (74, .iload 11, 2, 11, 0, 0, []), (76, .aload 7, 2, 7, 0, 0, []), (78, .getfield 207, 3, 2, 5, 0, []), (81, .if_icmp .ge 52, 3, 133, 0, 0, []), (84, .aload 7, 2, 7, 0, 0, []), (86, .iload 11, 2, 11, 0, 0, []), (88, .iload 5, 2, 5, 0, 0, []), (90, .iload 6, 2, 6, 0, 0, []), (92, .invokevirtual 275, 3, 35, 3, 0, [1, 12]), (95, .ifCond .eq 32, 3, 127, 0, 0, []), (98, .iload 8, 2, 8, 0, 0, []), (100, .ifCond .ne 8, 3, 108, 0, 0, []), (103, .iload 11, 2, 11, 0, 0, []), (105, .goto 5, 3, 110, 0, 0, []), (108, .iload 9, 2, 9, 0, 0, []), (110, .istore 9, 2, 9, 0, 0, []), (112, .iinc 8 1, 3, 8, 0, 1, []), (115, .iload 10, 2, 10, 0, 0, []), (117, .aload 7, 2, 7, 0, 0, []), (119, .iload 11, 2, 11, 0, 0, []), (121, .invokevirtual 278, 3, 28, 1, 0, [1, 12]), (124, .iadd, 1, 0, 0, 0, []), (125, .istore 10, 2, 10, 0, 0, []), (127, .iinc 11 1, 3, 11, 0, 1, []), (130, .goto (-56), 3, 74, 0, 0, []), (133, .iload 4, 2, 4, 0, 0, []), (135, .ifCond .ne 8, 3, 143, 0, 0, []), (138, .iload 8, 2, 8, 0, 0, []), (140, .goto 16, 3, 156, 0, 0, []), (143, .iload 4, 2, 4, 0, 0, []), (145, .iconst 1, 1, 0, 0, 1, []), (146, .if_icmp .ne 8, 3, 154, 0, 0, []), (149, .iload 9, 2, 9, 0, 0, []), (151, .goto 5, 3, 156, 0, 0, []), (154, .iload 10, 2, 10, 0, 0, []), (156, .ireturn, 1, 0, 0, 0, [])]
def zK_X5_find : List zEnt := [(0, .aload_n 0, 1, 0, 0, 0, []), (1, .iload_n 1, 1, 1, 0, 0, []), (2, .invokevirtual 87, 3, 125, 1, 0, [0, 15]), (5, .aload_n 0, 1, 0, 0, 0, []), (6, .getfield 12, 3, 5, 0, 0, []), (9, .getfield 119, 3, 3, 1, 0, []), (12, .iload_n 1, 1, 1, 0, 0, []), (13, .aaload, 1, 0, 0, 0, []), (14, .astore 4, 2, 4, 0, 0, []), (16, .iconst 0, 1, 0, 0, 0, []), (17, .istore 5, 2, 5, 0, 0, []), (19, .iconst 0, 1, 0, 0, 0, []), (20, .istore 6, 2, 6, 0, 0, []), (22, .iload 6, 2, 6, 0, 0, []), (24, .aload 4, 2, 4, 0, 0, []), (26, .getfield 207, 3, 2, 5, 0, []), (29, .if_icmp .ge 33, 3, 62, 0, 0, []), (32, .aload 4, 2, 4, 0, 0, []), (34, .getfield 200, 3, 2, 8, 0, []), (37, .iload 6, 2, 6, 0, 0, []), (39, .iaload, 1, 0, 0, 0, []), (40, .iload_n 2, 1, 2, 0, 0, []), (41, .if_icmp .ne 15, 3, 56, 0, 0, []), (44, .iload 5, 2, 5, 0, 0, []), (46, .iload_n 3, 1, 3, 0, 0, []), (47, .if_icmp .ne 6, 3, 53, 0, 0, []), (50, .iload 6, 2, 6, 0, 0, []), (52, .ireturn, 1, 0, 0, 0, []), (53, .iinc 5 1, 3, 5, 0, 1, []), (56, .iinc 6 1, 3, 6, 0, 1, []), (59, .goto (-37), 3, 22, 0, 0, []), (62, .iconst (-1), 1, 0, 0, -1, []), (63, .ireturn, 1, 0, 0, 0, [])]
def zK_X5_together : List zEnt := [(0, .aload_n 0, 1, 0, 0, 0, []), (1, .iload_n 1, 1, 1, 0, 0, []), (2, .invokevirtual 87, 3, 125, 1, 0, [0, 15]), (5, .aload_n 0, 1, 0, 0, 0, []), (6, .iload_n 3, 1, 3, 0, 0, []), (7, .invokevirtual 87, 3, 125, 1, 0, [0, 15]), (10, .aload_n 0, 1, 0, 0, 0, []), (11, .getfield 12, 3, 5, 0, 0, []), (14, .getfield 119, 3, 3, 1, 0, []), (17, .iload_n 1, 1, 1, 0, 0, []), (18, .aaload, 1, 0, 0, 0, []), (19, .astore 5, 2, 5, 0, 0, []), (21, .aload_n 0, 1, 0, 0, 0, []), (22, .getfield 12, 3, 5, 0, 0, []), (25, .getfield 119, 3, 3, 1, 0, []), (28, .iload_n 3, 1, 3, 0, 0, []), (29, .aaload, 1, 0, 0, 0, []), (30, .astore 6, 2, 6, 0, 0, []), (32, .iconst 0, 1, 0, 0, 0, []), (33, .istore 7, 2, 7, 0, 0, []), (35, .iconst 0, 1, 0, 0, 0, []), (36, .istore 8, 2, 8, 0, 0, []), (38, .iload 8, 2, 8, 0, 0, []), (40, .aload 5, 2, 5, 0, 0, []), (42, .getfield 207, 3, 2, 5, 0, []), (45, .if_icmp .ge 81, 3, 126, 0, 0, []), (48, .iconst 0, 1, 0, 0, 0, []), (49, .istore 9, 2, 9, 0, 0, []), (51, .iload 9, 2, 9, 0, 0, []), (53, .aload 6, 2, 6, 0, 0, []), (55, .getfield 207, 3, 2, 5, 0, []), (58, .if_icmp .ge 62, 3, 120, 0, 0, []), (61, .aload 5, 2, 5, 0, 0, []), (63, .getfield 200, 3, 2, 8, 0, []), (66, .iload 8, 2, 8, 0, 0, []), (68, .iaload, 1, 0, 0, 0, []), (69, .iload_n 2, 1, 2, 0, 0, []), (70, .if_icmp .ne 44, 3, 114, 0, 0, []), (73, .aload 6, 2, 6, 0, 0, []), (75, .getfield 200, 3, 2, 8, 0, []), (78, .iload 9, 2, 9, 0, 0, []), (80, .iaload, 1, 0, 0, 0, []), (81, .iload 4, 2, 4, 0, 0, []), (83, .if_icmp .ne 31, 3, 114, 0, 0, []), (86, .iload 7, 2, 7, 0, 0, []), (88, .aload 5, 2, 5, 0, 0, []), (90, .iload 8, 2, 8, 0, 0, []), (92, .aload 6, 2, 6, 0, 0, []), (94, .getfield 151, 3, 2, 6, 0, []), (97, .iload 9, 2, 9, 0, 0, []), (99, .iaload, 1, 0, 0, 0, []), (100, .aload 6, 2, 6, 0, 0, []), (102, .getfield 154, 3, 2, 7, 0, []), (105, .iload 9, 2, 9, 0, 0, []), (107, .iaload, 1, 0, 0, 0, []), (108, .invokevirtual 272, 3, 38, 3, 0, [1, 12]), (111, .iadd, 1, 0, 0, 0, []), (112, .istore 7, 2, 7, 0, 0, []), (114, .iinc 9 1, 3, 9, 0, 1, []), (117, .goto (-66), 3, 51, 0, 0, []), (120, .iinc 8 1, 3, 8, 0, 1, []), (123, .goto (-85), 3, 38, 0, 0, []), (126, .iload 7, 2, 7, 0, 0, []), (128, .ireturn, 1, 0, 0, 0, [])]
def zK_X5_longest : List zEnt := [(0, .aload_n 0, 1, 0, 0, 0, []), (1, .iload_n 1, 1, 1, 0, 0, []), (2, .invokevirtual 87, 3, 125, 1, 0, [0, 15]), (5, .aload_n 0, 1, 0, 0, 0, []), (6, .iload_n 3, 1, 3, 0, 0, []), (7, .iconst 0, 1, 0, 0, 0, []), (8, .iconst 3, 1, 0, 0, 3, []), (9, .invokevirtual 59, 3, 128, 3, 0, [0, 15]), (12, .aload_n 0, 1, 0, 0, 0, []), (13, .getfield 12, 3, 5, 0, 0, []), (16, .getfield 119, 3, 3, 1, 0, []), (19, .iload_n 1, 1, 1, 0, 0, []), (20, .aaload, 1, 0, 0, 0, []), (21, .astore 4, 2, 4, 0, 0, []), (23, .iconst (-1), 1, 0, 0, -1, []), (24, .istore 5, 2, 5, 0, 0, []), (26, .iconst 0, 1, 0, 0, 0, []), (27, .istore 6, 2, 6, 0, 0, []), (29, .iconst 0, 1, 0, 0, 0, []), (30, .istore 7, 2, 7, 0, 0, []), (32, .iconst 0, 1, 0, 0, 0, []), (33, .istore 8, 2, 8, 0, 0, []), (35, .iconst 0, 1, 0, 0, 0, []), (36, .istore 9, 2, 9, 0, 0, []), (38, .iload 9, 2, 9, 0, 0, []), (40, .aload 4, 2, 4, 0, 0, []), (42, .getfield 207, 3, 2, 5, 0, []), (45, .if_icmp .ge 67, 3, 112, 0, 0, []), (48, .aload 4, 2, 4, 0, 0, []), (50, .getfield 200, 3, 2, 8, 0, []), (53, .iload 9, 2, 9, 0, 0, []), (55, .iaload, 1, 0, 0, 0, []), (56, .iload_n 2, 1, 2, 0, 0, []), (57, .if_icmp .ne 49, 3, 106, 0, 0, []), (60, .iload 5, 2, 5, 0, 0, []), (62, .iconst (-1), 1, 0, 0, -1, []), (63, .if_icmp .eq 15, 3, 78, 0, 0, []), (66, .aload 4, 2, 4, 0, 0, []), (68, .iload 9, 2, 9, 0, 0, []), (70, .invokevirtual 278, 3, 28, 1, 0, [1, 12]), (73, .iload 6, 2, 6, 0, 0, []), (75, .if_icmp .le 16, 3, 91, 0, 0, []), (78, .iload 9, 2, 9, 0, 0, []), (80, .istore 5, 2, 5, 0, 0, []), (82, .aload 4, 2, 4, 0, 0, []), (84, .iload 9, 2, 9, 0, 0, []), (86, .invokevirtual 278, 3, 28, 1, 0, [1, 12]), (89, .istore 6, 2, 6, 0, 0, []), (91, .iinc 7 1, 3, 7, 0, 1, []), (94, .iload 8, 2, 8, 0, 0, []), (96, .aload 4, 2, 4, 0, 0, []), (98, .iload 9, 2, 9, 0, 0, []), (100, .invokevirtual 278, 3, 28, 1, 0, [1, 12]), (103, .iadd, 1, 0, 0, 0, []), (104, .istore 8, 2, 8, 0, 0, []), (106, .iinc 9 1, 3, 9, 0, 1, []), (109, .goto (-71), 3, 38, 0, 0, []), (112, .iload_n 3, 1, 3, 0, 0, []), (113, .ifCond .ne 8, 3, 121, 0, 0, []), (116, .iload 5, 2, 5, 0, 0, []), (118, .goto 25, 3, 143, 0, 0, []), (121, .iload_n 3, 1, 3, 0, 0, []), (122, .iconst 1, 1, 0, 0, 1, []), (123, .if_icmp .ne 8, 3, 131, 0, 0, []), (126, .iload 6, 2, 6, 0, 0, []), (128, .goto 15, 3, 143, 0, 0, []), (131, .iload_n 3, 1, 3, 0, 0, []), (132, .iconst 2, 1, 0, 0, 2, []), (133, .if_icmp .ne 8, 3, 141, 0, 0, []), (136, .iload 7, 2, 7, 0, 0, []), (138, .goto 5, 3, 143, 0, 0, []), (141, .iload 8, 2, 8, 0, 0, []), (143, .ireturn, 1, 0, 0, 0, [])]
def zK_X5_gaps : List zEnt := [(0, .aload_n 0, 1, 0, 0, 0, []), (1, .iload_n 1, 1, 1, 0, 0, []), (2, .invokevirtual 87, 3, 125, 1, 0, [0, 15]), (5, .aload_n 0, 1, 0, 0, 0, []), (6, .iload_n 2, 1, 2, 0, 0, []), (7, .iconst 0, 1, 0, 0, 0, []), (8, .iconst 3, 1, 0, 0, 3, []), (9, .invokevirtual 59, 3, 128, 3, 0, [0, 15]), (12, .iconst 0, 1, 0, 0, 0, []), (13, .istore_n 3, 1, 3, 0, 0, []), (14, .iconst (-1), 1, 0, 0, -1, []), (15, .istore 4, 2, 4, 0, 0, []), (17, .iconst 0, 1, 0, 0, 0, []), (18, .istore 5, 2, 5, 0, 0, []), (20, .iconst 0, 1, 0, 0, 0, []), (21, .istore 6, 2, 6, 0, 0, []), (23, .iconst 0, 1, 0, 0, 0, []), (24, .istore 7, 2, 7, 0, 0, []), (26, .iload 7, 2, 7, 0, 0, []), (28, .aload_n 0, 1, 0, 0, 0, []), (29, .getfield 12, 3, 5, 0, 0, []), (32, .getfield 119, 3, 3, 1, 0, []), (35, .iload_n 1, 1, 1, 0, 0, []), (36, .aaload, 1, 0, 0, 0, []), (37, .getfield 207, 3, 2, 5, 0, []), (40, .if_icmp .ge 51, 3, 91, 0, 0, []), (43, .aload_n 0, 1, 0, 0, 0, []), (44, .getfield 12, 3, 5, 0, 0, []), (47, .iload_n 1, 1, 1, 0, 0, []), (48, .iload 7, 2, 7, 0, 0, []), (50, .invokevirtual 281, 3, 76, 2, 0, [1, 13]), (53, .istore 8, 2, 8, 0, 0, []), (55, .iload 8, 2, 8, 0, 0, []), (57, .ifCond .le 13, 3, 70, 0, 0, []), (60, .iinc 3 1, 3, 3, 0, 1, []), (63, .iload 6, 2, 6, 0, 0, []), (65, .iload 8, 2, 8, 0, 0, []), (67, .iadd, 1, 0, 0, 0, []), (68, .istore 6, 2, 6, 0, 0, []), (70, .iload 8, 2, 8, 0, 0, []), (72, .iload 5, 2, 5, 0, 0, []), (74, .if_icmp .le 11, 3, 85, 0, 0, []), (77, .iload 7, 2, 7, 0, 0, []), (79, .istore 4, 2, 4, 0, 0, []), (81, .iload 8, 2, 8, 0, 0, []), (83, .istore 5, 2, 5, 0, 0, []), (85, .iinc 7 1, 3, 7, 0, 1, []), (88, .goto (-62), 3, 26, 0, 0, []), (91, .iload_n 2, 1, 2, 0, 0, []), (92, .ifCond .ne 7, 3, 99, 0, 0, []), (95, .iload_n 3, 1, 3, 0, 0, []), (96, .goto 25, 3, 121, 0, 0, []), (99, .iload_n 2, 1, 2, 0, 0, []), (100, .iconst 1, 1, 0, 0, 1, []), (101, .if_icmp .ne 8, 3, 109, 0, 0, []), (104, .iload 4, 2, 4, 0, 0, []), (106, .goto 15, 3, 121, 0, 0, []), (109, .iload_n 2, 1, 2, 0, 0, []), (110, .iconst 2, 1, 0, 0, 2, []), (111, .if_icmp .ne 8, 3, 119, 0, 0, []), (114, .iload 5, 2, 5, 0, 0, []), (116, .goto 5, 3, 121, 0, 0, []), (119, .iload 6, 2, 6, 0, 0, []), (121, .ireturn, 1, 0, 0, 0, [])]
def zK_X5_stop : List zEnt := [(0, .aload_n 0, 1, 0, 0, 0, []), (1, .iload_n 1, 1, 1, 0, 0, []), (2, .invokevirtual 87, 3, 125, 1, 0, [0, 15]), (5, .aload_n 0, 1, 0, 0, 0, []), (6, .getfield 12, 3, 5, 0, 0, []), (9, .aload_n 0, 1, 0, 0, 0, []), (10, .getfield 12, 3, 5, 0, 0, []), (13, .getfield 119, 3, 3, 1, 0, []), (16, .iload_n 1, 1, 1, 0, 0, []), (17, .aaload, 1, 0, 0, 0, []), (18, .getfield 175, 3, 2, 3, 0, []), (21, .aload_n 0, 1, 0, 0, 0, []), (22, .getfield 38, 3, 5, 5, 0, []), (25, .invokevirtual 250, 3, 77, 2, 0, [0, 13]), (28, .iload_n 2, 1, 2, 0, 0, []), (29, .ifCond .lt 26, 3, 55, 0, 0, []), (32, .iload_n 2, 1, 2, 0, 0, []), (33, .aload_n 0, 1, 0, 0, 0, []), (34, .getfield 38, 3, 5, 5, 0, []), (37, .getfield 217, 3, 4, 1, 0, []), (40, .if_icmp .ge 15, 3, 55, 0, 0, []), (43, .aload_n 0, 1, 0, 0, 0, []), (44, .getfield 38, 3, 5, 5, 0, []), (47, .getfield 218, 3, 4, 0, 0, []), (50, .iload_n 2, 1, 2, 0, 0, []), (51, .iaload, 1, 0, 0, 0, []), (52, .goto 4, 3, 56, 0, 0, []), (55, .iconst (-1), 1, 0, 0, -1, []), (56, .ireturn, 1, 0, 0, 0, [])]
def zK_X5_room : List zEnt := [(0, .aload_n 0, 1, 0, 0, 0, []), (1, .iload_n 1, 1, 1, 0, 0, []), (2, .iload_n 2, 1, 2, 0, 0, []), (3, .invokevirtual 172, 3, 127, 2, 0, [0, 15]), (6, .aload_n 0, 1, 0, 0, 0, []), (7, .iload_n 3, 1, 3, 0, 0, []), (8, .iconst 0, 1, 0, 0, 0, []), (9, .iconst 1, 1, 0, 0, 1, []), (10, .invokevirtual 59, 3, 128, 3, 0, [0, 15]), (13, .aload_n 0, 1, 0, 0, 0, []), (14, .getfield 12, 3, 5, 0, 0, []), (17, .getfield 119, 3, 3, 1, 0, []), (20, .iload_n 1, 1, 1, 0, 0, []), (21, .aaload, 1, 0, 0, 0, []), (22, .getfield 175, 3, 2, 3, 0, []), (25, .istore 4, 2, 4, 0, 0, []), (27, .iload_n 3, 1, 3, 0, 0, []), (28, .ifCond .ne 16, 3, 44, 0, 0, []), (31, .aload_n 0, 1, 0, 0, 0, []), (32, .getfield 12, 3, 5, 0, 0, []), (35, .iload 4, 2, 4, 0, 0, []), (37, .iload_n 2, 1, 2, 0, 0, []), (38, .invokevirtual 284, 3, 79, 2, 0, [1, 13]), (41, .goto 13, 3, 54, 0, 0, []), (44, .aload_n 0, 1, 0, 0, 0, []), (45, .getfield 12, 3, 5, 0, 0, []), (48, .iload 4, 2, 4, 0, 0, []), (50, .iload_n 2, 1, 2, 0, 0, []), (51, .invokevirtual 287, 3, 80, 2, 0, [1, 13]), (54, .ireturn, 1, 0, 0, 0, [])]
def zK_X5_agree : List zEnt := [(0, .aload_n 0, 1, 0, 0, 0, []), (1, .iload_n 1, 1, 1, 0, 0, []), (2, .invokevirtual 87, 3, 125, 1, 0, [0, 15]), (5, .aload_n 0, 1, 0, 0, 0, []), (6, .iload_n 2, 1, 2, 0, 0, []), (7, .iconst 0, 1, 0, 0, 0, []), (8, .iconst 3, 1, 0, 0, 3, []), (9, .invokevirtual 59, 3, 128, 3, 0, [0, 15]), (12, .aload_n 0, 1, 0, 0, 0, []), (13, .getfield 12, 3, 5, 0, 0, []), (16, .getfield 119, 3, 3, 1, 0, []), (19, .iload_n 1, 1, 1, 0, 0, []), (20, .aaload, 1, 0, 0, 0, []), (21, .astore_n 3, 1, 3, 0, 0, []), (22, .aload_n 0, 1, 0, 0, 0, []), (23, .aload_n 3, 1, 3, 0, 0, []), (24, .invokevirtual 203, 3, 132, 1, 0, [2, 15]), (27, .astore 4, 2, 4, 0, 0, []), (29, .aload 4, 2, 4, 0, 0, []), (31, .ifnonnull 5, 3, 36, 0, 0, []), (34, .iconst (-1), 1, 0, 0, -1, []), (35, .ireturn, 1, 0, 0, 0, []), (36, .aload_n 3, 1, 3, 0, 0, []), (37, .aload 4, 2, 4, 0, 0, []), (39, .iconst 1, 1, 0, 0, 1, []), (40, .invokevirtual 290, 3, 39, 2, 0, [1, 12]), (43, .istore 5, 2, 5, 0, 0, []), (45, .aload_n 3, 1, 3, 0, 0, []), (46, .aload 4, 2, 4, 0, 0, []), (48, .iconst 0, 1, 0, 0, 0, []), (49, .invokevirtual 290, 3, 39, 2, 0, [1, 12]), (52, .istore 6, 2, 6, 0, 0, []), (54, .iload_n 2, 1, 2, 0, 0, []), (55, .tableswitch 42 0 2 #[25, 28, 31], 25, 97, 0, 0, [80, 83, 86]), (80, .iload 5, 2, 5, 0, 0, []), (82, .ireturn, 1, 0, 0, 0, []), (83, .iload 6, 2, 6, 0, 0, []), (85, .ireturn, 1, 0, 0, 0, []), (86, .aload_n 3, 1, 3, 0, 0, []), (87, .invokevirtual 243, 3, 29, 0, 0, [1, 12]), (90, .iload 5, 2, 5, 0, 0, []), (92, .isub, 1, 0, 0, 0, []), (93, .iload 6, 2, 6, 0, 0, []), (95, .isub, 1, 0, 0, 0, []), (96, .ireturn, 1, 0, 0, 0, []), (97, .aload 4, 2, 4, 0, 0, []), (99, .invokevirtual 243, 3, 29, 0, 0, [1, 12]), (102, .iload 5, 2, 5, 0, 0, []), (104, .isub, 1, 0, 0, 0, []), (105, .iload 6, 2, 6, 0, 0, []), (107, .isub, 1, 0, 0, 0, []), (108, .ireturn, 1, 0, 0, 0, [])]
def zK_X5_same : List zEnt := [(0, .aload_n 0, 1, 0, 0, 0, []), (1, .iload_n 1, 1, 1, 0, 0, []), (2, .invokevirtual 87, 3, 125, 1, 0, [0, 15]), (5, .aload_n 0, 1, 0, 0, 0, []), (6, .iload_n 2, 1, 2, 0, 0, []), (7, .iconst 0, 1, 0, 0, 0, []), (8, .sipush 999, 3, 0, 0, 999, []), (11, .invokevirtual 59, 3, 128, 3, 0, [0, 15]), (14, .aload_n 0, 1, 0, 0, 0, []), (15, .iload_n 3, 1, 3, 0, 0, []), (16, .iconst 0, 1, 0, 0, 0, []), (17, .iconst 1, 1, 0, 0, 1, []), (18, .invokevirtual 59, 3, 128, 3, 0, [0, 15]), (21, .aload_n 0, 1, 0, 0, 0, []), (22, .getfield 12, 3, 5, 0, 0, []), (25, .getfield 119, 3, 3, 1, 0, []), (28, .iload_n 1, 1, 1, 0, 0, []), (29, .aaload, 1, 0, 0, 0, []), (30, .astore 4, 2, 4, 0, 0, []), (32, .aload_n 0, 1, 0, 0, 0, []), (33, .aload 4, 2, 4, 0, 0, []), (35, .invokevirtual 203, 3, 132, 1, 0, [2, 15]), (38, .astore 5, 2, 5, 0, 0, []), (40, .aload 5, 2, 5, 0, 0, []), (42, .ifnonnull 5, 3, 47, 0, 0, []), (45, .iconst (-1), 1, 0, 0, -1, []), (46, .ireturn, 1, 0, 0, 0, []), (47, .aload 4, 2, 4, 0, 0, []), (49, .aload_n 0, 1, 0, 0, 0, []), (50, .getfield 42, 3, 5, 6, 0, []), (53, .invokevirtual 213, 3, 45, 1, 0, [0, 12]), (56, .aload 5, 2, 5, 0, 0, []), (58, .aload_n 0, 1, 0, 0, 0, []), (59, .getfield 45, 3, 5, 7, 0, []), (62, .invokevirtual 213, 3, 45, 1, 0, [0, 12]), (65, .aload_n 0, 1, 0, 0, 0, []), (66, .iload_n 2, 1, 2, 0, 0, []), (67, .invokevirtual 294, 3, 134, 1, 0, [1, 15]), (70, .istore 6, 2, 6, 0, 0, []), (72, .iload 6, 2, 6, 0, 0, []), (74, .ldc_w 297, 3, 0, 0, 100000, []), (77, .iadd, 1, 0, 0, 0, []), (78, .iconst 1, 1, 0, 0, 1, []), (79, .isub, 1, 0, 0, 0, []), (80, .ldc_w 297, 3, 0, 0, 100000, []), (83, .idiv, 1, 0, 0, 0, []), (84, .istore 7, 2, 7, 0, 0, []), (86, .iload_n 3, 1, 3, 0, 0, []), (87, .ifCond .ne 8, 3, 95, 0, 0, []), (90, .iload 7, 2, 7, 0, 0, []), (92, .goto 12, 3, 104, 0, 0, []), (95, .iload 7, 2, 7, 0, 0, []), (97, .ldc_w 297, 3, 0, 0, 100000, []), (100, .imul, 1, 0, 0, 0, []), (101, .iload 6, 2, 6, 0, 0, []), (103, .isub, 1, 0, 0, 0, []), (104, .ireturn, 1, 0, 0, 0, [])]
def zK_X5_print : List zEnt := [(0, .lconst 0, 1, 0, 0, 0, []), (1, .lstore_n 1, 1, 1, 0, 0, []), (2, .iconst 0, 1, 0, 0, 0, []), (3, .istore_n 3, 1, 3, 0, 0, []), (4, .iload_n 3, 1, 3, 0, 0, []), (5, .aload_n 0, 1, 0, 0, 0, []), (6, .getfield 12, 3, 5, 0, 0, []), (9, .getfield 233, 3, 3, 0, 0, []), (12, .if_icmp .ge 93, 3, 105, 0, 0, []), (15, .aload_n 0, 1, 0, 0, 0, []), (16, .getfield 12, 3, 5, 0, 0, []), (19, .getfield 119, 3, 3, 1, 0, []), (22, .iload_n 3, 1, 3, 0, 0, []), (23, .aaload, 1, 0, 0, 0, []), (24, .astore 4, 2, 4, 0, 0, []), (26, .iconst 0, 1, 0, 0, 0, []), (27, .istore 5, 2, 5, 0, 0, []), (29, .iload 5, 2, 5, 0, 0, []), (31, .aload 4, 2, 4, 0, 0, []), (33, .getfield 207, 3, 2, 5, 0, []), (36, .if_icmp .ge 57, 3, 93, 0, 0, []), (39, .ldc2_w 298, 3, 31, 0, 0, []), (42, .lload_n 1, 1, 1, 0, 0, []), (43, .lmul, 1, 0, 0, 0, []), (44, .aload 4, 2, 4, 0, 0, []), (46, .getfield 151, 3, 2, 6, 0, []), (49, .iload 5, 2, 5, 0, 0, []), (51, .iaload, 1, 0, 0, 0, []), (52, .i2l, 1, 0, 0, 0, []), (53, .ladd, 1, 0, 0, 0, []), (54, .lstore_n 1, 1, 1, 0, 0, []), (55, .ldc2_w 298, 3, 31, 0, 0, []), (58, .lload_n 1, 1, 1, 0, 0, []), (59, .lmul, 1, 0, 0, 0, []), (60, .aload 4, 2, 4, 0, 0, []), (62, .getfield 154, 3, 2, 7, 0, []), (65, .iload 5, 2, 5, 0, 0, []), (67, .iaload, 1, 0, 0, 0, []), (68, .i2l, 1, 0, 0, 0, []), (69, .ladd, 1, 0, 0, 0, []), (70, .lstore_n 1, 1, 1, 0, 0, []), (71, .ldc2_w 298, 3, 31, 0, 0, []), (74, .lload_n 1, 1, 1, 0, 0, []), (75, .lmul, 1, 0, 0, 0, []), (76, .aload 4, 2, 4, 0, 0, []), (78, .getfield 200, 3, 2, 8, 0, []), (81, .iload 5, 2, 5, 0, 0, []), (83, .iaload, 1, 0, 0, 0, []), (84, .i2l, 1, 0, 0, 0, []), (85, .ladd, 1, 0, 0, 0, []), (86, .lstore_n 1, 1, 1, 0, 0, []), (87, .iinc 5 1, 3, 5, 0, 1, []), (90, .goto (-61), 3, 29, 0, 0, []), (93, .ldc2_w 298, 3, 31, 0, 0, []), (96, .lload_n 1, 1, 1, 0, 0, []), (97, .lmul, 1, 0, 0, 0, []), (98, .lstore_n 1, 1, 1, 0, 0, []), (99, .iinc 3 1, 3, 3, 0, 1, []), (102, .goto (-98), 3, 4, 0, 0, []), (105, .lload_n 1, 1, 1, 0, 0, []), (106, .lreturn, 1, 0, 0, 0, [])]
def zK_X5_status : List zEnt := [(0, .iload_n 1, 1, 1, 0, 0, []), (1, .tableswitch 42 0 2 #[27, 32, 37], 27, 43, 0, 0, [28, 33, 38]), (28, .aload_n 0, 1, 0, 0, 0, []), (29, .getfield 300, 3, 5, 9, 0, []), (32, .ireturn, 1, 0, 0, 0, []), (33, .aload_n 0, 1, 0, 0, 0, []), (34, .getfield 303, 3, 5, 10, 0, []), (37, .ireturn, 1, 0, 0, 0, []), (38, .aload_n 0, 1, 0, 0, 0, []), (39, .getfield 306, 3, 5, 11, 0, []), (42, .ireturn, 1, 0, 0, 0, []), (43, .iconst (-1), 1, 0, 0, -1, []), (44, .ireturn, 1, 0, 0, 0, [])]
def zK_X5_refuseMissing : List zEnt := [(0, .aload_n 0, 1, 0, 0, 0, []), (1, .dup, 1, 0, 0, 0, []), (2, .getfield 300, 3, 5, 9, 0, []), (5, .iconst 1, 1, 0, 0, 1, []), (6, .iadd, 1, 0, 0, 0, []), (7, .putfield 300, 3, 5, 9, 0, []), (10, .new 309, 3, 0, 0, 0, [])]
def zK_X5_refuseArgument : List zEnt := [(0, .aload_n 0, 1, 0, 0, 0, []), (1, .dup, 1, 0, 0, 0, []), (2, .getfield 303, 3, 5, 10, 0, []), (5, .iconst 1, 1, 0, 0, 1, []), (6, .iadd, 1, 0, 0, 0, []), (7, .putfield 303, 3, 5, 10, 0, []), (10, .new 312, 3, 1, 0, 0, [])]
def zK_X5_needState : List zEnt := [(0, .iload_n 1, 1, 1, 0, 0, []), (1, .ifCond .ne 21, 3, 22, 0, 0, []), (4, .aload_n 0, 1, 0, 0, 0, []), (5, .dup, 1, 0, 0, 0, []), (6, .getfield 306, 3, 5, 11, 0, []), (9, .iconst 1, 1, 0, 0, 1, []), (10, .iadd, 1, 0, 0, 0, []), (11, .putfield 306, 3, 5, 11, 0, []), (14, .new 315, 3, 2, 0, 0, []), (22, .return_, 1, 0, 0, 0, [])]
def zK_X5_needTier : List zEnt := [(0, .aload_n 0, 1, 0, 0, 0, []), (1, .getfield 12, 3, 5, 0, 0, []), (4, .iload_n 1, 1, 1, 0, 0, []), (5, .invokevirtual 318, 3, 51, 1, 0, [1, 13]), (8, .ifCond .ne 7, 3, 15, 0, 0, []), (11, .aload_n 0, 1, 0, 0, 0, []), (12, .invokevirtual 321, 3, 122, 0, 0, [0, 15]), (15, .return_, 1, 0, 0, 0, [])]
def zK_X5_needMark : List zEnt := [(0, .aload_n 0, 1, 0, 0, 0, []), (1, .iload_n 1, 1, 1, 0, 0, []), (2, .invokevirtual 87, 3, 125, 1, 0, [0, 15]), (5, .aload_n 0, 1, 0, 0, 0, []), (6, .getfield 12, 3, 5, 0, 0, []), (9, .getfield 119, 3, 3, 1, 0, []), (12, .iload_n 1, 1, 1, 0, 0, []), (13, .aaload, 1, 0, 0, 0, []), (14, .iload_n 2, 1, 2, 0, 0, []), (15, .invokevirtual 324, 3, 27, 1, 0, [1, 12]), (18, .ifCond .ne 7, 3, 25, 0, 0, []), (21, .aload_n 0, 1, 0, 0, 0, []), (22, .invokevirtual 321, 3, 122, 0, 0, [0, 15]), (25, .return_, 1, 0, 0, 0, [])]
def zK_X5_needStop : List zEnt := [(0, .aload_n 0, 1, 0, 0, 0, []), (1, .iload_n 1, 1, 1, 0, 0, []), (2, .invokevirtual 87, 3, 125, 1, 0, [0, 15]), (5, .aload_n 0, 1, 0, 0, 0, []), (6, .getfield 12, 3, 5, 0, 0, []), (9, .aload_n 0, 1, 0, 0, 0, []), (10, .getfield 12, 3, 5, 0, 0, []), (13, .getfield 119, 3, 3, 1, 0, []), (16, .iload_n 1, 1, 1, 0, 0, []), (17, .aaload, 1, 0, 0, 0, []), (18, .getfield 175, 3, 2, 3, 0, []), (21, .iload_n 2, 1, 2, 0, 0, []), (22, .invokevirtual 263, 3, 78, 2, 0, [1, 13]), (25, .ifCond .ne 7, 3, 32, 0, 0, []), (28, .aload_n 0, 1, 0, 0, 0, []), (29, .invokevirtual 321, 3, 122, 0, 0, [0, 15]), (32, .return_, 1, 0, 0, 0, [])]
def zK_X5_needRange : List zEnt := [(0, .iload_n 1, 1, 1, 0, 0, []), (1, .iload_n 2, 1, 2, 0, 0, []), (2, .if_icmp .lt 8, 3, 10, 0, 0, []), (5, .iload_n 1, 1, 1, 0, 0, []), (6, .iload_n 3, 1, 3, 0, 0, []), (7, .if_icmp .le 7, 3, 14, 0, 0, []), (10, .aload_n 0, 1, 0, 0, 0, []), (11, .invokevirtual 197, 3, 123, 0, 0, [0, 15]), (14, .return_, 1, 0, 0, 0, [])]
def zK_X5_needTime : List zEnt := [(0, .aload_n 0, 1, 0, 0, 0, []), (1, .iload_n 1, 1, 1, 0, 0, []), (2, .iconst 0, 1, 0, 0, 0, []), (3, .sipush 999, 3, 0, 0, 999, []), (6, .invokevirtual 59, 3, 128, 3, 0, [0, 15]), (9, .return_, 1, 0, 0, 0, [])]
def zK_X5_needSpan : List zEnt := [(0, .aload_n 0, 1, 0, 0, 0, []), (1, .iload_n 1, 1, 1, 0, 0, []), (2, .invokevirtual 112, 3, 129, 1, 0, [0, 15]), (5, .aload_n 0, 1, 0, 0, 0, []), (6, .iload_n 2, 1, 2, 0, 0, []), (7, .invokevirtual 112, 3, 129, 1, 0, [0, 15]), (10, .iload_n 2, 1, 2, 0, 0, []), (11, .iload_n 1, 1, 1, 0, 0, []), (12, .if_icmp .gt 7, 3, 19, 0, 0, []), (15, .aload_n 0, 1, 0, 0, 0, []), (16, .invokevirtual 197, 3, 123, 0, 0, [0, 15]), (19, .return_, 1, 0, 0, 0, [])]
def zK_X5_isLabel : List zEnt := [(0, .iload_n 0, 1, 0, 0, 0, []), (1, .ifCond .lt 10, 3, 11, 0, 0, []), (4, .iload_n 0, 1, 0, 0, 0, []), (5, .ldc_w 327, 3, 0, 0, 1048576, []), (8, .if_icmp .lt 5, 3, 13, 0, 0, []), (11, .iconst 0, 1, 0, 0, 0, []), (12, .ireturn, 1, 0, 0, 0, []), (13, .iload_n 0, 1, 0, 0, 0, []), (14, .istore_n 1, 1, 1, 0, 0, []), (15, .iconst 0, 1, 0, 0, 0, []), (16, .istore_n 2, 1, 2, 0, 0, []), (17, .iload_n 2, 1, 2, 0, 0, []), (18, .iconst 4, 1, 0, 0, 4, []), (19, .if_icmp .ge 34, 3, 53, 0, 0, []), (22, .iload_n 1, 1, 1, 0, 0, []), (23, .ifCond .eq 30, 3, 53, 0, 0, []), (26, .iload_n 1, 1, 1, 0, 0, []), (27, .bipush 31, 2, 0, 0, 31, []), (29, .iand, 1, 0, 0, 0, []), (30, .istore_n 3, 1, 3, 0, 0, []), (31, .iload_n 3, 1, 3, 0, 0, []), (32, .ifCond .eq 9, 3, 41, 0, 0, []), (35, .iload_n 3, 1, 3, 0, 0, []), (36, .bipush 26, 2, 0, 0, 26, []), (38, .if_icmp .le 5, 3, 43, 0, 0, []), (41, .iconst 0, 1, 0, 0, 0, []), (42, .ireturn, 1, 0, 0, 0, []), (43, .iload_n 1, 1, 1, 0, 0, []), (44, .iconst 5, 1, 0, 0, 5, []), (45, .ishr, 1, 0, 0, 0, []), (46, .istore_n 1, 1, 1, 0, 0, []), (47, .iinc 2 1, 3, 2, 0, 1, []), (50, .goto (-33), 3, 17, 0, 0, []), (53, .iconst 1, 1, 0, 0, 1, []), (54, .ireturn, 1, 0, 0, 0, [])]
def zK_X5_twinOf : List zEnt := [(0, .aload_n 0, 1, 0, 0, 0, []), (1, .getfield 229, 3, 5, 2, 0, []), (4, .ifCond .eq 17, 3, 21, 0, 0, []), (7, .aload_n 0, 1, 0, 0, 0, []), (8, .getfield 16, 3, 5, 1, 0, []), (11, .aload_n 1, 1, 1, 0, 0, []), (12, .getfield 254, 3, 2, 0, 0, []), (15, .invokevirtual 328, 3, 52, 1, 0, [1, 13]), (18, .goto 4, 3, 22, 0, 0, []), (21, .iconst (-1), 1, 0, 0, -1, []), (22, .istore_n 2, 1, 2, 0, 0, []), (23, .iload_n 2, 1, 2, 0, 0, []), (24, .iconst (-1), 1, 0, 0, -1, []), (25, .if_icmp .ne 7, 3, 32, 0, 0, []), (28, .aconst_null, 1, 0, 0, 0, []), (29, .goto 12, 3, 41, 0, 0, []), (32, .aload_n 0, 1, 0, 0, 0, []), (33, .getfield 16, 3, 5, 1, 0, []), (36, .getfield 119, 3, 3, 1, 0, []), (39, .iload_n 2, 1, 2, 0, 0, []), (40, .aaload, 1, 0, 0, 0, []), (41, .areturn, 1, 0, 0, 0, [])]
def zK_X5_goalOfSnap : List zEnt := [(0, .aload_n 0, 1, 0, 0, 0, []), (1, .getfield 45, 3, 5, 7, 0, []), (4, .getfield 217, 3, 4, 1, 0, []), (7, .ifCond .eq 14, 3, 21, 0, 0, []), (10, .aload_n 0, 1, 0, 0, 0, []), (11, .getfield 45, 3, 5, 7, 0, []), (14, .iload_n 2, 1, 2, 0, 0, []), (15, .invokevirtual 331, 3, 88, 1, 0, [1, 14]), (18, .ifCond .eq 5, 3, 23, 0, 0, []), (21, .iconst (-1), 1, 0, 0, -1, []), (22, .ireturn, 1, 0, 0, 0, []), (23, .aload_n 0, 1, 0, 0, 0, []), (24, .getfield 45, 3, 5, 7, 0, []), (27, .iload_n 2, 1, 2, 0, 0, []), (28, .invokevirtual 334, 3, 90, 1, 0, [1, 14]), (31, .istore 4, 2, 4, 0, 0, []), (33, .iload 4, 2, 4, 0, 0, []), (35, .iload_n 2, 1, 2, 0, 0, []), (36, .isub, 1, 0, 0, 0, []), (37, .invokestatic 337, 3, 1002, 1, 0, []), (40, .iload_n 3, 1, 3, 0, 0, []), (41, .if_icmp .gt 17, 3, 58, 0, 0, []), (44, .aload_n 0, 1, 0, 0, 0, []), (45, .getfield 12, 3, 5, 0, 0, []), (48, .iload_n 1, 1, 1, 0, 0, []), (49, .iload_n 2, 1, 2, 0, 0, []), (50, .iload 4, 2, 4, 0, 0, []), (52, .invokevirtual 178, 3, 81, 3, 0, [1, 13]), (55, .ifCond .ne 5, 3, 60, 0, 0, []), (58, .iconst (-1), 1, 0, 0, -1, []), (59, .ireturn, 1, 0, 0, 0, []), (60, .iload 4, 2, 4, 0, 0, []), (62, .ireturn, 1, 0, 0, 0, [])]
def zK_X5_weighPairs : List zEnt := [(0, .iconst 0, 1, 0, 0, 0, []), (1, .istore_n 2, 1, 2, 0, 0, []), (2, .iload_n 2, 1, 2, 0, 0, []), (3, .aload_n 0, 1, 0, 0, 0, []), (4, .getfield 45, 3, 5, 7, 0, []), (7, .getfield 217, 3, 4, 1, 0, []), (10, .if_icmp .gt 16, 3, 26, 0, 0, []), (13, .aload_n 0, 1, 0, 0, 0, []), (14, .getfield 48, 3, 5, 8, 0, []), (17, .iload_n 2, 1, 2, 0, 0, []), (18, .iconst 0, 1, 0, 0, 0, []), (19, .iastore, 1, 0, 0, 0, []), (20, .iinc 2 1, 3, 2, 0, 1, []), (23, .goto (-21), 3, 2, 0, 0, []), (26, .iconst 0, 1, 0, 0, 0, []), (27, .istore_n 2, 1, 2, 0, 0, []), (28, .iload_n 2, 1, 2, 0, 0, []), (29, .aload_n 0, 1, 0, 0, 0, []), (30, .getfield 42, 3, 5, 6, 0, []), (33, .getfield 217, 3, 4, 1, 0, []), (36, .if_icmp .ge 117, 3, 153, 0, 0, []), (39, .iconst 0, 1, 0, 0, 0, []), (40, .istore_n 3, 1, 3, 0, 0, []), (41, .iconst 0, 1, 0, 0, 0, []), (42, .istore 4, 2, 4, 0, 0, []), (44, .iload 4, 2, 4, 0, 0, []), (46, .aload_n 0, 1, 0, 0, 0, []), (47, .getfield 45, 3, 5, 7, 0, []), (50, .getfield 217, 3, 4, 1, 0, []), (53, .if_icmp .ge 94, 3, 147, 0, 0, []), (56, .aload_n 0, 1, 0, 0, 0, []), (57, .getfield 48, 3, 5, 8, 0, []), (60, .iload 4, 2, 4, 0, 0, []), (62, .iconst 1, 1, 0, 0, 1, []), (63, .iadd, 1, 0, 0, 0, []), (64, .iaload, 1, 0, 0, 0, []), (65, .istore 5, 2, 5, 0, 0, []), (67, .iload 5, 2, 5, 0, 0, []), (69, .aload_n 0, 1, 0, 0, 0, []), (70, .getfield 48, 3, 5, 8, 0, []), (73, .iload 4, 2, 4, 0, 0, []), (75, .iaload, 1, 0, 0, 0, []), (76, .invokestatic 342, 3, 1000, 2, 0, []), (79, .istore 6, 2, 6, 0, 0, []), (81, .aload_n 0, 1, 0, 0, 0, []), (82, .getfield 42, 3, 5, 6, 0, []), (85, .getfield 218, 3, 4, 0, 0, []), (88, .iload_n 2, 1, 2, 0, 0, []), (89, .iaload, 1, 0, 0, 0, []), (90, .aload_n 0, 1, 0, 0, 0, []), (91, .getfield 45, 3, 5, 7, 0, []), (94, .getfield 218, 3, 4, 0, 0, []), (97, .iload 4, 2, 4, 0, 0, []), (99, .iaload, 1, 0, 0, 0, []), (100, .isub, 1, 0, 0, 0, []), (101, .invokestatic 337, 3, 1002, 1, 0, []), (104, .istore 7, 2, 7, 0, 0, []), (106, .iload 7, 2, 7, 0, 0, []), (108, .iload_n 1, 1, 1, 0, 0, []), (109, .if_icmp .gt 18, 3, 127, 0, 0, []), (112, .iload 6, 2, 6, 0, 0, []), (114, .iload_n 3, 1, 3, 0, 0, []), (115, .ldc_w 297, 3, 0, 0, 100000, []), (118, .iadd, 1, 0, 0, 0, []), (119, .iload 7, 2, 7, 0, 0, []), (121, .isub, 1, 0, 0, 0, []), (122, .invokestatic 342, 3, 1000, 2, 0, []), (125, .istore 6, 2, 6, 0, 0, []), (127, .aload_n 0, 1, 0, 0, 0, []), (128, .getfield 48, 3, 5, 8, 0, []), (131, .iload 4, 2, 4, 0, 0, []), (133, .iconst 1, 1, 0, 0, 1, []), (134, .iadd, 1, 0, 0, 0, []), (135, .iload 6, 2, 6, 0, 0, []), (137, .iastore, 1, 0, 0, 0, []), (138, .iload 5, 2, 5, 0, 0, []), (140, .istore_n 3, 1, 3, 0, 0, []), (141, .iinc 4 1, 3, 4, 0, 1, []), (144, .goto (-100), 3, 44, 0, 0, []), (147, .iinc 2 1, 3, 2, 0, 1, []), (150, .goto (-122), 3, 28, 0, 0, []), (153, .aload_n 0, 1, 0, 0, 0, []), (154, .getfield 48, 3, 5, 8, 0, []), (157, .aload_n 0, 1, 0, 0, 0, []), (158, .getfield 45, 3, 5, 7, 0, []), (161, .getfield 217, 3, 4, 1, 0, []), (164, .iaload, 1, 0, 0, 0, []), (165, .ireturn, 1, 0, 0, 0, [])]
def zK_X6_thrown : List zEnt := [(0, .aload_n 0, 1, 0, 0, 0, []), (1, .getfield 1, 3, 6, 0, 0, []), (4, .ireturn, 1, 0, 0, 0, [])]
def zK_X6_isFine : List zEnt := [(0, .iload_n 1, 1, 1, 0, 0, []), (1, .ifCond .ne 25, 3, 26, 0, 0, []), (4, .aload_n 0, 1, 0, 0, 0, []), (5, .getfield 1, 3, 6, 0, 0, []), (8, .ifCond .ne 18, 3, 26, 0, 0, []), (11, .aload_n 0, 1, 0, 0, 0, []), (12, .iload_n 2, 1, 2, 0, 0, []), (13, .putfield 1, 3, 6, 0, 0, []), (16, .aload_n 0, 1, 0, 0, 0, []), (17, .getfield 7, 3, 6, 1, 0, []), (20, .iload_n 3, 1, 3, 0, 0, []), (21, .dup2, 1, 0, 0, 0, []), (22, .iaload, 1, 0, 0, 0, []), (23, .iconst 1, 1, 0, 0, 1, []), (24, .iadd, 1, 0, 0, 0, []), (25, .iastore, 1, 0, 0, 0, []), (26, .aload_n 0, 1, 0, 0, 0, []), (27, .getfield 1, 3, 6, 0, 0, []), (30, .ifCond .ne 7, 3, 37, 0, 0, []), (33, .iconst 1, 1, 0, 0, 1, []), (34, .goto 4, 3, 38, 0, 0, []), (37, .iconst 0, 1, 0, 0, 0, []), (38, .ireturn, 1, 0, 0, 0, [])]
def zK_X6_isIn : List zEnt := [(0, .iload_n 0, 1, 0, 0, 0, []), (1, .iload_n 1, 1, 1, 0, 0, []), (2, .if_icmp .lt 12, 3, 14, 0, 0, []), (5, .iload_n 0, 1, 0, 0, 0, []), (6, .iload_n 2, 1, 2, 0, 0, []), (7, .if_icmp .gt 7, 3, 14, 0, 0, []), (10, .iconst 1, 1, 0, 0, 1, []), (11, .goto 4, 3, 15, 0, 0, []), (14, .iconst 0, 1, 0, 0, 0, []), (15, .ireturn, 1, 0, 0, 0, [])]
def zK_X6_tiers : List zEnt := [(0, .aload_n 0, 1, 0, 0, 0, []), (1, .getfield 17, 3, 6, 2, 0, []), (4, .iconst 0, 1, 0, 0, 0, []), (5, .iaload, 1, 0, 0, 0, []), (6, .ireturn, 1, 0, 0, 0, [])]
def zK_X6_pos : List zEnt := [(0, .iconst 1, 1, 0, 0, 1, []), (1, .bipush 124, 2, 0, 0, 124, []), (3, .iload_n 0, 1, 0, 0, 0, []), (4, .imul, 1, 0, 0, 0, []), (5, .iadd, 1, 0, 0, 0, []), (6, .iload_n 1, 1, 1, 0, 0, []), (7, .iadd, 1, 0, 0, 0, []), (8, .ireturn, 1, 0, 0, 0, [])]
def zK_X6_kind : List zEnt := [(0, .aload_n 0, 1, 0, 0, 0, []), (1, .getfield 17, 3, 6, 2, 0, []), (4, .iload_n 1, 1, 1, 0, 0, []), (5, .iconst 0, 1, 0, 0, 0, []), (6, .invokestatic 51, 3, 139, 2, 0, [1]), (9, .iaload, 1, 0, 0, 0, []), (10, .ireturn, 1, 0, 0, 0, [])]
def zK_X6_parent : List zEnt := [(0, .aload_n 0, 1, 0, 0, 0, []), (1, .getfield 17, 3, 6, 2, 0, []), (4, .iload_n 1, 1, 1, 0, 0, []), (5, .iconst 1, 1, 0, 0, 1, []), (6, .invokestatic 51, 3, 139, 2, 0, [1]), (9, .iaload, 1, 0, 0, 0, []), (10, .ireturn, 1, 0, 0, 0, [])]
def zK_X6_many : List zEnt := [(0, .aload_n 0, 1, 0, 0, 0, []), (1, .getfield 17, 3, 6, 2, 0, []), (4, .iload_n 1, 1, 1, 0, 0, []), (5, .iconst 2, 1, 0, 0, 2, []), (6, .invokestatic 51, 3, 139, 2, 0, [1]), (9, .iaload, 1, 0, 0, 0, []), (10, .ireturn, 1, 0, 0, 0, [])]
def zK_X6_cell : List zEnt := [(0, .iconst 1, 1, 0, 0, 1, []), (1, .bipush 124, 2, 0, 0, 124, []), (3, .iload_n 0, 1, 0, 0, 0, []), (4, .imul, 1, 0, 0, 0, []), (5, .iadd, 1, 0, 0, 0, []), (6, .iconst 4, 1, 0, 0, 4, []), (7, .iadd, 1, 0, 0, 0, []), (8, .iconst 3, 1, 0, 0, 3, []), (9, .iload_n 1, 1, 1, 0, 0, []), (10, .imul, 1, 0, 0, 0, []), (11, .iadd, 1, 0, 0, 0, []), (12, .iload_n 2, 1, 2, 0, 0, []), (13, .iadd, 1, 0, 0, 0, []), (14, .ireturn, 1, 0, 0, 0, [])]
def zK_X6_from : List zEnt := [(0, .aload_n 0, 1, 0, 0, 0, []), (1, .getfield 17, 3, 6, 2, 0, []), (4, .iload_n 1, 1, 1, 0, 0, []), (5, .iload_n 2, 1, 2, 0, 0, []), (6, .iconst 0, 1, 0, 0, 0, []), (7, .invokestatic 55, 3, 143, 3, 0, [1]), (10, .iaload, 1, 0, 0, 0, []), (11, .ireturn, 1, 0, 0, 0, [])]
def zK_X6_to : List zEnt := [(0, .aload_n 0, 1, 0, 0, 0, []), (1, .getfield 17, 3, 6, 2, 0, []), (4, .iload_n 1, 1, 1, 0, 0, []), (5, .iload_n 2, 1, 2, 0, 0, []), (6, .iconst 1, 1, 0, 0, 1, []), (7, .invokestatic 55, 3, 143, 3, 0, [1]), (10, .iaload, 1, 0, 0, 0, []), (11, .ireturn, 1, 0, 0, 0, [])]
def zK_X6_labelOf : List zEnt := [(0, .aload_n 0, 1, 0, 0, 0, []), (1, .getfield 17, 3, 6, 2, 0, []), (4, .iload_n 1, 1, 1, 0, 0, []), (5, .iload_n 2, 1, 2, 0, 0, []), (6, .iconst 2, 1, 0, 0, 2, []), (7, .invokestatic 55, 3, 143, 3, 0, [1]), (10, .iaload, 1, 0, 0, 0, []), (11, .ireturn, 1, 0, 0, 0, [])]
def zK_X6_copies : List zEnt := [(0, .iconst 0, 1, 0, 0, 0, []), (1, .istore_n 2, 1, 2, 0, 0, []), (2, .iload_n 2, 1, 2, 0, 0, []), (3, .sipush 745, 3, 0, 0, 745, []), (6, .if_icmp .ge 15, 3, 21, 0, 0, []), (9, .aload_n 1, 1, 1, 0, 0, []), (10, .iload_n 2, 1, 2, 0, 0, []), (11, .aload_n 0, 1, 0, 0, 0, []), (12, .iload_n 2, 1, 2, 0, 0, []), (13, .iaload, 1, 0, 0, 0, []), (14, .iastore, 1, 0, 0, 0, []), (15, .iinc 2 1, 3, 2, 0, 1, []), (18, .goto (-16), 3, 2, 0, 0, []), (21, .return_, 1, 0, 0, 0, [])]
def zK_X6_topOf : List zEnt := [(0, .iload_n 1, 1, 1, 0, 0, []), (1, .istore_n 2, 1, 2, 0, 0, []), (2, .aload_n 0, 1, 0, 0, 0, []), (3, .iload_n 2, 1, 2, 0, 0, []), (4, .invokevirtual 59, 3, 141, 1, 0, [1, 16]), (7, .iconst (-1), 1, 0, 0, -1, []), (8, .if_icmp .eq 12, 3, 20, 0, 0, []), (11, .aload_n 0, 1, 0, 0, 0, []), (12, .iload_n 2, 1, 2, 0, 0, []), (13, .invokevirtual 59, 3, 141, 1, 0, [1, 16]), (16, .istore_n 2, 1, 2, 0, 0, []), (17, .goto (-15), 3, 2, 0, 0, []), (20, .iload_n 2, 1, 2, 0, 0, []), (21, .ireturn, 1, 0, 0, 0, [])]
def zK_X6_depthOf : List zEnt := [(0, .iconst 0, 1, 0, 0, 0, []), (1, .istore_n 2, 1, 2, 0, 0, []), (2, .iload_n 1, 1, 1, 0, 0, []), (3, .istore_n 3, 1, 3, 0, 0, []), (4, .aload_n 0, 1, 0, 0, 0, []), (5, .iload_n 3, 1, 3, 0, 0, []), (6, .invokevirtual 59, 3, 141, 1, 0, [1, 16]), (9, .iconst (-1), 1, 0, 0, -1, []), (10, .if_icmp .eq 15, 3, 25, 0, 0, []), (13, .iinc 2 1, 3, 2, 0, 1, []), (16, .aload_n 0, 1, 0, 0, 0, []), (17, .iload_n 3, 1, 3, 0, 0, []), (18, .invokevirtual 59, 3, 141, 1, 0, [1, 16]), (21, .istore_n 3, 1, 3, 0, 0, []), (22, .goto (-18), 3, 4, 0, 0, []), (25, .iload_n 2, 1, 2, 0, 0, []), (26, .ireturn, 1, 0, 0, 0, [])]
def zK_X6_isBelow : List zEnt := [(0, .aload_n 0, 1, 0, 0, 0, []), (1, .iload_n 1, 1, 1, 0, 0, []), (2, .invokevirtual 59, 3, 141, 1, 0, [1, 16]), (5, .istore_n 3, 1, 3, 0, 0, []), (6, .iload_n 3, 1, 3, 0, 0, []), (7, .iconst (-1), 1, 0, 0, -1, []), (8, .if_icmp .eq 19, 3, 27, 0, 0, []), (11, .iload_n 3, 1, 3, 0, 0, []), (12, .iload_n 2, 1, 2, 0, 0, []), (13, .if_icmp .ne 5, 3, 18, 0, 0, []), (16, .iconst 1, 1, 0, 0, 1, []), (17, .ireturn, 1, 0, 0, 0, []), (18, .aload_n 0, 1, 0, 0, 0, []), (19, .iload_n 3, 1, 3, 0, 0, []), (20, .invokevirtual 59, 3, 141, 1, 0, [1, 16]), (23, .istore_n 3, 1, 3, 0, 0, []), (24, .goto (-18), 3, 6, 0, 0, []), (27, .iconst 0, 1, 0, 0, 0, []), (28, .ireturn, 1, 0, 0, 0, [])]
def zK_X6_isStop : List zEnt := [(0, .iconst 0, 1, 0, 0, 0, []), (1, .istore_n 3, 1, 3, 0, 0, []), (2, .iload_n 3, 1, 3, 0, 0, []), (3, .aload_n 0, 1, 0, 0, 0, []), (4, .invokevirtual 63, 3, 138, 0, 0, [1, 16]), (7, .if_icmp .ge 64, 3, 71, 0, 0, []), (10, .aload_n 0, 1, 0, 0, 0, []), (11, .iload_n 3, 1, 3, 0, 0, []), (12, .invokevirtual 67, 3, 148, 1, 0, [1, 16]), (15, .iload_n 1, 1, 1, 0, 0, []), (16, .if_icmp .eq 6, 3, 22, 0, 0, []), (19, .goto 46, 3, 65, 0, 0, []), (22, .iconst 0, 1, 0, 0, 0, []), (23, .istore 4, 2, 4, 0, 0, []), (25, .iload 4, 2, 4, 0, 0, []), (27, .aload_n 0, 1, 0, 0, 0, []), (28, .iload_n 3, 1, 3, 0, 0, []), (29, .invokevirtual 70, 3, 142, 1, 0, [1, 16]), (32, .if_icmp .ge 33, 3, 65, 0, 0, []), (35, .aload_n 0, 1, 0, 0, 0, []), (36, .iload_n 3, 1, 3, 0, 0, []), (37, .iload 4, 2, 4, 0, 0, []), (39, .invokevirtual 73, 3, 144, 2, 0, [1, 16]), (42, .iload_n 2, 1, 2, 0, 0, []), (43, .if_icmp .eq 14, 3, 57, 0, 0, []), (46, .aload_n 0, 1, 0, 0, 0, []), (47, .iload_n 3, 1, 3, 0, 0, []), (48, .iload 4, 2, 4, 0, 0, []), (50, .invokevirtual 76, 3, 145, 2, 0, [1, 16]), (53, .iload_n 2, 1, 2, 0, 0, []), (54, .if_icmp .ne 5, 3, 59, 0, 0, []), (57, .iconst 1, 1, 0, 0, 1, []), (58, .ireturn, 1, 0, 0, 0, []), (59, .iinc 4 1, 3, 4, 0, 1, []), (62, .goto (-37), 3, 25, 0, 0, []), (65, .iinc 3 1, 3, 3, 0, 1, []), (68, .goto (-66), 3, 2, 0, 0, []), (71, .iconst 0, 1, 0, 0, 0, []), (72, .ireturn, 1, 0, 0, 0, [])]
def zK_X6_around : List zEnt := [(0, .iconst 0, 1, 0, 0, 0, []), (1, .istore 4, 2, 4, 0, 0, []), (3, .iload 4, 2, 4, 0, 0, []), (5, .aload_n 0, 1, 0, 0, 0, []), (6, .iload_n 1, 1, 1, 0, 0, []), (7, .invokevirtual 70, 3, 142, 1, 0, [1, 16]), (10, .if_icmp .ge 34, 3, 44, 0, 0, []), (13, .aload_n 0, 1, 0, 0, 0, []), (14, .iload_n 1, 1, 1, 0, 0, []), (15, .iload 4, 2, 4, 0, 0, []), (17, .invokevirtual 73, 3, 144, 2, 0, [1, 16]), (20, .iload_n 2, 1, 2, 0, 0, []), (21, .if_icmp .gt 17, 3, 38, 0, 0, []), (24, .aload_n 0, 1, 0, 0, 0, []), (25, .iload_n 1, 1, 1, 0, 0, []), (26, .iload 4, 2, 4, 0, 0, []), (28, .invokevirtual 76, 3, 145, 2, 0, [1, 16]), (31, .iload_n 3, 1, 3, 0, 0, []), (32, .if_icmp .lt 6, 3, 38, 0, 0, []), (35, .iload 4, 2, 4, 0, 0, []), (37, .ireturn, 1, 0, 0, 0, []), (38, .iinc 4 1, 3, 4, 0, 1, []), (41, .goto (-38), 3, 3, 0, 0, []), (44, .iconst (-1), 1, 0, 0, -1, []), (45, .ireturn, 1, 0, 0, 0, [])]
def zK_X6_inserts : List zEnt := [(0, .aload_n 0, 1, 0, 0, 0, []), (1, .iload_n 1, 1, 1, 0, 0, []), (2, .invokevirtual 70, 3, 142, 1, 0, [1, 16]), (5, .istore 5, 2, 5, 0, 0, []), (7, .iload 5, 2, 5, 0, 0, []), (9, .ifCond .le 65, 3, 74, 0, 0, []), (12, .aload_n 0, 1, 0, 0, 0, []), (13, .iload_n 1, 1, 1, 0, 0, []), (14, .iload 5, 2, 5, 0, 0, []), (16, .iconst 1, 1, 0, 0, 1, []), (17, .isub, 1, 0, 0, 0, []), (18, .invokevirtual 73, 3, 144, 2, 0, [1, 16]), (21, .iload_n 2, 1, 2, 0, 0, []), (22, .if_icmp .le 52, 3, 74, 0, 0, []), (25, .iconst 0, 1, 0, 0, 0, []), (26, .istore 6, 2, 6, 0, 0, []), (28, .iload 6, 2, 6, 0, 0, []), (30, .iconst 3, 1, 0, 0, 3, []), (31, .if_icmp .ge 37, 3, 68, 0, 0, []), (34, .aload_n 0, 1, 0, 0, 0, []), (35, .getfield 17, 3, 6, 2, 0, []), (38, .iload_n 1, 1, 1, 0, 0, []), (39, .iload 5, 2, 5, 0, 0, []), (41, .iload 6, 2, 6, 0, 0, []), (43, .invokestatic 55, 3, 143, 3, 0, [1]), (46, .aload_n 0, 1, 0, 0, 0, []), (47, .getfield 17, 3, 6, 2, 0, []), (50, .iload_n 1, 1, 1, 0, 0, []), (51, .iload 5, 2, 5, 0, 0, []), (53, .iconst 1, 1, 0, 0, 1, []), (54, .isub, 1, 0, 0, 0, []), (55, .iload 6, 2, 6, 0, 0, []), (57, .invokestatic 55, 3, 143, 3, 0, [1]), (60, .iaload, 1, 0, 0, 0, []), (61, .iastore, 1, 0, 0, 0, []), (62, .iinc 6 1, 3, 6, 0, 1, []), (65, .goto (-37), 3, 28, 0, 0, []), (68, .iinc 5 (-1), 3, 5, 0, -1, []), (71, .goto (-64), 3, 7, 0, 0, []), (74, .aload_n 0, 1, 0, 0, 0, []), (75, .getfield 17, 3, 6, 2, 0, []), (78, .iload_n 1, 1, 1, 0, 0, []), (79, .iload 5, 2, 5, 0, 0, []), (81, .iconst 0, 1, 0, 0, 0, []), (82, .invokestatic 55, 3, 143, 3, 0, [1]), (85, .iload_n 2, 1, 2, 0, 0, []), (86, .iastore, 1, 0, 0, 0, []), (87, .aload_n 0, 1, 0, 0, 0, []), (88, .getfield 17, 3, 6, 2, 0, []), (91, .iload_n 1, 1, 1, 0, 0, []), (92, .iload 5, 2, 5, 0, 0, []), (94, .iconst 1, 1, 0, 0, 1, []), (95, .invokestatic 55, 3, 143, 3, 0, [1]), (98, .iload_n 3, 1, 3, 0, 0, []), (99, .iastore, 1, 0, 0, 0, []), (100, .aload_n 0, 1, 0, 0, 0, []), (101, .getfield 17, 3, 6, 2, 0, []), (104, .iload_n 1, 1, 1, 0, 0, []), (105, .iload 5, 2, 5, 0, 0, []), (107, .iconst 2, 1, 0, 0, 2, []), (108, .invokestatic 55, 3, 143, 3, 0, [1]), (111, .iload 4, 2, 4, 0, 0, []), (113, .iastore, 1, 0, 0, 0, []), (114, .aload_n 0, 1, 0, 0, 0, []), (115, .getfield 17, 3, 6, 2, 0, []), (118, .iload_n 1, 1, 1, 0, 0, []), (119, .iconst 2, 1, 0, 0, 2, []), (120, .invokestatic 51, 3, 139, 2, 0, [1]), (123, .dup2, 1, 0, 0, 0, []), (124, .iaload, 1, 0, 0, 0, []), (125, .iconst 1, 1, 0, 0, 1, []), (126, .iadd, 1, 0, 0, 0, []), (127, .iastore, 1, 0, 0, 0, []), (128, .iload 5, 2, 5, 0, 0, []), (130, .ireturn, 1, 0, 0, 0, [])]
def zK_X6_removes : List zEnt := [(0, .iload_n 1, 1, 1, 0, 0, []), (1, .iload_n 2, 1, 2, 0, 0, []), (2, .iconst 0, 1, 0, 0, 0, []), (3, .invokestatic 55, 3, 143, 3, 0, [1]), (6, .istore_n 3, 1, 3, 0, 0, []), (7, .iload_n 3, 1, 3, 0, 0, []), (8, .iload_n 1, 1, 1, 0, 0, []), (9, .aload_n 0, 1, 0, 0, 0, []), (10, .iload_n 1, 1, 1, 0, 0, []), (11, .invokevirtual 70, 3, 142, 1, 0, [1, 16]), (14, .iconst 1, 1, 0, 0, 1, []), (15, .isub, 1, 0, 0, 0, []), (16, .iconst 0, 1, 0, 0, 0, []), (17, .invokestatic 55, 3, 143, 3, 0, [1]), (20, .if_icmp .ge 23, 3, 43, 0, 0, []), (23, .aload_n 0, 1, 0, 0, 0, []), (24, .getfield 17, 3, 6, 2, 0, []), (27, .iload_n 3, 1, 3, 0, 0, []), (28, .aload_n 0, 1, 0, 0, 0, []), (29, .getfield 17, 3, 6, 2, 0, []), (32, .iload_n 3, 1, 3, 0, 0, []), (33, .iconst 3, 1, 0, 0, 3, []), (34, .iadd, 1, 0, 0, 0, []), (35, .iaload, 1, 0, 0, 0, []), (36, .iastore, 1, 0, 0, 0, []), (37, .iinc 3 1, 3, 3, 0, 1, []), (40, .goto (-33), 3, 7, 0, 0, []), (43, .aload_n 0, 1, 0, 0, 0, []), (44, .getfield 17, 3, 6, 2, 0, []), (47, .iload_n 1, 1, 1, 0, 0, []), (48, .iconst 2, 1, 0, 0, 2, []), (49, .invokestatic 51, 3, 139, 2, 0, [1]), (52, .dup2, 1, 0, 0, 0, []), (53, .iaload, 1, 0, 0, 0, []), (54, .iconst 1, 1, 0, 0, 1, []), (55, .isub, 1, 0, 0, 0, []), (56, .iastore, 1, 0, 0, 0, []), (57, .return_, 1, 0, 0, 0, [])]
def zK_X6_isClear : List zEnt := [(0, .iconst 0, 1, 0, 0, 0, []), (1, .istore 4, 2, 4, 0, 0, []), (3, .iload 4, 2, 4, 0, 0, []), (5, .aload_n 0, 1, 0, 0, 0, []), (6, .iload_n 1, 1, 1, 0, 0, []), (7, .invokevirtual 70, 3, 142, 1, 0, [1, 16]), (10, .if_icmp .ge 33, 3, 43, 0, 0, []), (13, .aload_n 0, 1, 0, 0, 0, []), (14, .iload_n 1, 1, 1, 0, 0, []), (15, .iload 4, 2, 4, 0, 0, []), (17, .invokevirtual 73, 3, 144, 2, 0, [1, 16]), (20, .iload_n 3, 1, 3, 0, 0, []), (21, .if_icmp .ge 16, 3, 37, 0, 0, []), (24, .aload_n 0, 1, 0, 0, 0, []), (25, .iload_n 1, 1, 1, 0, 0, []), (26, .iload 4, 2, 4, 0, 0, []), (28, .invokevirtual 76, 3, 145, 2, 0, [1, 16]), (31, .iload_n 2, 1, 2, 0, 0, []), (32, .if_icmp .le 5, 3, 37, 0, 0, []), (35, .iconst 0, 1, 0, 0, 0, []), (36, .ireturn, 1, 0, 0, 0, []), (37, .iinc 4 1, 3, 4, 0, 1, []), (40, .goto (-37), 3, 3, 0, 0, []), (43, .iconst 1, 1, 0, 0, 1, []), (44, .ireturn, 1, 0, 0, 0, [])]
def zK_X6_mayPut : List zEnt := [(0, .aload_n 0, 1, 0, 0, 0, []), (1, .iload_n 1, 1, 1, 0, 0, []), (2, .invokevirtual 79, 3, 140, 1, 0, [1, 16]), (5, .ifCond .eq 14, 3, 19, 0, 0, []), (8, .aload_n 0, 1, 0, 0, 0, []), (9, .iload_n 1, 1, 1, 0, 0, []), (10, .invokevirtual 79, 3, 140, 1, 0, [1, 16]), (13, .iconst 2, 1, 0, 0, 2, []), (14, .if_icmp .eq 5, 3, 19, 0, 0, []), (17, .iconst 0, 1, 0, 0, 0, []), (18, .ireturn, 1, 0, 0, 0, []), (19, .aload_n 0, 1, 0, 0, 0, []), (20, .iload_n 1, 1, 1, 0, 0, []), (21, .iload_n 2, 1, 2, 0, 0, []), (22, .iload_n 3, 1, 3, 0, 0, []), (23, .invokevirtual 82, 3, 155, 3, 0, [1, 16]), (26, .ifCond .eq 30, 3, 56, 0, 0, []), (29, .aload_n 0, 1, 0, 0, 0, []), (30, .iload_n 1, 1, 1, 0, 0, []), (31, .invokevirtual 79, 3, 140, 1, 0, [1, 16]), (34, .ifCond .eq 18, 3, 52, 0, 0, []), (37, .aload_n 0, 1, 0, 0, 0, []), (38, .aload_n 0, 1, 0, 0, 0, []), (39, .iload_n 1, 1, 1, 0, 0, []), (40, .invokevirtual 59, 3, 141, 1, 0, [1, 16]), (43, .iload_n 2, 1, 2, 0, 0, []), (44, .iload_n 3, 1, 3, 0, 0, []), (45, .invokevirtual 86, 3, 152, 3, 0, [1, 16]), (48, .iconst (-1), 1, 0, 0, -1, []), (49, .if_icmp .eq 7, 3, 56, 0, 0, []), (52, .iconst 1, 1, 0, 0, 1, []), (53, .goto 4, 3, 57, 0, 0, []), (56, .iconst 0, 1, 0, 0, 0, []), (57, .ireturn, 1, 0, 0, 0, [])]
def zK_X6_isCutFrom : List zEnt := [(0, .iload_n 1, 1, 1, 0, 0, []), (1, .istore_n 3, 1, 3, 0, 0, []), (2, .iload_n 3, 1, 3, 0, 0, []), (3, .iload_n 2, 1, 2, 0, 0, []), (4, .if_icmp .eq 26, 3, 30, 0, 0, []), (7, .iload_n 3, 1, 3, 0, 0, []), (8, .iconst (-1), 1, 0, 0, -1, []), (9, .if_icmp .eq 21, 3, 30, 0, 0, []), (12, .aload_n 0, 1, 0, 0, 0, []), (13, .iload_n 3, 1, 3, 0, 0, []), (14, .invokevirtual 79, 3, 140, 1, 0, [1, 16]), (17, .iconst 1, 1, 0, 0, 1, []), (18, .if_icmp .ne 12, 3, 30, 0, 0, []), (21, .aload_n 0, 1, 0, 0, 0, []), (22, .iload_n 3, 1, 3, 0, 0, []), (23, .invokevirtual 59, 3, 141, 1, 0, [1, 16]), (26, .istore_n 3, 1, 3, 0, 0, []), (27, .goto (-25), 3, 2, 0, 0, []), (30, .iload_n 3, 1, 3, 0, 0, []), (31, .iload_n 2, 1, 2, 0, 0, []), (32, .if_icmp .ne 7, 3, 39, 0, 0, []), (35, .iconst 1, 1, 0, 0, 1, []), (36, .goto 4, 3, 40, 0, 0, []), (39, .iconst 0, 1, 0, 0, 0, []), (40, .ireturn, 1, 0, 0, 0, [])]
def zK_X6_hasRoom : List zEnt := [(0, .iconst 0, 1, 0, 0, 0, []), (1, .istore_n 2, 1, 2, 0, 0, []), (2, .iload_n 2, 1, 2, 0, 0, []), (3, .aload_n 0, 1, 0, 0, 0, []), (4, .invokevirtual 63, 3, 138, 0, 0, [1, 16]), (7, .if_icmp .ge 30, 3, 37, 0, 0, []), (10, .aload_n 0, 1, 0, 0, 0, []), (11, .iload_n 2, 1, 2, 0, 0, []), (12, .iload_n 1, 1, 1, 0, 0, []), (13, .invokevirtual 89, 3, 157, 2, 0, [1, 16]), (16, .ifCond .eq 15, 3, 31, 0, 0, []), (19, .aload_n 0, 1, 0, 0, 0, []), (20, .iload_n 2, 1, 2, 0, 0, []), (21, .invokevirtual 70, 3, 142, 1, 0, [1, 16]), (24, .bipush 40, 2, 0, 0, 40, []), (26, .if_icmp .ne 5, 3, 31, 0, 0, []), (29, .iconst 0, 1, 0, 0, 0, []), (30, .ireturn, 1, 0, 0, 0, []), (31, .iinc 2 1, 3, 2, 0, 1, []), (34, .goto (-32), 3, 2, 0, 0, []), (37, .iconst 1, 1, 0, 0, 1, []), (38, .ireturn, 1, 0, 0, 0, [])]
def zK_X6_puts : List zEnt := [(0, .aload_n 0, 1, 0, 0, 0, []), (1, .iload_n 1, 1, 1, 0, 0, []), (2, .iload_n 2, 1, 2, 0, 0, []), (3, .iload_n 3, 1, 3, 0, 0, []), (4, .iload 4, 2, 4, 0, 0, []), (6, .invokevirtual 93, 3, 153, 4, 0, [1, 16]), (9, .istore 5, 2, 5, 0, 0, []), (11, .iconst 0, 1, 0, 0, 0, []), (12, .istore 6, 2, 6, 0, 0, []), (14, .iload 6, 2, 6, 0, 0, []), (16, .aload_n 0, 1, 0, 0, 0, []), (17, .invokevirtual 63, 3, 138, 0, 0, [1, 16]), (20, .if_icmp .ge 35, 3, 55, 0, 0, []), (23, .iload 6, 2, 6, 0, 0, []), (25, .iload_n 1, 1, 1, 0, 0, []), (26, .if_icmp .eq 23, 3, 49, 0, 0, []), (29, .aload_n 0, 1, 0, 0, 0, []), (30, .iload 6, 2, 6, 0, 0, []), (32, .iload_n 1, 1, 1, 0, 0, []), (33, .invokevirtual 89, 3, 157, 2, 0, [1, 16]), (36, .ifCond .eq 13, 3, 49, 0, 0, []), (39, .aload_n 0, 1, 0, 0, 0, []), (40, .iload 6, 2, 6, 0, 0, []), (42, .iload_n 2, 1, 2, 0, 0, []), (43, .iload_n 3, 1, 3, 0, 0, []), (44, .iconst 0, 1, 0, 0, 0, []), (45, .invokevirtual 93, 3, 153, 4, 0, [1, 16]), (48, .pop, 1, 0, 0, 0, []), (49, .iinc 6 1, 3, 6, 0, 1, []), (52, .goto (-38), 3, 14, 0, 0, []), (55, .iload 5, 2, 5, 0, 0, []), (57, .ireturn, 1, 0, 0, 0, [])]
def zK_X6_mayPoint : List zEnt := [(0, .aload_n 0, 1, 0, 0, 0, []), (1, .iload_n 1, 1, 1, 0, 0, []), (2, .invokevirtual 79, 3, 140, 1, 0, [1, 16]), (5, .iconst 3, 1, 0, 0, 3, []), (6, .if_icmp .eq 5, 3, 11, 0, 0, []), (9, .iconst 0, 1, 0, 0, 0, []), (10, .ireturn, 1, 0, 0, 0, []), (11, .iconst 0, 1, 0, 0, 0, []), (12, .istore_n 3, 1, 3, 0, 0, []), (13, .iload_n 3, 1, 3, 0, 0, []), (14, .aload_n 0, 1, 0, 0, 0, []), (15, .iload_n 1, 1, 1, 0, 0, []), (16, .invokevirtual 70, 3, 142, 1, 0, [1, 16]), (19, .if_icmp .ge 21, 3, 40, 0, 0, []), (22, .aload_n 0, 1, 0, 0, 0, []), (23, .iload_n 1, 1, 1, 0, 0, []), (24, .iload_n 3, 1, 3, 0, 0, []), (25, .invokevirtual 73, 3, 144, 2, 0, [1, 16]), (28, .iload_n 2, 1, 2, 0, 0, []), (29, .if_icmp .ne 5, 3, 34, 0, 0, []), (32, .iconst 0, 1, 0, 0, 0, []), (33, .ireturn, 1, 0, 0, 0, []), (34, .iinc 3 1, 3, 3, 0, 1, []), (37, .goto (-24), 3, 13, 0, 0, []), (40, .aload_n 0, 1, 0, 0, 0, []), (41, .iload_n 1, 1, 1, 0, 0, []), (42, .invokevirtual 59, 3, 141, 1, 0, [1, 16]), (45, .iconst (-1), 1, 0, 0, -1, []), (46, .if_icmp .eq 18, 3, 64, 0, 0, []), (49, .aload_n 0, 1, 0, 0, 0, []), (50, .aload_n 0, 1, 0, 0, 0, []), (51, .iload_n 1, 1, 1, 0, 0, []), (52, .invokevirtual 59, 3, 141, 1, 0, [1, 16]), (55, .iload_n 2, 1, 2, 0, 0, []), (56, .iload_n 2, 1, 2, 0, 0, []), (57, .invokevirtual 86, 3, 152, 3, 0, [1, 16]), (60, .iconst (-1), 1, 0, 0, -1, []), (61, .if_icmp .eq 7, 3, 68, 0, 0, []), (64, .iconst 1, 1, 0, 0, 1, []), (65, .goto 4, 3, 69, 0, 0, []), (68, .iconst 0, 1, 0, 0, 0, []), (69, .ireturn, 1, 0, 0, 0, [])]
def zK_X6_maySplit : List zEnt := [(0, .iconst 0, 1, 0, 0, 0, []), (1, .istore_n 3, 1, 3, 0, 0, []), (2, .iload_n 3, 1, 3, 0, 0, []), (3, .aload_n 0, 1, 0, 0, 0, []), (4, .invokevirtual 63, 3, 138, 0, 0, [1, 16]), (7, .if_icmp .ge 73, 3, 80, 0, 0, []), (10, .aload_n 0, 1, 0, 0, 0, []), (11, .iload_n 3, 1, 3, 0, 0, []), (12, .invokevirtual 79, 3, 140, 1, 0, [1, 16]), (15, .iconst 2, 1, 0, 0, 2, []), (16, .if_icmp .ne 58, 3, 74, 0, 0, []), (19, .aload_n 0, 1, 0, 0, 0, []), (20, .iload_n 3, 1, 3, 0, 0, []), (21, .iload_n 1, 1, 1, 0, 0, []), (22, .invokevirtual 97, 3, 150, 2, 0, [1, 16]), (25, .ifCond .ne 6, 3, 31, 0, 0, []), (28, .goto 46, 3, 74, 0, 0, []), (31, .iconst 0, 1, 0, 0, 0, []), (32, .istore 4, 2, 4, 0, 0, []), (34, .iload 4, 2, 4, 0, 0, []), (36, .aload_n 0, 1, 0, 0, 0, []), (37, .iload_n 3, 1, 3, 0, 0, []), (38, .invokevirtual 70, 3, 142, 1, 0, [1, 16]), (41, .if_icmp .ge 33, 3, 74, 0, 0, []), (44, .aload_n 0, 1, 0, 0, 0, []), (45, .iload_n 3, 1, 3, 0, 0, []), (46, .iload 4, 2, 4, 0, 0, []), (48, .invokevirtual 73, 3, 144, 2, 0, [1, 16]), (51, .iload_n 2, 1, 2, 0, 0, []), (52, .if_icmp .ge 16, 3, 68, 0, 0, []), (55, .aload_n 0, 1, 0, 0, 0, []), (56, .iload_n 3, 1, 3, 0, 0, []), (57, .iload 4, 2, 4, 0, 0, []), (59, .invokevirtual 76, 3, 145, 2, 0, [1, 16]), (62, .iload_n 2, 1, 2, 0, 0, []), (63, .if_icmp .le 5, 3, 68, 0, 0, []), (66, .iconst 0, 1, 0, 0, 0, []), (67, .ireturn, 1, 0, 0, 0, []), (68, .iinc 4 1, 3, 4, 0, 1, []), (71, .goto (-37), 3, 34, 0, 0, []), (74, .iinc 3 1, 3, 3, 0, 1, []), (77, .goto (-75), 3, 2, 0, 0, []), (80, .iconst 1, 1, 0, 0, 1, []), (81, .ireturn, 1, 0, 0, 0, [])]
def zK_X6_markWith : List zEnt := [(0, .iconst 0, 1, 0, 0, 0, []), (1, .istore_n 3, 1, 3, 0, 0, []), (2, .iload_n 3, 1, 3, 0, 0, []), (3, .aload_n 0, 1, 0, 0, 0, []), (4, .iload_n 1, 1, 1, 0, 0, []), (5, .invokevirtual 70, 3, 142, 1, 0, [1, 16]), (8, .if_icmp .ge 31, 3, 39, 0, 0, []), (11, .aload_n 0, 1, 0, 0, 0, []), (12, .iload_n 1, 1, 1, 0, 0, []), (13, .iload_n 3, 1, 3, 0, 0, []), (14, .invokevirtual 73, 3, 144, 2, 0, [1, 16]), (17, .iload_n 2, 1, 2, 0, 0, []), (18, .if_icmp .ge 15, 3, 33, 0, 0, []), (21, .aload_n 0, 1, 0, 0, 0, []), (22, .iload_n 1, 1, 1, 0, 0, []), (23, .iload_n 3, 1, 3, 0, 0, []), (24, .invokevirtual 76, 3, 145, 2, 0, [1, 16]), (27, .iload_n 2, 1, 2, 0, 0, []), (28, .if_icmp .le 5, 3, 33, 0, 0, []), (31, .iload_n 3, 1, 3, 0, 0, []), (32, .ireturn, 1, 0, 0, 0, []), (33, .iinc 3 1, 3, 3, 0, 1, []), (36, .goto (-34), 3, 2, 0, 0, []), (39, .iconst (-1), 1, 0, 0, -1, []), (40, .ireturn, 1, 0, 0, 0, [])]
def zK_X6_hasRoomToSplit : List zEnt := [(0, .iconst 0, 1, 0, 0, 0, []), (1, .istore_n 3, 1, 3, 0, 0, []), (2, .iload_n 3, 1, 3, 0, 0, []), (3, .aload_n 0, 1, 0, 0, 0, []), (4, .invokevirtual 63, 3, 138, 0, 0, [1, 16]), (7, .if_icmp .ge 54, 3, 61, 0, 0, []), (10, .iload_n 3, 1, 3, 0, 0, []), (11, .iload_n 1, 1, 1, 0, 0, []), (12, .if_icmp .eq 21, 3, 33, 0, 0, []), (15, .aload_n 0, 1, 0, 0, 0, []), (16, .iload_n 3, 1, 3, 0, 0, []), (17, .invokevirtual 79, 3, 140, 1, 0, [1, 16]), (20, .iconst 1, 1, 0, 0, 1, []), (21, .if_icmp .ne 34, 3, 55, 0, 0, []), (24, .aload_n 0, 1, 0, 0, 0, []), (25, .iload_n 3, 1, 3, 0, 0, []), (26, .iload_n 1, 1, 1, 0, 0, []), (27, .invokevirtual 97, 3, 150, 2, 0, [1, 16]), (30, .ifCond .eq 25, 3, 55, 0, 0, []), (33, .aload_n 0, 1, 0, 0, 0, []), (34, .iload_n 3, 1, 3, 0, 0, []), (35, .iload_n 2, 1, 2, 0, 0, []), (36, .invokevirtual 100, 3, 162, 2, 0, [1, 16]), (39, .iconst (-1), 1, 0, 0, -1, []), (40, .if_icmp .eq 15, 3, 55, 0, 0, []), (43, .aload_n 0, 1, 0, 0, 0, []), (44, .iload_n 3, 1, 3, 0, 0, []), (45, .invokevirtual 70, 3, 142, 1, 0, [1, 16]), (48, .bipush 40, 2, 0, 0, 40, []), (50, .if_icmp .ne 5, 3, 55, 0, 0, []), (53, .iconst 0, 1, 0, 0, 0, []), (54, .ireturn, 1, 0, 0, 0, []), (55, .iinc 3 1, 3, 3, 0, 1, []), (58, .goto (-56), 3, 2, 0, 0, []), (61, .iconst 1, 1, 0, 0, 1, []), (62, .ireturn, 1, 0, 0, 0, [])]
def zK_X6_splitsOne : List zEnt := [(0, .aload_n 0, 1, 0, 0, 0, []), (1, .iload_n 1, 1, 1, 0, 0, []), (2, .iload_n 2, 1, 2, 0, 0, []), (3, .invokevirtual 100, 3, 162, 2, 0, [1, 16]), (6, .istore_n 3, 1, 3, 0, 0, []), (7, .iload_n 3, 1, 3, 0, 0, []), (8, .iconst (-1), 1, 0, 0, -1, []), (9, .if_icmp .ne 5, 3, 14, 0, 0, []), (12, .iconst 0, 1, 0, 0, 0, []), (13, .ireturn, 1, 0, 0, 0, []), (14, .aload_n 0, 1, 0, 0, 0, []), (15, .iload_n 1, 1, 1, 0, 0, []), (16, .iload_n 3, 1, 3, 0, 0, []), (17, .invokevirtual 76, 3, 145, 2, 0, [1, 16]), (20, .istore 4, 2, 4, 0, 0, []), (22, .aload_n 0, 1, 0, 0, 0, []), (23, .getfield 17, 3, 6, 2, 0, []), (26, .iload_n 1, 1, 1, 0, 0, []), (27, .iload_n 3, 1, 3, 0, 0, []), (28, .iconst 1, 1, 0, 0, 1, []), (29, .invokestatic 55, 3, 143, 3, 0, [1]), (32, .iload_n 2, 1, 2, 0, 0, []), (33, .iastore, 1, 0, 0, 0, []), (34, .aload_n 0, 1, 0, 0, 0, []), (35, .iload_n 1, 1, 1, 0, 0, []), (36, .iload_n 2, 1, 2, 0, 0, []), (37, .iload 4, 2, 4, 0, 0, []), (39, .aload_n 0, 1, 0, 0, 0, []), (40, .iload_n 1, 1, 1, 0, 0, []), (41, .iload_n 3, 1, 3, 0, 0, []), (42, .invokevirtual 103, 3, 146, 2, 0, [1, 16]), (45, .invokevirtual 93, 3, 153, 4, 0, [1, 16]), (48, .pop, 1, 0, 0, 0, []), (49, .iconst 1, 1, 0, 0, 1, []), (50, .ireturn, 1, 0, 0, 0, [])]
def zK_X6_splits : List zEnt := [(0, .aload_n 0, 1, 0, 0, 0, []), (1, .iload_n 1, 1, 1, 0, 0, []), (2, .iload_n 2, 1, 2, 0, 0, []), (3, .invokevirtual 106, 3, 164, 2, 0, [1, 16]), (6, .istore_n 3, 1, 3, 0, 0, []), (7, .iconst 0, 1, 0, 0, 0, []), (8, .istore 4, 2, 4, 0, 0, []), (10, .iload 4, 2, 4, 0, 0, []), (12, .aload_n 0, 1, 0, 0, 0, []), (13, .invokevirtual 63, 3, 138, 0, 0, [1, 16]), (16, .if_icmp .ge 39, 3, 55, 0, 0, []), (19, .aload_n 0, 1, 0, 0, 0, []), (20, .iload 4, 2, 4, 0, 0, []), (22, .invokevirtual 79, 3, 140, 1, 0, [1, 16]), (25, .iconst 1, 1, 0, 0, 1, []), (26, .if_icmp .ne 23, 3, 49, 0, 0, []), (29, .aload_n 0, 1, 0, 0, 0, []), (30, .iload 4, 2, 4, 0, 0, []), (32, .iload_n 1, 1, 1, 0, 0, []), (33, .invokevirtual 97, 3, 150, 2, 0, [1, 16]), (36, .ifCond .eq 13, 3, 49, 0, 0, []), (39, .iload_n 3, 1, 3, 0, 0, []), (40, .aload_n 0, 1, 0, 0, 0, []), (41, .iload 4, 2, 4, 0, 0, []), (43, .iload_n 2, 1, 2, 0, 0, []), (44, .invokevirtual 106, 3, 164, 2, 0, [1, 16]), (47, .iadd, 1, 0, 0, 0, []), (48, .istore_n 3, 1, 3, 0, 0, []), (49, .iinc 4 1, 3, 4, 0, 1, []), (52, .goto (-42), 3, 10, 0, 0, []), (55, .iload_n 3, 1, 3, 0, 0, []), (56, .ireturn, 1, 0, 0, 0, [])]
def zK_X6_feed : List zEnt := [(0, .aload_n 0, 1, 0, 0, 0, []), (1, .iconst 0, 1, 0, 0, 0, []), (2, .putfield 1, 3, 6, 0, 0, []), (5, .aload_n 0, 1, 0, 0, 0, []), (6, .getfield 109, 3, 6, 10, 0, []), (9, .bipush 20, 2, 0, 0, 20, []), (11, .iadd, 1, 0, 0, 0, []), (12, .sipush 400, 3, 0, 0, 400, []), (15, .if_icmp .le 5, 3, 20, 0, 0, []), (18, .iconst (-1), 1, 0, 0, -1, []), (19, .ireturn, 1, 0, 0, 0, []), (20, .aload_n 0, 1, 0, 0, 0, []), (21, .iload_n 1, 1, 1, 0, 0, []), (22, .invokevirtual 112, 3, 167, 1, 0, [0, 16]), (25, .aload_n 0, 1, 0, 0, 0, []), (26, .iload_n 2, 1, 2, 0, 0, []), (27, .invokevirtual 112, 3, 167, 1, 0, [0, 16]), (30, .aload_n 0, 1, 0, 0, 0, []), (31, .iload_n 3, 1, 3, 0, 0, []), (32, .invokevirtual 112, 3, 167, 1, 0, [0, 16]), (35, .aload_n 0, 1, 0, 0, 0, []), (36, .iload 4, 2, 4, 0, 0, []), (38, .invokevirtual 112, 3, 167, 1, 0, [0, 16]), (41, .aload_n 0, 1, 0, 0, 0, []), (42, .iload 5, 2, 5, 0, 0, []), (44, .invokevirtual 112, 3, 167, 1, 0, [0, 16]), (47, .aload_n 0, 1, 0, 0, 0, []), (48, .getfield 109, 3, 6, 10, 0, []), (51, .ireturn, 1, 0, 0, 0, [])]
def zK_X6_puts_ : List zEnt := [(0, .bipush 24, 2, 0, 0, 24, []), (2, .istore_n 2, 1, 2, 0, 0, []), (3, .iload_n 2, 1, 2, 0, 0, []), (4, .ifCond .lt 32, 3, 36, 0, 0, []), (7, .aload_n 0, 1, 0, 0, 0, []), (8, .getfield 29, 3, 6, 8, 0, []), (11, .aload_n 0, 1, 0, 0, 0, []), (12, .getfield 109, 3, 6, 10, 0, []), (15, .iload_n 1, 1, 1, 0, 0, []), (16, .iload_n 2, 1, 2, 0, 0, []), (17, .ishr, 1, 0, 0, 0, []), (18, .i2b, 1, 0, 0, 0, []), (19, .bastore, 1, 0, 0, 0, []), (20, .aload_n 0, 1, 0, 0, 0, []), (21, .dup, 1, 0, 0, 0, []), (22, .getfield 109, 3, 6, 10, 0, []), (25, .iconst 1, 1, 0, 0, 1, []), (26, .iadd, 1, 0, 0, 0, []), (27, .putfield 109, 3, 6, 10, 0, []), (30, .iinc 2 (-8), 3, 2, 0, -8, []), (33, .goto (-30), 3, 3, 0, 0, []), (36, .return_, 1, 0, 0, 0, [])]
def zK_X6_wrong : List zEnt := [(0, .aload_n 0, 1, 0, 0, 0, []), (1, .getfield 116, 3, 6, 14, 0, []), (4, .ifCond .le 4, 3, 8, 0, 0, []), (7, .return_, 1, 0, 0, 0, []), (8, .aload_n 0, 1, 0, 0, 0, []), (9, .iload_n 1, 1, 1, 0, 0, []), (10, .putfield 116, 3, 6, 14, 0, []), (13, .aload_n 0, 1, 0, 0, 0, []), (14, .iload_n 2, 1, 2, 0, 0, []), (15, .putfield 119, 3, 6, 15, 0, []), (18, .return_, 1, 0, 0, 0, [])]
def zK_X6_sign : List zEnt := [(0, .aload_n 0, 1, 0, 0, 0, []), (1, .getfield 122, 3, 6, 12, 0, []), (4, .aload_n 0, 1, 0, 0, 0, []), (5, .getfield 125, 3, 6, 11, 0, []), (8, .if_icmp .ge 30, 3, 38, 0, 0, []), (11, .aload_n 0, 1, 0, 0, 0, []), (12, .getfield 33, 3, 6, 9, 0, []), (15, .aload_n 0, 1, 0, 0, 0, []), (16, .getfield 122, 3, 6, 12, 0, []), (19, .baload, 1, 0, 0, 0, []), (20, .bipush 32, 2, 0, 0, 32, []), (22, .if_icmp .ne 16, 3, 38, 0, 0, []), (25, .aload_n 0, 1, 0, 0, 0, []), (26, .dup, 1, 0, 0, 0, []), (27, .getfield 122, 3, 6, 12, 0, []), (30, .iconst 1, 1, 0, 0, 1, []), (31, .iadd, 1, 0, 0, 0, []), (32, .putfield 122, 3, 6, 12, 0, []), (35, .goto (-35), 3, 0, 0, 0, []), (38, .aload_n 0, 1, 0, 0, 0, []), (39, .getfield 122, 3, 6, 12, 0, []), (42, .aload_n 0, 1, 0, 0, 0, []), (43, .getfield 125, 3, 6, 11, 0, []), (46, .if_icmp .ge 15, 3, 61, 0, 0, []), (49, .aload_n 0, 1, 0, 0, 0, []), (50, .getfield 33, 3, 6, 9, 0, []), (53, .aload_n 0, 1, 0, 0, 0, []), (54, .getfield 122, 3, 6, 12, 0, []), (57, .baload, 1, 0, 0, 0, []), (58, .goto 4, 3, 62, 0, 0, []), (61, .iconst 0, 1, 0, 0, 0, []), (62, .ireturn, 1, 0, 0, 0, [])]
def zK_X6_isSmall : List zEnt := [(0, .iload_n 1, 1, 1, 0, 0, []), (1, .aload_n 0, 1, 0, 0, 0, []), (2, .getfield 125, 3, 6, 11, 0, []), (5, .if_icmp .ge 29, 3, 34, 0, 0, []), (8, .aload_n 0, 1, 0, 0, 0, []), (9, .getfield 33, 3, 6, 9, 0, []), (12, .iload_n 1, 1, 1, 0, 0, []), (13, .baload, 1, 0, 0, 0, []), (14, .bipush 97, 2, 0, 0, 97, []), (16, .if_icmp .lt 18, 3, 34, 0, 0, []), (19, .aload_n 0, 1, 0, 0, 0, []), (20, .getfield 33, 3, 6, 9, 0, []), (23, .iload_n 1, 1, 1, 0, 0, []), (24, .baload, 1, 0, 0, 0, []), (25, .bipush 122, 2, 0, 0, 122, []), (27, .if_icmp .gt 7, 3, 34, 0, 0, []), (30, .iconst 1, 1, 0, 0, 1, []), (31, .goto 4, 3, 35, 0, 0, []), (34, .iconst 0, 1, 0, 0, 0, []), (35, .ireturn, 1, 0, 0, 0, [])]
def zK_X6_passes : List zEnt := [(0, .aload_n 0, 1, 0, 0, 0, []), (1, .invokevirtual 128, 3, 169, 0, 0, [1, 16]), (4, .pop, 1, 0, 0, 0, []), (5, .iconst 0, 1, 0, 0, 0, []), (6, .istore_n 2, 1, 2, 0, 0, []), (7, .iload_n 2, 1, 2, 0, 0, []), (8, .aload_n 1, 1, 1, 0, 0, []), (9, .invokevirtual 131, 3, 1010, 0, 0, []), (12, .if_icmp .ge 43, 3, 55, 0, 0, []), (15, .aload_n 0, 1, 0, 0, 0, []), (16, .aload_n 0, 1, 0, 0, 0, []), (17, .getfield 122, 3, 6, 12, 0, []), (20, .iload_n 2, 1, 2, 0, 0, []), (21, .iadd, 1, 0, 0, 0, []), (22, .invokevirtual 136, 3, 170, 1, 0, [1, 16]), (25, .ifCond .eq 22, 3, 47, 0, 0, []), (28, .aload_n 0, 1, 0, 0, 0, []), (29, .getfield 33, 3, 6, 9, 0, []), (32, .aload_n 0, 1, 0, 0, 0, []), (33, .getfield 122, 3, 6, 12, 0, []), (36, .iload_n 2, 1, 2, 0, 0, []), (37, .iadd, 1, 0, 0, 0, []), (38, .baload, 1, 0, 0, 0, []), (39, .aload_n 1, 1, 1, 0, 0, []), (40, .iload_n 2, 1, 2, 0, 0, []), (41, .invokevirtual 140, 3, 1011, 1, 0, []), (44, .if_icmp .eq 5, 3, 49, 0, 0, []), (47, .iconst 0, 1, 0, 0, 0, []), (48, .ireturn, 1, 0, 0, 0, []), (49, .iinc 2 1, 3, 2, 0, 1, []), (52, .goto (-45), 3, 7, 0, 0, []), (55, .aload_n 0, 1, 0, 0, 0, []), (56, .aload_n 0, 1, 0, 0, 0, []), (57, .getfield 122, 3, 6, 12, 0, []), (60, .aload_n 1, 1, 1, 0, 0, []), (61, .invokevirtual 131, 3, 1010, 0, 0, []), (64, .iadd, 1, 0, 0, 0, []), (65, .invokevirtual 136, 3, 170, 1, 0, [1, 16]), (68, .ifCond .eq 5, 3, 73, 0, 0, []), (71, .iconst 0, 1, 0, 0, 0, []), (72, .ireturn, 1, 0, 0, 0, []), (73, .aload_n 0, 1, 0, 0, 0, []), (74, .aload_n 0, 1, 0, 0, 0, []), (75, .getfield 122, 3, 6, 12, 0, []), (78, .putfield 144, 3, 6, 13, 0, []), (81, .aload_n 0, 1, 0, 0, 0, []), (82, .dup, 1, 0, 0, 0, []), (83, .getfield 122, 3, 6, 12, 0, []), (86, .aload_n 1, 1, 1, 0, 0, []), (87, .invokevirtual 131, 3, 1010, 0, 0, []), (90, .iadd, 1, 0, 0, 0, []), (91, .putfield 122, 3, 6, 12, 0, []), (94, .iconst 1, 1, 0, 0, 1, []), (95, .ireturn, 1, 0, 0, 0, [])]
def zK_X6_word : List zEnt := [(0, .aload_n 0, 1, 0, 0, 0, []), (1, .invokevirtual 128, 3, 169, 0, 0, [1, 16]), (4, .pop, 1, 0, 0, 0, []), (5, .aload_n 0, 1, 0, 0, 0, []), (6, .aload_n 0, 1, 0, 0, 0, []), (7, .getfield 122, 3, 6, 12, 0, []), (10, .putfield 144, 3, 6, 13, 0, []), (13, .iconst 0, 1, 0, 0, 0, []), (14, .istore_n 3, 1, 3, 0, 0, []), (15, .iconst 0, 1, 0, 0, 0, []), (16, .istore 4, 2, 4, 0, 0, []), (18, .aload_n 0, 1, 0, 0, 0, []), (19, .aload_n 0, 1, 0, 0, 0, []), (20, .getfield 122, 3, 6, 12, 0, []), (23, .iload_n 3, 1, 3, 0, 0, []), (24, .iadd, 1, 0, 0, 0, []), (25, .invokevirtual 136, 3, 170, 1, 0, [1, 16]), (28, .ifCond .eq 43, 3, 71, 0, 0, []), (31, .iload_n 3, 1, 3, 0, 0, []), (32, .iload_n 1, 1, 1, 0, 0, []), (33, .if_icmp .ge 28, 3, 61, 0, 0, []), (36, .bipush 32, 2, 0, 0, 32, []), (38, .iload 4, 2, 4, 0, 0, []), (40, .imul, 1, 0, 0, 0, []), (41, .aload_n 0, 1, 0, 0, 0, []), (42, .getfield 33, 3, 6, 9, 0, []), (45, .aload_n 0, 1, 0, 0, 0, []), (46, .getfield 122, 3, 6, 12, 0, []), (49, .iload_n 3, 1, 3, 0, 0, []), (50, .iadd, 1, 0, 0, 0, []), (51, .baload, 1, 0, 0, 0, []), (52, .iadd, 1, 0, 0, 0, []), (53, .bipush 97, 2, 0, 0, 97, []), (55, .isub, 1, 0, 0, 0, []), (56, .iconst 1, 1, 0, 0, 1, []), (57, .iadd, 1, 0, 0, 0, []), (58, .goto 5, 3, 63, 0, 0, []), (61, .iload 4, 2, 4, 0, 0, []), (63, .istore 4, 2, 4, 0, 0, []), (65, .iinc 3 1, 3, 3, 0, 1, []), (68, .goto (-50), 3, 18, 0, 0, []), (71, .iload_n 3, 1, 3, 0, 0, []), (72, .ifCond .eq 8, 3, 80, 0, 0, []), (75, .iload_n 3, 1, 3, 0, 0, []), (76, .iload_n 1, 1, 1, 0, 0, []), (77, .if_icmp .le 12, 3, 89, 0, 0, []), (80, .aload_n 0, 1, 0, 0, 0, []), (81, .iconst 1, 1, 0, 0, 1, []), (82, .aload_n 0, 1, 0, 0, 0, []), (83, .getfield 144, 3, 6, 13, 0, []), (86, .invokevirtual 147, 3, 168, 2, 0, [0, 16]), (89, .aload_n 0, 1, 0, 0, 0, []), (90, .dup, 1, 0, 0, 0, []), (91, .getfield 122, 3, 6, 12, 0, []), (94, .iload_n 3, 1, 3, 0, 0, []), (95, .iadd, 1, 0, 0, 0, []), (96, .putfield 122, 3, 6, 12, 0, []), (99, .iload_n 3, 1, 3, 0, 0, []), (100, .istore 5, 2, 5, 0, 0, []), (102, .iload_n 2, 1, 2, 0, 0, []), (103, .ifCond .eq 22, 3, 125, 0, 0, []), (106, .iload 5, 2, 5, 0, 0, []), (108, .iload_n 1, 1, 1, 0, 0, []), (109, .if_icmp .ge 16, 3, 125, 0, 0, []), (112, .iload 4, 2, 4, 0, 0, []), (114, .bipush 32, 2, 0, 0, 32, []), (116, .imul, 1, 0, 0, 0, []), (117, .istore 4, 2, 4, 0, 0, []), (119, .iinc 5 1, 3, 5, 0, 1, []), (122, .goto (-20), 3, 102, 0, 0, []), (125, .iload 4, 2, 4, 0, 0, []), (127, .ireturn, 1, 0, 0, 0, [])]
def zK_X6_isWordHere : List zEnt := [(0, .aload_n 0, 1, 0, 0, 0, []), (1, .invokevirtual 128, 3, 169, 0, 0, [1, 16]), (4, .pop, 1, 0, 0, 0, []), (5, .aload_n 0, 1, 0, 0, 0, []), (6, .getfield 116, 3, 6, 14, 0, []), (9, .ifCond .ne 18, 3, 27, 0, 0, []), (12, .aload_n 0, 1, 0, 0, 0, []), (13, .aload_n 0, 1, 0, 0, 0, []), (14, .getfield 122, 3, 6, 12, 0, []), (17, .invokevirtual 136, 3, 170, 1, 0, [1, 16]), (20, .ifCond .eq 7, 3, 27, 0, 0, []), (23, .iconst 1, 1, 0, 0, 1, []), (24, .goto 4, 3, 28, 0, 0, []), (27, .iconst 0, 1, 0, 0, 0, []), (28, .ireturn, 1, 0, 0, 0, [])]
def zK_X6_number : List zEnt := [(0, .aload_n 0, 1, 0, 0, 0, []), (1, .invokevirtual 128, 3, 169, 0, 0, [1, 16]), (4, .istore_n 2, 1, 2, 0, 0, []), (5, .aload_n 0, 1, 0, 0, 0, []), (6, .getfield 116, 3, 6, 14, 0, []), (9, .ifCond .ne 24, 3, 33, 0, 0, []), (12, .iload_n 2, 1, 2, 0, 0, []), (13, .bipush 48, 2, 0, 0, 48, []), (15, .if_icmp .lt 9, 3, 24, 0, 0, []), (18, .iload_n 2, 1, 2, 0, 0, []), (19, .bipush 57, 2, 0, 0, 57, []), (21, .if_icmp .le 12, 3, 33, 0, 0, []), (24, .aload_n 0, 1, 0, 0, 0, []), (25, .iconst 1, 1, 0, 0, 1, []), (26, .aload_n 0, 1, 0, 0, 0, []), (27, .getfield 122, 3, 6, 12, 0, []), (30, .invokevirtual 147, 3, 168, 2, 0, [0, 16]), (33, .aload_n 0, 1, 0, 0, 0, []), (34, .getfield 116, 3, 6, 14, 0, []), (37, .ifCond .le 5, 3, 42, 0, 0, []), (40, .iconst 0, 1, 0, 0, 0, []), (41, .ireturn, 1, 0, 0, 0, []), (42, .aload_n 0, 1, 0, 0, 0, []), (43, .getfield 122, 3, 6, 12, 0, []), (46, .istore_n 3, 1, 3, 0, 0, []), (47, .iconst 0, 1, 0, 0, 0, []), (48, .istore 4, 2, 4, 0, 0, []), (50, .aload_n 0, 1, 0, 0, 0, []), (51, .getfield 122, 3, 6, 12, 0, []), (54, .aload_n 0, 1, 0, 0, 0, []), (55, .getfield 125, 3, 6, 11, 0, []), (58, .if_icmp .ge 69, 3, 127, 0, 0, []), (61, .aload_n 0, 1, 0, 0, 0, []), (62, .getfield 33, 3, 6, 9, 0, []), (65, .aload_n 0, 1, 0, 0, 0, []), (66, .getfield 122, 3, 6, 12, 0, []), (69, .baload, 1, 0, 0, 0, []), (70, .bipush 48, 2, 0, 0, 48, []), (72, .if_icmp .lt 55, 3, 127, 0, 0, []), (75, .aload_n 0, 1, 0, 0, 0, []), (76, .getfield 33, 3, 6, 9, 0, []), (79, .aload_n 0, 1, 0, 0, 0, []), (80, .getfield 122, 3, 6, 12, 0, []), (83, .baload, 1, 0, 0, 0, []), (84, .bipush 57, 2, 0, 0, 57, []), (86, .if_icmp .gt 41, 3, 127, 0, 0, []), (89, .bipush 10, 2, 0, 0, 10, []), (91, .iload 4, 2, 4, 0, 0, []), (93, .imul, 1, 0, 0, 0, []), (94, .aload_n 0, 1, 0, 0, 0, []), (95, .getfield 33, 3, 6, 9, 0, []), (98, .aload_n 0, 1, 0, 0, 0, []), (99, .getfield 122, 3, 6, 12, 0, []), (102, .baload, 1, 0, 0, 0, []), (103, .iadd, 1, 0, 0, 0, []), (104, .bipush 48, 2, 0, 0, 48, []), (106, .isub, 1, 0, 0, 0, []), (107, .ldc 151, 2, 0, 0, 100000, []), (109, .invokestatic 152, 3, 1001, 2, 0, []), (112, .istore 4, 2, 4, 0, 0, []), (114, .aload_n 0, 1, 0, 0, 0, []), (115, .dup, 1, 0, 0, 0, []), (116, .getfield 122, 3, 6, 12, 0, []), (119, .iconst 1, 1, 0, 0, 1, []), (120, .iadd, 1, 0, 0, 0, []), (121, .putfield 122, 3, 6, 12, 0, []), (124, .goto (-74), 3, 50, 0, 0, []), (127, .iload 4, 2, 4, 0, 0, []), (129, .iload_n 1, 1, 1, 0, 0, []), (130, .sipush 999, 3, 0, 0, 999, []), (133, .invokestatic 157, 3, 137, 3, 0, [1]), (136, .ifCond .ne 9, 3, 145, 0, 0, []), (139, .aload_n 0, 1, 0, 0, 0, []), (140, .iconst 2, 1, 0, 0, 2, []), (141, .iload_n 3, 1, 3, 0, 0, []), (142, .invokevirtual 147, 3, 168, 2, 0, [0, 16]), (145, .iload 4, 2, 4, 0, 0, []), (147, .ireturn, 1, 0, 0, 0, [])]
def zK_X6_tierNamed : List zEnt := [(0, .iconst 0, 1, 0, 0, 0, []), (1, .istore_n 3, 1, 3, 0, 0, []), (2, .iload_n 3, 1, 3, 0, 0, []), (3, .aload_n 1, 1, 1, 0, 0, []), (4, .iconst 0, 1, 0, 0, 0, []), (5, .iaload, 1, 0, 0, 0, []), (6, .if_icmp .ge 22, 3, 28, 0, 0, []), (9, .aload_n 1, 1, 1, 0, 0, []), (10, .iload_n 3, 1, 3, 0, 0, []), (11, .iconst 3, 1, 0, 0, 3, []), (12, .invokestatic 51, 3, 139, 2, 0, [1]), (15, .iaload, 1, 0, 0, 0, []), (16, .iload_n 2, 1, 2, 0, 0, []), (17, .if_icmp .ne 5, 3, 22, 0, 0, []), (20, .iload_n 3, 1, 3, 0, 0, []), (21, .ireturn, 1, 0, 0, 0, []), (22, .iinc 3 1, 3, 3, 0, 1, []), (25, .goto (-23), 3, 2, 0, 0, []), (28, .iconst (-1), 1, 0, 0, -1, []), (29, .ireturn, 1, 0, 0, 0, [])]
def zK_X6_known : List zEnt := [(0, .aload_n 0, 1, 0, 0, 0, []), (1, .bipush 6, 2, 0, 0, 6, []), (3, .iconst 1, 1, 0, 0, 1, []), (4, .invokevirtual 160, 3, 172, 2, 0, [1, 16]), (7, .istore_n 1, 1, 1, 0, 0, []), (8, .aload_n 0, 1, 0, 0, 0, []), (9, .getfield 116, 3, 6, 14, 0, []), (12, .ifCond .ne 15, 3, 27, 0, 0, []), (15, .aload_n 0, 1, 0, 0, 0, []), (16, .aload_n 0, 1, 0, 0, 0, []), (17, .getfield 17, 3, 6, 2, 0, []), (20, .iload_n 1, 1, 1, 0, 0, []), (21, .invokevirtual 164, 3, 175, 2, 0, [1, 16]), (24, .goto 4, 3, 28, 0, 0, []), (27, .iconst 0, 1, 0, 0, 0, []), (28, .istore_n 2, 1, 2, 0, 0, []), (29, .iload_n 2, 1, 2, 0, 0, []), (30, .iconst (-1), 1, 0, 0, -1, []), (31, .if_icmp .ne 12, 3, 43, 0, 0, []), (34, .aload_n 0, 1, 0, 0, 0, []), (35, .iconst 5, 1, 0, 0, 5, []), (36, .aload_n 0, 1, 0, 0, 0, []), (37, .getfield 144, 3, 6, 13, 0, []), (40, .invokevirtual 147, 3, 168, 2, 0, [0, 16]), (43, .aload_n 0, 1, 0, 0, 0, []), (44, .getfield 116, 3, 6, 14, 0, []), (47, .ifCond .ne 7, 3, 54, 0, 0, []), (50, .iload_n 2, 1, 2, 0, 0, []), (51, .goto 4, 3, 55, 0, 0, []), (54, .iconst 0, 1, 0, 0, 0, []), (55, .ireturn, 1, 0, 0, 0, [])]
def zK_X6_tierTold : List zEnt := [(0, .aload_n 0, 1, 0, 0, 0, []), (1, .invokevirtual 63, 3, 138, 0, 0, [1, 16]), (4, .bipush 6, 2, 0, 0, 6, []), (6, .if_icmp .ne 9, 3, 15, 0, 0, []), (9, .aload_n 0, 1, 0, 0, 0, []), (10, .iconst 3, 1, 0, 0, 3, []), (11, .iload_n 1, 1, 1, 0, 0, []), (12, .invokevirtual 147, 3, 168, 2, 0, [0, 16]), (15, .aload_n 0, 1, 0, 0, 0, []), (16, .getfield 116, 3, 6, 14, 0, []), (19, .ifCond .le 4, 3, 23, 0, 0, []), (22, .return_, 1, 0, 0, 0, []), (23, .aload_n 0, 1, 0, 0, 0, []), (24, .bipush 6, 2, 0, 0, 6, []), (26, .iconst 1, 1, 0, 0, 1, []), (27, .invokevirtual 160, 3, 172, 2, 0, [1, 16]), (30, .istore_n 2, 1, 2, 0, 0, []), (31, .aload_n 0, 1, 0, 0, 0, []), (32, .getfield 116, 3, 6, 14, 0, []), (35, .ifCond .ne 25, 3, 60, 0, 0, []), (38, .aload_n 0, 1, 0, 0, 0, []), (39, .aload_n 0, 1, 0, 0, 0, []), (40, .getfield 17, 3, 6, 2, 0, []), (43, .iload_n 2, 1, 2, 0, 0, []), (44, .invokevirtual 164, 3, 175, 2, 0, [1, 16]), (47, .iconst (-1), 1, 0, 0, -1, []), (48, .if_icmp .eq 12, 3, 60, 0, 0, []), (51, .aload_n 0, 1, 0, 0, 0, []), (52, .iconst 4, 1, 0, 0, 4, []), (53, .aload_n 0, 1, 0, 0, 0, []), (54, .getfield 144, 3, 6, 13, 0, []), (57, .invokevirtual 147, 3, 168, 2, 0, [0, 16]), (60, .aload_n 0, 1, 0, 0, 0, []), (61, .getfield 116, 3, 6, 14, 0, []), (64, .ifCond .le 4, 3, 68, 0, 0, []), (67, .return_, 1, 0, 0, 0, []), (68, .aload_n 0, 1, 0, 0, 0, []), (69, .ldc 168, 2, 1, 1, 0, []), (71, .invokevirtual 170, 3, 171, 1, 0, [1, 16]), (74, .ifCond .eq 7, 3, 81, 0, 0, []), (77, .iconst 0, 1, 0, 0, 0, []), (78, .goto 43, 3, 121, 0, 0, []), (81, .aload_n 0, 1, 0, 0, 0, []), (82, .ldc 174, 2, 1, 2, 0, []), (84, .invokevirtual 170, 3, 171, 1, 0, [1, 16]), (87, .ifCond .eq 7, 3, 94, 0, 0, []), (90, .iconst 1, 1, 0, 0, 1, []), (91, .goto 30, 3, 121, 0, 0, []), (94, .aload_n 0, 1, 0, 0, 0, []), (95, .ldc 176, 2, 1, 3, 0, []), (97, .invokevirtual 170, 3, 171, 1, 0, [1, 16]), (100, .ifCond .eq 7, 3, 107, 0, 0, []), (103, .iconst 2, 1, 0, 0, 2, []), (104, .goto 17, 3, 121, 0, 0, []), (107, .aload_n 0, 1, 0, 0, 0, []), (108, .ldc 178, 2, 1, 4, 0, []), (110, .invokevirtual 170, 3, 171, 1, 0, [1, 16]), (113, .ifCond .eq 7, 3, 120, 0, 0, []), (116, .iconst 3, 1, 0, 0, 3, []), (117, .goto 4, 3, 121, 0, 0, []), (120, .iconst (-1), 1, 0, 0, -1, []), (121, .istore_n 3, 1, 3, 0, 0, []), (122, .iload_n 3, 1, 3, 0, 0, []), (123, .iconst (-1), 1, 0, 0, -1, []), (124, .if_icmp .ne 12, 3, 136, 0, 0, []), (127, .aload_n 0, 1, 0, 0, 0, []), (128, .iconst 1, 1, 0, 0, 1, []), (129, .aload_n 0, 1, 0, 0, 0, []), (130, .getfield 122, 3, 6, 12, 0, []), (133, .invokevirtual 147, 3, 168, 2, 0, [0, 16]), (136, .iconst (-1), 1, 0, 0, -1, []), (137, .istore 4, 2, 4, 0, 0, []), (139, .aload_n 0, 1, 0, 0, 0, []), (140, .getfield 116, 3, 6, 14, 0, []), (143, .ifCond .ne 57, 3, 200, 0, 0, []), (146, .iload_n 3, 1, 3, 0, 0, []), (147, .iconst 1, 1, 0, 0, 1, []), (148, .if_icmp .eq 20, 3, 168, 0, 0, []), (151, .iload_n 3, 1, 3, 0, 0, []), (152, .iconst 2, 1, 0, 0, 2, []), (153, .if_icmp .eq 15, 3, 168, 0, 0, []), (156, .iload_n 3, 1, 3, 0, 0, []), (157, .iconst 3, 1, 0, 0, 3, []), (158, .if_icmp .ne 42, 3, 200, 0, 0, []), (161, .aload_n 0, 1, 0, 0, 0, []), (162, .invokevirtual 180, 3, 173, 0, 0, [1, 16]), (165, .ifCond .eq 35, 3, 200, 0, 0, []), (168, .aload_n 0, 1, 0, 0, 0, []), (169, .invokevirtual 184, 3, 176, 0, 0, [1, 16]), (172, .istore 4, 2, 4, 0, 0, []), (174, .aload_n 0, 1, 0, 0, 0, []), (175, .getfield 116, 3, 6, 14, 0, []), (178, .ifCond .ne 22, 3, 200, 0, 0, []), (181, .aload_n 0, 1, 0, 0, 0, []), (182, .iload 4, 2, 4, 0, 0, []), (184, .invokevirtual 79, 3, 140, 1, 0, [1, 16]), (187, .iconst 3, 1, 0, 0, 3, []), (188, .if_icmp .ne 12, 3, 200, 0, 0, []), (191, .aload_n 0, 1, 0, 0, 0, []), (192, .iconst 5, 1, 0, 0, 5, []), (193, .aload_n 0, 1, 0, 0, 0, []), (194, .getfield 144, 3, 6, 13, 0, []), (197, .invokevirtual 147, 3, 168, 2, 0, [0, 16]), (200, .aload_n 0, 1, 0, 0, 0, []), (201, .getfield 116, 3, 6, 14, 0, []), (204, .ifCond .le 4, 3, 208, 0, 0, []), (207, .return_, 1, 0, 0, 0, []), (208, .aload_n 0, 1, 0, 0, 0, []), (209, .invokevirtual 63, 3, 138, 0, 0, [1, 16]), (212, .istore 5, 2, 5, 0, 0, []), (214, .aload_n 0, 1, 0, 0, 0, []), (215, .getfield 17, 3, 6, 2, 0, []), (218, .iload 5, 2, 5, 0, 0, []), (220, .iconst 0, 1, 0, 0, 0, []), (221, .invokestatic 51, 3, 139, 2, 0, [1]), (224, .iload_n 3, 1, 3, 0, 0, []), (225, .iastore, 1, 0, 0, 0, []), (226, .aload_n 0, 1, 0, 0, 0, []), (227, .getfield 17, 3, 6, 2, 0, []), (230, .iload 5, 2, 5, 0, 0, []), (232, .iconst 1, 1, 0, 0, 1, []), (233, .invokestatic 51, 3, 139, 2, 0, [1]), (236, .iload 4, 2, 4, 0, 0, []), (238, .iastore, 1, 0, 0, 0, []), (239, .aload_n 0, 1, 0, 0, 0, []), (240, .getfield 17, 3, 6, 2, 0, []), (243, .iload 5, 2, 5, 0, 0, []), (245, .iconst 2, 1, 0, 0, 2, []), (246, .invokestatic 51, 3, 139, 2, 0, [1]), (249, .iconst 0, 1, 0, 0, 0, []), (250, .iastore, 1, 0, 0, 0, []), (251, .aload_n 0, 1, 0, 0, 0, []), (252, .getfield 17, 3, 6, 2, 0, []), (255, .iload 5, 2, 5, 0, 0, []), (257, .iconst 3, 1, 0, 0, 3, []), (258, .invokestatic 51, 3, 139, 2, 0, [1]), (261, .iload_n 2, 1, 2, 0, 0, []), (262, .iastore, 1, 0, 0, 0, []), (263, .aload_n 0, 1, 0, 0, 0, []), (264, .getfield 17, 3, 6, 2, 0, []), (267, .iconst 0, 1, 0, 0, 0, []), (268, .dup2, 1, 0, 0, 0, []), (269, .iaload, 1, 0, 0, 0, []), (270, .iconst 1, 1, 0, 0, 1, []), (271, .iadd, 1, 0, 0, 0, []), (272, .iastore, 1, 0, 0, 0, []), (273, .iconst 0, 1, 0, 0, 0, []), (274, .istore 6, 2, 6, 0, 0, []), (276, .iload_n 3, 1, 3, 0, 0, []), (277, .iconst 1, 1, 0, 0, 1, []), (278, .if_icmp .ne 44, 3, 322, 0, 0, []), (281, .iload 6, 2, 6, 0, 0, []), (283, .aload_n 0, 1, 0, 0, 0, []), (284, .iload 4, 2, 4, 0, 0, []), (286, .invokevirtual 70, 3, 142, 1, 0, [1, 16]), (289, .if_icmp .ge 33, 3, 322, 0, 0, []), (292, .aload_n 0, 1, 0, 0, 0, []), (293, .iload 5, 2, 5, 0, 0, []), (295, .aload_n 0, 1, 0, 0, 0, []), (296, .iload 4, 2, 4, 0, 0, []), (298, .iload 6, 2, 6, 0, 0, []), (300, .invokevirtual 73, 3, 144, 2, 0, [1, 16]), (303, .aload_n 0, 1, 0, 0, 0, []), (304, .iload 4, 2, 4, 0, 0, []), (306, .iload 6, 2, 6, 0, 0, []), (308, .invokevirtual 76, 3, 145, 2, 0, [1, 16]), (311, .iconst 0, 1, 0, 0, 0, []), (312, .invokevirtual 93, 3, 153, 4, 0, [1, 16]), (315, .pop, 1, 0, 0, 0, []), (316, .iinc 6 1, 3, 6, 0, 1, []), (319, .goto (-43), 3, 276, 0, 0, []), (322, .return_, 1, 0, 0, 0, [])]
def zK_X6_labelHere : List zEnt := [(0, .aload_n 0, 1, 0, 0, 0, []), (1, .invokevirtual 180, 3, 173, 0, 0, [1, 16]), (4, .ifCond .eq 12, 3, 16, 0, 0, []), (7, .aload_n 0, 1, 0, 0, 0, []), (8, .iconst 4, 1, 0, 0, 4, []), (9, .iconst 0, 1, 0, 0, 0, []), (10, .invokevirtual 160, 3, 172, 2, 0, [1, 16]), (13, .goto 4, 3, 17, 0, 0, []), (16, .iconst 0, 1, 0, 0, 0, []), (17, .ireturn, 1, 0, 0, 0, [])]
def zK_X6_markTold : List zEnt := [(0, .aload_n 0, 1, 0, 0, 0, []), (1, .invokevirtual 184, 3, 176, 0, 0, [1, 16]), (4, .istore_n 1, 1, 1, 0, 0, []), (5, .aload_n 0, 1, 0, 0, 0, []), (6, .getfield 144, 3, 6, 13, 0, []), (9, .istore_n 2, 1, 2, 0, 0, []), (10, .aload_n 0, 1, 0, 0, 0, []), (11, .iconst 0, 1, 0, 0, 0, []), (12, .invokevirtual 187, 3, 174, 1, 0, [1, 16]), (15, .istore_n 3, 1, 3, 0, 0, []), (16, .aload_n 0, 1, 0, 0, 0, []), (17, .aload_n 0, 1, 0, 0, 0, []), (18, .getfield 116, 3, 6, 14, 0, []), (21, .ifCond .ne 9, 3, 30, 0, 0, []), (24, .iload_n 3, 1, 3, 0, 0, []), (25, .iconst 1, 1, 0, 0, 1, []), (26, .iadd, 1, 0, 0, 0, []), (27, .goto 4, 3, 31, 0, 0, []), (30, .iconst 0, 1, 0, 0, 0, []), (31, .invokevirtual 187, 3, 174, 1, 0, [1, 16]), (34, .istore 4, 2, 4, 0, 0, []), (36, .aload_n 0, 1, 0, 0, 0, []), (37, .getfield 116, 3, 6, 14, 0, []), (40, .ifCond .ne 21, 3, 61, 0, 0, []), (43, .aload_n 0, 1, 0, 0, 0, []), (44, .iload_n 1, 1, 1, 0, 0, []), (45, .iload_n 3, 1, 3, 0, 0, []), (46, .iload 4, 2, 4, 0, 0, []), (48, .invokevirtual 190, 3, 156, 3, 0, [1, 16]), (51, .ifCond .ne 10, 3, 61, 0, 0, []), (54, .aload_n 0, 1, 0, 0, 0, []), (55, .bipush 6, 2, 0, 0, 6, []), (57, .iload_n 2, 1, 2, 0, 0, []), (58, .invokevirtual 147, 3, 168, 2, 0, [0, 16]), (61, .aload_n 0, 1, 0, 0, 0, []), (62, .getfield 116, 3, 6, 14, 0, []), (65, .ifCond .ne 17, 3, 82, 0, 0, []), (68, .aload_n 0, 1, 0, 0, 0, []), (69, .iload_n 1, 1, 1, 0, 0, []), (70, .invokevirtual 193, 3, 158, 1, 0, [1, 16]), (73, .ifCond .ne 9, 3, 82, 0, 0, []), (76, .aload_n 0, 1, 0, 0, 0, []), (77, .iconst 3, 1, 0, 0, 3, []), (78, .iload_n 2, 1, 2, 0, 0, []), (79, .invokevirtual 147, 3, 168, 2, 0, [0, 16]), (82, .aload_n 0, 1, 0, 0, 0, []), (83, .invokevirtual 196, 3, 178, 0, 0, [1, 16]), (86, .istore 5, 2, 5, 0, 0, []), (88, .aload_n 0, 1, 0, 0, 0, []), (89, .getfield 116, 3, 6, 14, 0, []), (92, .ifCond .ne 14, 3, 106, 0, 0, []), (95, .aload_n 0, 1, 0, 0, 0, []), (96, .iload_n 1, 1, 1, 0, 0, []), (97, .iload_n 3, 1, 3, 0, 0, []), (98, .iload 4, 2, 4, 0, 0, []), (100, .iload 5, 2, 5, 0, 0, []), (102, .invokevirtual 199, 3, 159, 4, 0, [1, 16]), (105, .pop, 1, 0, 0, 0, []), (106, .return_, 1, 0, 0, 0, [])]
def zK_X6_pointTold : List zEnt := [(0, .aload_n 0, 1, 0, 0, 0, []), (1, .invokevirtual 184, 3, 176, 0, 0, [1, 16]), (4, .istore_n 1, 1, 1, 0, 0, []), (5, .aload_n 0, 1, 0, 0, 0, []), (6, .getfield 144, 3, 6, 13, 0, []), (9, .istore_n 2, 1, 2, 0, 0, []), (10, .aload_n 0, 1, 0, 0, 0, []), (11, .iconst 0, 1, 0, 0, 0, []), (12, .invokevirtual 187, 3, 174, 1, 0, [1, 16]), (15, .istore_n 3, 1, 3, 0, 0, []), (16, .aload_n 0, 1, 0, 0, 0, []), (17, .getfield 116, 3, 6, 14, 0, []), (20, .ifCond .ne 19, 3, 39, 0, 0, []), (23, .aload_n 0, 1, 0, 0, 0, []), (24, .iload_n 1, 1, 1, 0, 0, []), (25, .iload_n 3, 1, 3, 0, 0, []), (26, .invokevirtual 201, 3, 160, 2, 0, [1, 16]), (29, .ifCond .ne 10, 3, 39, 0, 0, []), (32, .aload_n 0, 1, 0, 0, 0, []), (33, .bipush 6, 2, 0, 0, 6, []), (35, .iload_n 2, 1, 2, 0, 0, []), (36, .invokevirtual 147, 3, 168, 2, 0, [0, 16]), (39, .aload_n 0, 1, 0, 0, 0, []), (40, .getfield 116, 3, 6, 14, 0, []), (43, .ifCond .ne 19, 3, 62, 0, 0, []), (46, .aload_n 0, 1, 0, 0, 0, []), (47, .iload_n 1, 1, 1, 0, 0, []), (48, .invokevirtual 70, 3, 142, 1, 0, [1, 16]), (51, .bipush 40, 2, 0, 0, 40, []), (53, .if_icmp .ne 9, 3, 62, 0, 0, []), (56, .aload_n 0, 1, 0, 0, 0, []), (57, .iconst 3, 1, 0, 0, 3, []), (58, .iload_n 2, 1, 2, 0, 0, []), (59, .invokevirtual 147, 3, 168, 2, 0, [0, 16]), (62, .aload_n 0, 1, 0, 0, 0, []), (63, .invokevirtual 196, 3, 178, 0, 0, [1, 16]), (66, .istore 4, 2, 4, 0, 0, []), (68, .aload_n 0, 1, 0, 0, 0, []), (69, .getfield 116, 3, 6, 14, 0, []), (72, .ifCond .ne 13, 3, 85, 0, 0, []), (75, .aload_n 0, 1, 0, 0, 0, []), (76, .iload_n 1, 1, 1, 0, 0, []), (77, .iload_n 3, 1, 3, 0, 0, []), (78, .iload_n 3, 1, 3, 0, 0, []), (79, .iload 4, 2, 4, 0, 0, []), (81, .invokevirtual 93, 3, 153, 4, 0, [1, 16]), (84, .pop, 1, 0, 0, 0, []), (85, .return_, 1, 0, 0, 0, [])]
def zK_X6_splitTold : List zEnt := [(0, .aload_n 0, 1, 0, 0, 0, []), (1, .invokevirtual 184, 3, 176, 0, 0, [1, 16]), (4, .istore_n 1, 1, 1, 0, 0, []), (5, .aload_n 0, 1, 0, 0, 0, []), (6, .getfield 144, 3, 6, 13, 0, []), (9, .istore_n 2, 1, 2, 0, 0, []), (10, .aload_n 0, 1, 0, 0, 0, []), (11, .iconst 0, 1, 0, 0, 0, []), (12, .invokevirtual 187, 3, 174, 1, 0, [1, 16]), (15, .istore_n 3, 1, 3, 0, 0, []), (16, .aload_n 0, 1, 0, 0, 0, []), (17, .getfield 116, 3, 6, 14, 0, []), (20, .ifCond .ne 38, 3, 58, 0, 0, []), (23, .aload_n 0, 1, 0, 0, 0, []), (24, .iload_n 1, 1, 1, 0, 0, []), (25, .invokevirtual 79, 3, 140, 1, 0, [1, 16]), (28, .iconst 3, 1, 0, 0, 3, []), (29, .if_icmp .eq 22, 3, 51, 0, 0, []), (32, .aload_n 0, 1, 0, 0, 0, []), (33, .iload_n 1, 1, 1, 0, 0, []), (34, .iload_n 3, 1, 3, 0, 0, []), (35, .invokevirtual 100, 3, 162, 2, 0, [1, 16]), (38, .iconst (-1), 1, 0, 0, -1, []), (39, .if_icmp .eq 12, 3, 51, 0, 0, []), (42, .aload_n 0, 1, 0, 0, 0, []), (43, .iload_n 1, 1, 1, 0, 0, []), (44, .iload_n 3, 1, 3, 0, 0, []), (45, .invokevirtual 204, 3, 161, 2, 0, [1, 16]), (48, .ifCond .ne 10, 3, 58, 0, 0, []), (51, .aload_n 0, 1, 0, 0, 0, []), (52, .bipush 6, 2, 0, 0, 6, []), (54, .iload_n 2, 1, 2, 0, 0, []), (55, .invokevirtual 147, 3, 168, 2, 0, [0, 16]), (58, .aload_n 0, 1, 0, 0, 0, []), (59, .getfield 116, 3, 6, 14, 0, []), (62, .ifCond .ne 18, 3, 80, 0, 0, []), (65, .aload_n 0, 1, 0, 0, 0, []), (66, .iload_n 1, 1, 1, 0, 0, []), (67, .iload_n 3, 1, 3, 0, 0, []), (68, .invokevirtual 207, 3, 163, 2, 0, [1, 16]), (71, .ifCond .ne 9, 3, 80, 0, 0, []), (74, .aload_n 0, 1, 0, 0, 0, []), (75, .iconst 3, 1, 0, 0, 3, []), (76, .iload_n 2, 1, 2, 0, 0, []), (77, .invokevirtual 147, 3, 168, 2, 0, [0, 16]), (80, .aload_n 0, 1, 0, 0, 0, []), (81, .invokevirtual 180, 3, 173, 0, 0, [1, 16]), (84, .istore 4, 2, 4, 0, 0, []), (86, .aload_n 0, 1, 0, 0, 0, []), (87, .invokevirtual 196, 3, 178, 0, 0, [1, 16]), (90, .istore 5, 2, 5, 0, 0, []), (92, .aload_n 0, 1, 0, 0, 0, []), (93, .getfield 116, 3, 6, 14, 0, []), (96, .ifCond .le 4, 3, 100, 0, 0, []), (99, .return_, 1, 0, 0, 0, []), (100, .aload_n 0, 1, 0, 0, 0, []), (101, .iload_n 1, 1, 1, 0, 0, []), (102, .iload_n 3, 1, 3, 0, 0, []), (103, .invokevirtual 100, 3, 162, 2, 0, [1, 16]), (106, .istore 6, 2, 6, 0, 0, []), (108, .aload_n 0, 1, 0, 0, 0, []), (109, .iload_n 1, 1, 1, 0, 0, []), (110, .iload_n 3, 1, 3, 0, 0, []), (111, .invokevirtual 210, 3, 165, 2, 0, [1, 16]), (114, .pop, 1, 0, 0, 0, []), (115, .iload 4, 2, 4, 0, 0, []), (117, .ifCond .eq 19, 3, 136, 0, 0, []), (120, .aload_n 0, 1, 0, 0, 0, []), (121, .getfield 17, 3, 6, 2, 0, []), (124, .iload_n 1, 1, 1, 0, 0, []), (125, .iload 6, 2, 6, 0, 0, []), (127, .iconst 1, 1, 0, 0, 1, []), (128, .iadd, 1, 0, 0, 0, []), (129, .iconst 2, 1, 0, 0, 2, []), (130, .invokestatic 55, 3, 143, 3, 0, [1]), (133, .iload 5, 2, 5, 0, 0, []), (135, .iastore, 1, 0, 0, 0, []), (136, .return_, 1, 0, 0, 0, [])]
def zK_X6_markAt : List zEnt := [(0, .iconst 0, 1, 0, 0, 0, []), (1, .istore_n 3, 1, 3, 0, 0, []), (2, .iload_n 3, 1, 3, 0, 0, []), (3, .aload_n 0, 1, 0, 0, 0, []), (4, .iload_n 1, 1, 1, 0, 0, []), (5, .invokevirtual 70, 3, 142, 1, 0, [1, 16]), (8, .if_icmp .ge 41, 3, 49, 0, 0, []), (11, .aload_n 0, 1, 0, 0, 0, []), (12, .iload_n 1, 1, 1, 0, 0, []), (13, .iload_n 3, 1, 3, 0, 0, []), (14, .invokevirtual 73, 3, 144, 2, 0, [1, 16]), (17, .iload_n 2, 1, 2, 0, 0, []), (18, .if_icmp .eq 23, 3, 41, 0, 0, []), (21, .aload_n 0, 1, 0, 0, 0, []), (22, .iload_n 1, 1, 1, 0, 0, []), (23, .iload_n 3, 1, 3, 0, 0, []), (24, .invokevirtual 73, 3, 144, 2, 0, [1, 16]), (27, .iload_n 2, 1, 2, 0, 0, []), (28, .if_icmp .ge 15, 3, 43, 0, 0, []), (31, .aload_n 0, 1, 0, 0, 0, []), (32, .iload_n 1, 1, 1, 0, 0, []), (33, .iload_n 3, 1, 3, 0, 0, []), (34, .invokevirtual 76, 3, 145, 2, 0, [1, 16]), (37, .iload_n 2, 1, 2, 0, 0, []), (38, .if_icmp .le 5, 3, 43, 0, 0, []), (41, .iload_n 3, 1, 3, 0, 0, []), (42, .ireturn, 1, 0, 0, 0, []), (43, .iinc 3 1, 3, 3, 0, 1, []), (46, .goto (-44), 3, 2, 0, 0, []), (49, .iconst (-1), 1, 0, 0, -1, []), (50, .ireturn, 1, 0, 0, 0, [])]
def zK_X6_labelTold : List zEnt := [(0, .aload_n 0, 1, 0, 0, 0, []), (1, .invokevirtual 184, 3, 176, 0, 0, [1, 16]), (4, .istore_n 1, 1, 1, 0, 0, []), (5, .aload_n 0, 1, 0, 0, 0, []), (6, .getfield 144, 3, 6, 13, 0, []), (9, .istore_n 2, 1, 2, 0, 0, []), (10, .aload_n 0, 1, 0, 0, 0, []), (11, .iconst 0, 1, 0, 0, 0, []), (12, .invokevirtual 187, 3, 174, 1, 0, [1, 16]), (15, .istore_n 3, 1, 3, 0, 0, []), (16, .aload_n 0, 1, 0, 0, 0, []), (17, .getfield 116, 3, 6, 14, 0, []), (20, .ifCond .ne 20, 3, 40, 0, 0, []), (23, .aload_n 0, 1, 0, 0, 0, []), (24, .iload_n 1, 1, 1, 0, 0, []), (25, .iload_n 3, 1, 3, 0, 0, []), (26, .invokevirtual 213, 3, 182, 2, 0, [1, 16]), (29, .iconst (-1), 1, 0, 0, -1, []), (30, .if_icmp .ne 10, 3, 40, 0, 0, []), (33, .aload_n 0, 1, 0, 0, 0, []), (34, .bipush 6, 2, 0, 0, 6, []), (36, .iload_n 2, 1, 2, 0, 0, []), (37, .invokevirtual 147, 3, 168, 2, 0, [0, 16]), (40, .aload_n 0, 1, 0, 0, 0, []), (41, .getfield 116, 3, 6, 14, 0, []), (44, .ifCond .ne 12, 3, 56, 0, 0, []), (47, .aload_n 0, 1, 0, 0, 0, []), (48, .iconst 4, 1, 0, 0, 4, []), (49, .iconst 0, 1, 0, 0, 0, []), (50, .invokevirtual 160, 3, 172, 2, 0, [1, 16]), (53, .goto 4, 3, 57, 0, 0, []), (56, .iconst 0, 1, 0, 0, 0, []), (57, .istore 4, 2, 4, 0, 0, []), (59, .aload_n 0, 1, 0, 0, 0, []), (60, .getfield 116, 3, 6, 14, 0, []), (63, .ifCond .ne 21, 3, 84, 0, 0, []), (66, .aload_n 0, 1, 0, 0, 0, []), (67, .getfield 17, 3, 6, 2, 0, []), (70, .iload_n 1, 1, 1, 0, 0, []), (71, .aload_n 0, 1, 0, 0, 0, []), (72, .iload_n 1, 1, 1, 0, 0, []), (73, .iload_n 3, 1, 3, 0, 0, []), (74, .invokevirtual 213, 3, 182, 2, 0, [1, 16]), (77, .iconst 2, 1, 0, 0, 2, []), (78, .invokestatic 55, 3, 143, 3, 0, [1]), (81, .iload 4, 2, 4, 0, 0, []), (83, .iastore, 1, 0, 0, 0, []), (84, .return_, 1, 0, 0, 0, [])]
def zK_X6_oneLine : List zEnt := [(0, .aload_n 0, 1, 0, 0, 0, []), (1, .ldc 216, 2, 1, 0, 0, []), (3, .invokevirtual 170, 3, 171, 1, 0, [1, 16]), (6, .ifCond .eq 14, 3, 20, 0, 0, []), (9, .aload_n 0, 1, 0, 0, 0, []), (10, .aload_n 0, 1, 0, 0, 0, []), (11, .getfield 144, 3, 6, 13, 0, []), (14, .invokevirtual 218, 3, 177, 1, 0, [0, 16]), (17, .goto 76, 3, 93, 0, 0, []), (20, .aload_n 0, 1, 0, 0, 0, []), (21, .ldc 221, 2, 1, 5, 0, []), (23, .invokevirtual 170, 3, 171, 1, 0, [1, 16]), (26, .ifCond .eq 10, 3, 36, 0, 0, []), (29, .aload_n 0, 1, 0, 0, 0, []), (30, .invokevirtual 223, 3, 179, 0, 0, [0, 16]), (33, .goto 60, 3, 93, 0, 0, []), (36, .aload_n 0, 1, 0, 0, 0, []), (37, .ldc 226, 2, 1, 6, 0, []), (39, .invokevirtual 170, 3, 171, 1, 0, [1, 16]), (42, .ifCond .eq 10, 3, 52, 0, 0, []), (45, .aload_n 0, 1, 0, 0, 0, []), (46, .invokevirtual 228, 3, 180, 0, 0, [0, 16]), (49, .goto 44, 3, 93, 0, 0, []), (52, .aload_n 0, 1, 0, 0, 0, []), (53, .ldc 231, 2, 1, 7, 0, []), (55, .invokevirtual 170, 3, 171, 1, 0, [1, 16]), (58, .ifCond .eq 10, 3, 68, 0, 0, []), (61, .aload_n 0, 1, 0, 0, 0, []), (62, .invokevirtual 233, 3, 181, 0, 0, [0, 16]), (65, .goto 28, 3, 93, 0, 0, []), (68, .aload_n 0, 1, 0, 0, 0, []), (69, .ldc 236, 2, 1, 8, 0, []), (71, .invokevirtual 170, 3, 171, 1, 0, [1, 16]), (74, .ifCond .eq 10, 3, 84, 0, 0, []), (77, .aload_n 0, 1, 0, 0, 0, []), (78, .invokevirtual 238, 3, 183, 0, 0, [0, 16]), (81, .goto 12, 3, 93, 0, 0, []), (84, .aload_n 0, 1, 0, 0, 0, []), (85, .iconst 1, 1, 0, 0, 1, []), (86, .aload_n 0, 1, 0, 0, 0, []), (87, .getfield 122, 3, 6, 12, 0, []), (90, .invokevirtual 147, 3, 168, 2, 0, [0, 16]), (93, .aload_n 0, 1, 0, 0, 0, []), (94, .getfield 116, 3, 6, 14, 0, []), (97, .ifCond .ne 32, 3, 129, 0, 0, []), (100, .aload_n 0, 1, 0, 0, 0, []), (101, .invokevirtual 128, 3, 169, 0, 0, [1, 16]), (104, .bipush 59, 2, 0, 0, 59, []), (106, .if_icmp .ne 14, 3, 120, 0, 0, []), (109, .aload_n 0, 1, 0, 0, 0, []), (110, .getfield 122, 3, 6, 12, 0, []), (113, .aload_n 0, 1, 0, 0, 0, []), (114, .getfield 125, 3, 6, 11, 0, []), (117, .if_icmp .ne 12, 3, 129, 0, 0, []), (120, .aload_n 0, 1, 0, 0, 0, []), (121, .iconst 1, 1, 0, 0, 1, []), (122, .aload_n 0, 1, 0, 0, 0, []), (123, .getfield 122, 3, 6, 12, 0, []), (126, .invokevirtual 147, 3, 168, 2, 0, [0, 16]), (129, .aload_n 0, 1, 0, 0, 0, []), (130, .dup, 1, 0, 0, 0, []), (131, .getfield 122, 3, 6, 12, 0, []), (134, .iconst 1, 1, 0, 0, 1, []), (135, .iadd, 1, 0, 0, 0, []), (136, .putfield 122, 3, 6, 12, 0, []), (139, .return_, 1, 0, 0, 0, [])]
def zK_X6_allMarks : List zEnt := [(0, .iconst 0, 1, 0, 0, 0, []), (1, .istore_n 2, 1, 2, 0, 0, []), (2, .iconst 0, 1, 0, 0, 0, []), (3, .istore_n 3, 1, 3, 0, 0, []), (4, .iload_n 3, 1, 3, 0, 0, []), (5, .aload_n 1, 1, 1, 0, 0, []), (6, .iconst 0, 1, 0, 0, 0, []), (7, .iaload, 1, 0, 0, 0, []), (8, .if_icmp .ge 19, 3, 27, 0, 0, []), (11, .iload_n 2, 1, 2, 0, 0, []), (12, .aload_n 1, 1, 1, 0, 0, []), (13, .iload_n 3, 1, 3, 0, 0, []), (14, .iconst 2, 1, 0, 0, 2, []), (15, .invokestatic 51, 3, 139, 2, 0, [1]), (18, .iaload, 1, 0, 0, 0, []), (19, .iadd, 1, 0, 0, 0, []), (20, .istore_n 2, 1, 2, 0, 0, []), (21, .iinc 3 1, 3, 3, 0, 1, []), (24, .goto (-20), 3, 4, 0, 0, []), (27, .iload_n 2, 1, 2, 0, 0, []), (28, .ireturn, 1, 0, 0, 0, [])]
def zK_X6_text : List zEnt := [(0, .aload_n 0, 1, 0, 0, 0, []), (1, .iconst 0, 1, 0, 0, 0, []), (2, .putfield 1, 3, 6, 0, 0, []), (5, .aload_n 0, 1, 0, 0, 0, []), (6, .iload_n 1, 1, 1, 0, 0, []), (7, .iconst 0, 1, 0, 0, 0, []), (8, .aload_n 0, 1, 0, 0, 0, []), (9, .getfield 109, 3, 6, 10, 0, []), (12, .invokestatic 157, 3, 137, 3, 0, [1]), (15, .iconst 1, 1, 0, 0, 1, []), (16, .iconst 1, 1, 0, 0, 1, []), (17, .invokevirtual 241, 3, 136, 3, 0, [1, 16]), (20, .ifCond .ne 5, 3, 25, 0, 0, []), (23, .iconst 0, 1, 0, 0, 0, []), (24, .ireturn, 1, 0, 0, 0, []), (25, .iconst 0, 1, 0, 0, 0, []), (26, .istore_n 2, 1, 2, 0, 0, []), (27, .iload_n 2, 1, 2, 0, 0, []), (28, .iload_n 1, 1, 1, 0, 0, []), (29, .if_icmp .ge 21, 3, 50, 0, 0, []), (32, .aload_n 0, 1, 0, 0, 0, []), (33, .getfield 33, 3, 6, 9, 0, []), (36, .iload_n 2, 1, 2, 0, 0, []), (37, .aload_n 0, 1, 0, 0, 0, []), (38, .getfield 29, 3, 6, 8, 0, []), (41, .iload_n 2, 1, 2, 0, 0, []), (42, .baload, 1, 0, 0, 0, []), (43, .bastore, 1, 0, 0, 0, []), (44, .iinc 2 1, 3, 2, 0, 1, []), (47, .goto (-20), 3, 27, 0, 0, []), (50, .aload_n 0, 1, 0, 0, 0, []), (51, .iconst 0, 1, 0, 0, 0, []), (52, .putfield 109, 3, 6, 10, 0, []), (55, .aload_n 0, 1, 0, 0, 0, []), (56, .iload_n 1, 1, 1, 0, 0, []), (57, .putfield 125, 3, 6, 11, 0, []), (60, .aload_n 0, 1, 0, 0, 0, []), (61, .iconst 0, 1, 0, 0, 0, []), (62, .putfield 122, 3, 6, 12, 0, []), (65, .aload_n 0, 1, 0, 0, 0, []), (66, .iconst 0, 1, 0, 0, 0, []), (67, .putfield 116, 3, 6, 14, 0, []), (70, .aload_n 0, 1, 0, 0, 0, []), (71, .getfield 17, 3, 6, 2, 0, []), (74, .aload_n 0, 1, 0, 0, 0, []), (75, .getfield 23, 3, 6, 4, 0, []), (78, .invokestatic 245, 3, 147, 2, 0, [0]), (81, .iconst 0, 1, 0, 0, 0, []), (82, .istore_n 2, 1, 2, 0, 0, []), (83, .iload_n 2, 1, 2, 0, 0, []), (84, .sipush 745, 3, 0, 0, 745, []), (87, .if_icmp .ge 16, 3, 103, 0, 0, []), (90, .aload_n 0, 1, 0, 0, 0, []), (91, .getfield 17, 3, 6, 2, 0, []), (94, .iload_n 2, 1, 2, 0, 0, []), (95, .iconst 0, 1, 0, 0, 0, []), (96, .iastore, 1, 0, 0, 0, []), (97, .iinc 2 1, 3, 2, 0, 1, []), (100, .goto (-17), 3, 83, 0, 0, []), (103, .aload_n 0, 1, 0, 0, 0, []), (104, .getfield 116, 3, 6, 14, 0, []), (107, .ifCond .ne 28, 3, 135, 0, 0, []), (110, .aload_n 0, 1, 0, 0, 0, []), (111, .invokevirtual 128, 3, 169, 0, 0, [1, 16]), (114, .ifCond .ne 14, 3, 128, 0, 0, []), (117, .aload_n 0, 1, 0, 0, 0, []), (118, .getfield 122, 3, 6, 12, 0, []), (121, .aload_n 0, 1, 0, 0, 0, []), (122, .getfield 125, 3, 6, 11, 0, []), (125, .if_icmp .ge 10, 3, 135, 0, 0, []), (128, .aload_n 0, 1, 0, 0, 0, []), (129, .invokevirtual 249, 3, 184, 0, 0, [0, 16]), (132, .goto (-29), 3, 103, 0, 0, []), (135, .aload_n 0, 1, 0, 0, 0, []), (136, .aload_n 0, 1, 0, 0, 0, []), (137, .getfield 116, 3, 6, 14, 0, []), (140, .ifCond .le 10, 3, 150, 0, 0, []), (143, .aload_n 0, 1, 0, 0, 0, []), (144, .getfield 119, 3, 6, 15, 0, []), (147, .goto 4, 3, 151, 0, 0, []), (150, .iconst (-1), 1, 0, 0, -1, []), (151, .putfield 36, 3, 6, 16, 0, []), (154, .aload_n 0, 1, 0, 0, 0, []), (155, .getfield 116, 3, 6, 14, 0, []), (158, .ifCond .le 22, 3, 180, 0, 0, []), (161, .aload_n 0, 1, 0, 0, 0, []), (162, .getfield 23, 3, 6, 4, 0, []), (165, .aload_n 0, 1, 0, 0, 0, []), (166, .getfield 17, 3, 6, 2, 0, []), (169, .invokestatic 245, 3, 147, 2, 0, [0]), (172, .aload_n 0, 1, 0, 0, 0, []), (173, .getfield 116, 3, 6, 14, 0, []), (176, .bipush 10, 2, 0, 0, 10, []), (178, .isub, 1, 0, 0, 0, []), (179, .ireturn, 1, 0, 0, 0, []), (180, .aload_n 0, 1, 0, 0, 0, []), (181, .iconst 0, 1, 0, 0, 0, []), (182, .putfield 252, 3, 6, 6, 0, []), (185, .aload_n 0, 1, 0, 0, 0, []), (186, .aload_n 0, 1, 0, 0, 0, []), (187, .getfield 17, 3, 6, 2, 0, []), (190, .invokevirtual 255, 3, 185, 1, 0, [1, 16]), (193, .ireturn, 1, 0, 0, 0, [])]
def zK_X6_fault : List zEnt := [(0, .aload_n 0, 1, 0, 0, 0, []), (1, .iconst 0, 1, 0, 0, 0, []), (2, .putfield 1, 3, 6, 0, 0, []), (5, .aload_n 0, 1, 0, 0, 0, []), (6, .getfield 36, 3, 6, 16, 0, []), (9, .ireturn, 1, 0, 0, 0, [])]
def zK_X6_keeps : List zEnt := [(0, .aload_n 0, 1, 0, 0, 0, []), (1, .getfield 252, 3, 6, 6, 0, []), (4, .bipush 12, 2, 0, 0, 12, []), (6, .if_icmp .ne 44, 3, 50, 0, 0, []), (9, .iconst 0, 1, 0, 0, 0, []), (10, .istore_n 1, 1, 1, 0, 0, []), (11, .iload_n 1, 1, 1, 0, 0, []), (12, .sipush 8195, 3, 0, 0, 8195, []), (15, .if_icmp .ge 25, 3, 40, 0, 0, []), (18, .aload_n 0, 1, 0, 0, 0, []), (19, .getfield 26, 3, 6, 5, 0, []), (22, .iload_n 1, 1, 1, 0, 0, []), (23, .aload_n 0, 1, 0, 0, 0, []), (24, .getfield 26, 3, 6, 5, 0, []), (27, .iload_n 1, 1, 1, 0, 0, []), (28, .sipush 745, 3, 0, 0, 745, []), (31, .iadd, 1, 0, 0, 0, []), (32, .iaload, 1, 0, 0, 0, []), (33, .iastore, 1, 0, 0, 0, []), (34, .iinc 1 1, 3, 1, 0, 1, []), (37, .goto (-26), 3, 11, 0, 0, []), (40, .aload_n 0, 1, 0, 0, 0, []), (41, .dup, 1, 0, 0, 0, []), (42, .getfield 252, 3, 6, 6, 0, []), (45, .iconst 1, 1, 0, 0, 1, []), (46, .isub, 1, 0, 0, 0, []), (47, .putfield 252, 3, 6, 6, 0, []), (50, .iconst 0, 1, 0, 0, 0, []), (51, .istore_n 1, 1, 1, 0, 0, []), (52, .iload_n 1, 1, 1, 0, 0, []), (53, .sipush 745, 3, 0, 0, 745, []), (56, .if_icmp .ge 30, 3, 86, 0, 0, []), (59, .aload_n 0, 1, 0, 0, 0, []), (60, .getfield 26, 3, 6, 5, 0, []), (63, .sipush 745, 3, 0, 0, 745, []), (66, .aload_n 0, 1, 0, 0, 0, []), (67, .getfield 252, 3, 6, 6, 0, []), (70, .imul, 1, 0, 0, 0, []), (71, .iload_n 1, 1, 1, 0, 0, []), (72, .iadd, 1, 0, 0, 0, []), (73, .aload_n 0, 1, 0, 0, 0, []), (74, .getfield 17, 3, 6, 2, 0, []), (77, .iload_n 1, 1, 1, 0, 0, []), (78, .iaload, 1, 0, 0, 0, []), (79, .iastore, 1, 0, 0, 0, []), (80, .iinc 1 1, 3, 1, 0, 1, []), (83, .goto (-31), 3, 52, 0, 0, []), (86, .aload_n 0, 1, 0, 0, 0, []), (87, .dup, 1, 0, 0, 0, []), (88, .getfield 252, 3, 6, 6, 0, []), (91, .iconst 1, 1, 0, 0, 1, []), (92, .iadd, 1, 0, 0, 0, []), (93, .putfield 252, 3, 6, 6, 0, []), (96, .return_, 1, 0, 0, 0, [])]
def zK_X6_isTier : List zEnt := [(0, .aload_n 0, 1, 0, 0, 0, []), (1, .iload_n 1, 1, 1, 0, 0, []), (2, .iconst 0, 1, 0, 0, 0, []), (3, .aload_n 0, 1, 0, 0, 0, []), (4, .invokevirtual 63, 3, 138, 0, 0, [1, 16]), (7, .iconst 1, 1, 0, 0, 1, []), (8, .isub, 1, 0, 0, 0, []), (9, .invokestatic 157, 3, 137, 3, 0, [1]), (12, .iconst 1, 1, 0, 0, 1, []), (13, .iconst 0, 1, 0, 0, 0, []), (14, .invokevirtual 241, 3, 136, 3, 0, [1, 16]), (17, .ireturn, 1, 0, 0, 0, [])]
def zK_X6_isMark : List zEnt := [(0, .aload_n 0, 1, 0, 0, 0, []), (1, .iload_n 1, 1, 1, 0, 0, []), (2, .iconst 0, 1, 0, 0, 0, []), (3, .aload_n 0, 1, 0, 0, 0, []), (4, .invokevirtual 63, 3, 138, 0, 0, [1, 16]), (7, .iconst 1, 1, 0, 0, 1, []), (8, .isub, 1, 0, 0, 0, []), (9, .invokestatic 157, 3, 137, 3, 0, [1]), (12, .ifCond .eq 22, 3, 34, 0, 0, []), (15, .iload_n 2, 1, 2, 0, 0, []), (16, .iconst 0, 1, 0, 0, 0, []), (17, .aload_n 0, 1, 0, 0, 0, []), (18, .iload_n 1, 1, 1, 0, 0, []), (19, .invokevirtual 70, 3, 142, 1, 0, [1, 16]), (22, .iconst 1, 1, 0, 0, 1, []), (23, .isub, 1, 0, 0, 0, []), (24, .invokestatic 157, 3, 137, 3, 0, [1]), (27, .ifCond .eq 7, 3, 34, 0, 0, []), (30, .iconst 1, 1, 0, 0, 1, []), (31, .goto 4, 3, 35, 0, 0, []), (34, .iconst 0, 1, 0, 0, 0, []), (35, .iconst 1, 1, 0, 0, 1, []), (36, .iconst 0, 1, 0, 0, 0, []), (37, .invokevirtual 241, 3, 136, 3, 0, [1, 16]), (40, .ireturn, 1, 0, 0, 0, [])]
def zK_X6_put : List zEnt := [(0, .aload_n 0, 1, 0, 0, 0, []), (1, .iconst 0, 1, 0, 0, 0, []), (2, .putfield 1, 3, 6, 0, 0, []), (5, .aload_n 0, 1, 0, 0, 0, []), (6, .iload_n 1, 1, 1, 0, 0, []), (7, .invokevirtual 259, 3, 189, 1, 0, [1, 16]), (10, .ifCond .eq 73, 3, 83, 0, 0, []), (13, .aload_n 0, 1, 0, 0, 0, []), (14, .iload_n 2, 1, 2, 0, 0, []), (15, .iconst 0, 1, 0, 0, 0, []), (16, .sipush 999, 3, 0, 0, 999, []), (19, .invokestatic 157, 3, 137, 3, 0, [1]), (22, .ifCond .eq 20, 3, 42, 0, 0, []), (25, .iload_n 3, 1, 3, 0, 0, []), (26, .iload_n 2, 1, 2, 0, 0, []), (27, .iconst 1, 1, 0, 0, 1, []), (28, .iadd, 1, 0, 0, 0, []), (29, .sipush 999, 3, 0, 0, 999, []), (32, .invokestatic 157, 3, 137, 3, 0, [1]), (35, .ifCond .eq 7, 3, 42, 0, 0, []), (38, .iconst 1, 1, 0, 0, 1, []), (39, .goto 4, 3, 43, 0, 0, []), (42, .iconst 0, 1, 0, 0, 0, []), (43, .iconst 2, 1, 0, 0, 2, []), (44, .iconst 1, 1, 0, 0, 1, []), (45, .invokevirtual 241, 3, 136, 3, 0, [1, 16]), (48, .ifCond .eq 35, 3, 83, 0, 0, []), (51, .aload_n 0, 1, 0, 0, 0, []), (52, .aload_n 0, 1, 0, 0, 0, []), (53, .iload_n 1, 1, 1, 0, 0, []), (54, .iload_n 2, 1, 2, 0, 0, []), (55, .iload_n 3, 1, 3, 0, 0, []), (56, .invokevirtual 190, 3, 156, 3, 0, [1, 16]), (59, .ifCond .eq 15, 3, 74, 0, 0, []), (62, .aload_n 0, 1, 0, 0, 0, []), (63, .iload_n 1, 1, 1, 0, 0, []), (64, .invokevirtual 193, 3, 158, 1, 0, [1, 16]), (67, .ifCond .eq 7, 3, 74, 0, 0, []), (70, .iconst 1, 1, 0, 0, 1, []), (71, .goto 4, 3, 75, 0, 0, []), (74, .iconst 0, 1, 0, 0, 0, []), (75, .iconst 3, 1, 0, 0, 3, []), (76, .iconst 2, 1, 0, 0, 2, []), (77, .invokevirtual 241, 3, 136, 3, 0, [1, 16]), (80, .ifCond .ne 5, 3, 85, 0, 0, []), (83, .iconst 0, 1, 0, 0, 0, []), (84, .ireturn, 1, 0, 0, 0, []), (85, .aload_n 0, 1, 0, 0, 0, []), (86, .invokevirtual 262, 3, 188, 0, 0, [0, 16]), (89, .aload_n 0, 1, 0, 0, 0, []), (90, .iload_n 1, 1, 1, 0, 0, []), (91, .iload_n 2, 1, 2, 0, 0, []), (92, .iload_n 3, 1, 3, 0, 0, []), (93, .iconst 0, 1, 0, 0, 0, []), (94, .invokevirtual 199, 3, 159, 4, 0, [1, 16]), (97, .ireturn, 1, 0, 0, 0, [])]
def zK_X6_point : List zEnt := [(0, .aload_n 0, 1, 0, 0, 0, []), (1, .iconst 0, 1, 0, 0, 0, []), (2, .putfield 1, 3, 6, 0, 0, []), (5, .aload_n 0, 1, 0, 0, 0, []), (6, .iload_n 1, 1, 1, 0, 0, []), (7, .invokevirtual 259, 3, 189, 1, 0, [1, 16]), (10, .ifCond .eq 53, 3, 63, 0, 0, []), (13, .aload_n 0, 1, 0, 0, 0, []), (14, .iload_n 2, 1, 2, 0, 0, []), (15, .iconst 0, 1, 0, 0, 0, []), (16, .sipush 999, 3, 0, 0, 999, []), (19, .invokestatic 157, 3, 137, 3, 0, [1]), (22, .iconst 2, 1, 0, 0, 2, []), (23, .iconst 1, 1, 0, 0, 1, []), (24, .invokevirtual 241, 3, 136, 3, 0, [1, 16]), (27, .ifCond .eq 36, 3, 63, 0, 0, []), (30, .aload_n 0, 1, 0, 0, 0, []), (31, .aload_n 0, 1, 0, 0, 0, []), (32, .iload_n 1, 1, 1, 0, 0, []), (33, .iload_n 2, 1, 2, 0, 0, []), (34, .invokevirtual 201, 3, 160, 2, 0, [1, 16]), (37, .ifCond .eq 17, 3, 54, 0, 0, []), (40, .aload_n 0, 1, 0, 0, 0, []), (41, .iload_n 1, 1, 1, 0, 0, []), (42, .invokevirtual 70, 3, 142, 1, 0, [1, 16]), (45, .bipush 40, 2, 0, 0, 40, []), (47, .if_icmp .ge 7, 3, 54, 0, 0, []), (50, .iconst 1, 1, 0, 0, 1, []), (51, .goto 4, 3, 55, 0, 0, []), (54, .iconst 0, 1, 0, 0, 0, []), (55, .iconst 3, 1, 0, 0, 3, []), (56, .iconst 2, 1, 0, 0, 2, []), (57, .invokevirtual 241, 3, 136, 3, 0, [1, 16]), (60, .ifCond .ne 5, 3, 65, 0, 0, []), (63, .iconst 0, 1, 0, 0, 0, []), (64, .ireturn, 1, 0, 0, 0, []), (65, .aload_n 0, 1, 0, 0, 0, []), (66, .invokevirtual 262, 3, 188, 0, 0, [0, 16]), (69, .aload_n 0, 1, 0, 0, 0, []), (70, .iload_n 1, 1, 1, 0, 0, []), (71, .iload_n 2, 1, 2, 0, 0, []), (72, .iload_n 2, 1, 2, 0, 0, []), (73, .iconst 0, 1, 0, 0, 0, []), (74, .invokevirtual 93, 3, 153, 4, 0, [1, 16]), (77, .ireturn, 1, 0, 0, 0, [])]
def zK_X6_beside : List zEnt := [(0, .iload_n 2, 1, 2, 0, 0, []), (1, .iload_n 3, 1, 3, 0, 0, []), (2, .iadd, 1, 0, 0, 0, []), (3, .istore 4, 2, 4, 0, 0, []), (5, .iload 4, 2, 4, 0, 0, []), (7, .iconst 0, 1, 0, 0, 0, []), (8, .aload_n 0, 1, 0, 0, 0, []), (9, .iload_n 1, 1, 1, 0, 0, []), (10, .invokevirtual 70, 3, 142, 1, 0, [1, 16]), (13, .iconst 1, 1, 0, 0, 1, []), (14, .isub, 1, 0, 0, 0, []), (15, .invokestatic 157, 3, 137, 3, 0, [1]), (18, .ifCond .eq 24, 3, 42, 0, 0, []), (21, .aload_n 0, 1, 0, 0, 0, []), (22, .iload_n 1, 1, 1, 0, 0, []), (23, .iload 4, 2, 4, 0, 0, []), (25, .invokevirtual 265, 3, 194, 2, 0, [1, 16]), (28, .aload_n 0, 1, 0, 0, 0, []), (29, .iload_n 1, 1, 1, 0, 0, []), (30, .iload_n 2, 1, 2, 0, 0, []), (31, .invokevirtual 265, 3, 194, 2, 0, [1, 16]), (34, .if_icmp .ne 8, 3, 42, 0, 0, []), (37, .iload 4, 2, 4, 0, 0, []), (39, .goto 4, 3, 43, 0, 0, []), (42, .iconst (-1), 1, 0, 0, -1, []), (43, .ireturn, 1, 0, 0, 0, [])]
def zK_X6_parentsOf : List zEnt := [(0, .aload_n 0, 1, 0, 0, 0, []), (1, .iload_n 1, 1, 1, 0, 0, []), (2, .invokevirtual 59, 3, 141, 1, 0, [1, 16]), (5, .iconst (-1), 1, 0, 0, -1, []), (6, .if_icmp .ne 7, 3, 13, 0, 0, []), (9, .iconst (-1), 1, 0, 0, -1, []), (10, .goto 24, 3, 34, 0, 0, []), (13, .aload_n 0, 1, 0, 0, 0, []), (14, .aload_n 0, 1, 0, 0, 0, []), (15, .iload_n 1, 1, 1, 0, 0, []), (16, .invokevirtual 59, 3, 141, 1, 0, [1, 16]), (19, .aload_n 0, 1, 0, 0, 0, []), (20, .iload_n 1, 1, 1, 0, 0, []), (21, .iload_n 2, 1, 2, 0, 0, []), (22, .invokevirtual 73, 3, 144, 2, 0, [1, 16]), (25, .aload_n 0, 1, 0, 0, 0, []), (26, .iload_n 1, 1, 1, 0, 0, []), (27, .iload_n 2, 1, 2, 0, 0, []), (28, .invokevirtual 76, 3, 145, 2, 0, [1, 16]), (31, .invokevirtual 86, 3, 152, 3, 0, [1, 16]), (34, .ireturn, 1, 0, 0, 0, [])]
def zK_X6_clears : List zEnt := [(0, .iconst 0, 1, 0, 0, 0, []), (1, .istore 4, 2, 4, 0, 0, []), (3, .aload_n 0, 1, 0, 0, 0, []), (4, .iload_n 1, 1, 1, 0, 0, []), (5, .invokevirtual 70, 3, 142, 1, 0, [1, 16]), (8, .iconst 1, 1, 0, 0, 1, []), (9, .isub, 1, 0, 0, 0, []), (10, .istore 5, 2, 5, 0, 0, []), (12, .iload 5, 2, 5, 0, 0, []), (14, .ifCond .lt 44, 3, 58, 0, 0, []), (17, .aload_n 0, 1, 0, 0, 0, []), (18, .iload_n 1, 1, 1, 0, 0, []), (19, .iload 5, 2, 5, 0, 0, []), (21, .invokevirtual 73, 3, 144, 2, 0, [1, 16]), (24, .iload_n 2, 1, 2, 0, 0, []), (25, .if_icmp .lt 27, 3, 52, 0, 0, []), (28, .aload_n 0, 1, 0, 0, 0, []), (29, .iload_n 1, 1, 1, 0, 0, []), (30, .iload 5, 2, 5, 0, 0, []), (32, .invokevirtual 76, 3, 145, 2, 0, [1, 16]), (35, .iload_n 3, 1, 3, 0, 0, []), (36, .if_icmp .le 6, 3, 42, 0, 0, []), (39, .goto 13, 3, 52, 0, 0, []), (42, .aload_n 0, 1, 0, 0, 0, []), (43, .iload_n 1, 1, 1, 0, 0, []), (44, .iload 5, 2, 5, 0, 0, []), (46, .invokevirtual 268, 3, 154, 2, 0, [0, 16]), (49, .iinc 4 1, 3, 4, 0, 1, []), (52, .iinc 5 (-1), 3, 5, 0, -1, []), (55, .goto (-43), 3, 12, 0, 0, []), (58, .iload 4, 2, 4, 0, 0, []), (60, .ireturn, 1, 0, 0, 0, [])]
def zK_X6_takesAll : List zEnt := [(0, .aload_n 0, 1, 0, 0, 0, []), (1, .iload_n 1, 1, 1, 0, 0, []), (2, .iload_n 2, 1, 2, 0, 0, []), (3, .invokevirtual 73, 3, 144, 2, 0, [1, 16]), (6, .istore_n 3, 1, 3, 0, 0, []), (7, .aload_n 0, 1, 0, 0, 0, []), (8, .iload_n 1, 1, 1, 0, 0, []), (9, .iload_n 2, 1, 2, 0, 0, []), (10, .invokevirtual 76, 3, 145, 2, 0, [1, 16]), (13, .istore 4, 2, 4, 0, 0, []), (15, .iconst 0, 1, 0, 0, 0, []), (16, .istore 5, 2, 5, 0, 0, []), (18, .aload_n 0, 1, 0, 0, 0, []), (19, .iload_n 1, 1, 1, 0, 0, []), (20, .iload_n 2, 1, 2, 0, 0, []), (21, .invokevirtual 268, 3, 154, 2, 0, [0, 16]), (24, .iconst 0, 1, 0, 0, 0, []), (25, .istore 6, 2, 6, 0, 0, []), (27, .iload 6, 2, 6, 0, 0, []), (29, .aload_n 0, 1, 0, 0, 0, []), (30, .invokevirtual 63, 3, 138, 0, 0, [1, 16]), (33, .if_icmp .ge 43, 3, 76, 0, 0, []), (36, .aload_n 0, 1, 0, 0, 0, []), (37, .iload 6, 2, 6, 0, 0, []), (39, .iload_n 1, 1, 1, 0, 0, []), (40, .invokevirtual 97, 3, 150, 2, 0, [1, 16]), (43, .ifCond .eq 27, 3, 70, 0, 0, []), (46, .aload_n 0, 1, 0, 0, 0, []), (47, .iload 6, 2, 6, 0, 0, []), (49, .invokevirtual 79, 3, 140, 1, 0, [1, 16]), (52, .iconst 3, 1, 0, 0, 3, []), (53, .if_icmp .eq 17, 3, 70, 0, 0, []), (56, .iload 5, 2, 5, 0, 0, []), (58, .aload_n 0, 1, 0, 0, 0, []), (59, .iload 6, 2, 6, 0, 0, []), (61, .iload_n 3, 1, 3, 0, 0, []), (62, .iload 4, 2, 4, 0, 0, []), (64, .invokevirtual 271, 3, 195, 3, 0, [1, 16]), (67, .iadd, 1, 0, 0, 0, []), (68, .istore 5, 2, 5, 0, 0, []), (70, .iinc 6 1, 3, 6, 0, 1, []), (73, .goto (-46), 3, 27, 0, 0, []), (76, .iconst 0, 1, 0, 0, 0, []), (77, .istore 6, 2, 6, 0, 0, []), (79, .iload 6, 2, 6, 0, 0, []), (81, .aload_n 0, 1, 0, 0, 0, []), (82, .invokevirtual 63, 3, 138, 0, 0, [1, 16]), (85, .if_icmp .ge 97, 3, 182, 0, 0, []), (88, .aload_n 0, 1, 0, 0, 0, []), (89, .iload 6, 2, 6, 0, 0, []), (91, .iload_n 1, 1, 1, 0, 0, []), (92, .invokevirtual 97, 3, 150, 2, 0, [1, 16]), (95, .ifCond .eq 81, 3, 176, 0, 0, []), (98, .aload_n 0, 1, 0, 0, 0, []), (99, .iload 6, 2, 6, 0, 0, []), (101, .invokevirtual 79, 3, 140, 1, 0, [1, 16]), (104, .iconst 3, 1, 0, 0, 3, []), (105, .if_icmp .eq 6, 3, 111, 0, 0, []), (108, .goto 68, 3, 176, 0, 0, []), (111, .aload_n 0, 1, 0, 0, 0, []), (112, .iload 6, 2, 6, 0, 0, []), (114, .invokevirtual 70, 3, 142, 1, 0, [1, 16]), (117, .iconst 1, 1, 0, 0, 1, []), (118, .isub, 1, 0, 0, 0, []), (119, .istore 7, 2, 7, 0, 0, []), (121, .iload 7, 2, 7, 0, 0, []), (123, .ifCond .lt 53, 3, 176, 0, 0, []), (126, .aload_n 0, 1, 0, 0, 0, []), (127, .aload_n 0, 1, 0, 0, 0, []), (128, .iload 6, 2, 6, 0, 0, []), (130, .invokevirtual 59, 3, 141, 1, 0, [1, 16]), (133, .aload_n 0, 1, 0, 0, 0, []), (134, .iload 6, 2, 6, 0, 0, []), (136, .iload 7, 2, 7, 0, 0, []), (138, .invokevirtual 73, 3, 144, 2, 0, [1, 16]), (141, .aload_n 0, 1, 0, 0, 0, []), (142, .iload 6, 2, 6, 0, 0, []), (144, .iload 7, 2, 7, 0, 0, []), (146, .invokevirtual 73, 3, 144, 2, 0, [1, 16]), (149, .invokevirtual 86, 3, 152, 3, 0, [1, 16]), (152, .iconst (-1), 1, 0, 0, -1, []), (153, .if_icmp .eq 6, 3, 159, 0, 0, []), (156, .goto 14, 3, 170, 0, 0, []), (159, .aload_n 0, 1, 0, 0, 0, []), (160, .iload 6, 2, 6, 0, 0, []), (162, .iload 7, 2, 7, 0, 0, []), (164, .invokevirtual 268, 3, 154, 2, 0, [0, 16]), (167, .iinc 5 1, 3, 5, 0, 1, []), (170, .iinc 7 (-1), 3, 7, 0, -1, []), (173, .goto (-52), 3, 121, 0, 0, []), (176, .iinc 6 1, 3, 6, 0, 1, []), (179, .goto (-100), 3, 79, 0, 0, []), (182, .iload 5, 2, 5, 0, 0, []), (184, .iconst 1, 1, 0, 0, 1, []), (185, .iadd, 1, 0, 0, 0, []), (186, .ireturn, 1, 0, 0, 0, [])]
def zK_X6_takesCut : List zEnt := [(0, .aload_n 0, 1, 0, 0, 0, []), (1, .iload_n 1, 1, 1, 0, 0, []), (2, .iload_n 2, 1, 2, 0, 0, []), (3, .iconst (-1), 1, 0, 0, -1, []), (4, .invokevirtual 274, 3, 193, 3, 0, [1, 16]), (7, .istore_n 3, 1, 3, 0, 0, []), (8, .aload_n 0, 1, 0, 0, 0, []), (9, .iload_n 1, 1, 1, 0, 0, []), (10, .iload_n 2, 1, 2, 0, 0, []), (11, .iconst 1, 1, 0, 0, 1, []), (12, .invokevirtual 274, 3, 193, 3, 0, [1, 16]), (15, .istore 4, 2, 4, 0, 0, []), (17, .iload_n 3, 1, 3, 0, 0, []), (18, .iconst (-1), 1, 0, 0, -1, []), (19, .if_icmp .eq 23, 3, 42, 0, 0, []), (22, .aload_n 0, 1, 0, 0, 0, []), (23, .getfield 17, 3, 6, 2, 0, []), (26, .iload_n 1, 1, 1, 0, 0, []), (27, .iload_n 3, 1, 3, 0, 0, []), (28, .iconst 1, 1, 0, 0, 1, []), (29, .invokestatic 55, 3, 143, 3, 0, [1]), (32, .aload_n 0, 1, 0, 0, 0, []), (33, .iload_n 1, 1, 1, 0, 0, []), (34, .iload_n 2, 1, 2, 0, 0, []), (35, .invokevirtual 76, 3, 145, 2, 0, [1, 16]), (38, .iastore, 1, 0, 0, 0, []), (39, .goto 21, 3, 60, 0, 0, []), (42, .aload_n 0, 1, 0, 0, 0, []), (43, .getfield 17, 3, 6, 2, 0, []), (46, .iload_n 1, 1, 1, 0, 0, []), (47, .iload 4, 2, 4, 0, 0, []), (49, .iconst 0, 1, 0, 0, 0, []), (50, .invokestatic 55, 3, 143, 3, 0, [1]), (53, .aload_n 0, 1, 0, 0, 0, []), (54, .iload_n 1, 1, 1, 0, 0, []), (55, .iload_n 2, 1, 2, 0, 0, []), (56, .invokevirtual 73, 3, 144, 2, 0, [1, 16]), (59, .iastore, 1, 0, 0, 0, []), (60, .aload_n 0, 1, 0, 0, 0, []), (61, .iload_n 1, 1, 1, 0, 0, []), (62, .iload_n 2, 1, 2, 0, 0, []), (63, .invokevirtual 268, 3, 154, 2, 0, [0, 16]), (66, .iconst 1, 1, 0, 0, 1, []), (67, .ireturn, 1, 0, 0, 0, [])]
def zK_X6_take : List zEnt := [(0, .aload_n 0, 1, 0, 0, 0, []), (1, .iconst 0, 1, 0, 0, 0, []), (2, .putfield 1, 3, 6, 0, 0, []), (5, .aload_n 0, 1, 0, 0, 0, []), (6, .iload_n 1, 1, 1, 0, 0, []), (7, .iload_n 2, 1, 2, 0, 0, []), (8, .invokevirtual 277, 3, 190, 2, 0, [1, 16]), (11, .ifCond .ne 5, 3, 16, 0, 0, []), (14, .iconst 0, 1, 0, 0, 0, []), (15, .ireturn, 1, 0, 0, 0, []), (16, .aload_n 0, 1, 0, 0, 0, []), (17, .aload_n 0, 1, 0, 0, 0, []), (18, .iload_n 1, 1, 1, 0, 0, []), (19, .invokevirtual 79, 3, 140, 1, 0, [1, 16]), (22, .iconst 1, 1, 0, 0, 1, []), (23, .if_icmp .ne 25, 3, 48, 0, 0, []), (26, .aload_n 0, 1, 0, 0, 0, []), (27, .iload_n 1, 1, 1, 0, 0, []), (28, .iload_n 2, 1, 2, 0, 0, []), (29, .iconst (-1), 1, 0, 0, -1, []), (30, .invokevirtual 274, 3, 193, 3, 0, [1, 16]), (33, .iconst (-1), 1, 0, 0, -1, []), (34, .if_icmp .ne 14, 3, 48, 0, 0, []), (37, .aload_n 0, 1, 0, 0, 0, []), (38, .iload_n 1, 1, 1, 0, 0, []), (39, .iload_n 2, 1, 2, 0, 0, []), (40, .iconst 1, 1, 0, 0, 1, []), (41, .invokevirtual 274, 3, 193, 3, 0, [1, 16]), (44, .iconst (-1), 1, 0, 0, -1, []), (45, .if_icmp .eq 7, 3, 52, 0, 0, []), (48, .iconst 1, 1, 0, 0, 1, []), (49, .goto 4, 3, 53, 0, 0, []), (52, .iconst 0, 1, 0, 0, 0, []), (53, .iconst 2, 1, 0, 0, 2, []), (54, .iconst 2, 1, 0, 0, 2, []), (55, .invokevirtual 241, 3, 136, 3, 0, [1, 16]), (58, .ifCond .ne 5, 3, 63, 0, 0, []), (61, .iconst 0, 1, 0, 0, 0, []), (62, .ireturn, 1, 0, 0, 0, []), (63, .aload_n 0, 1, 0, 0, 0, []), (64, .invokevirtual 262, 3, 188, 0, 0, [0, 16]), (67, .aload_n 0, 1, 0, 0, 0, []), (68, .iload_n 1, 1, 1, 0, 0, []), (69, .invokevirtual 79, 3, 140, 1, 0, [1, 16]), (72, .iconst 1, 1, 0, 0, 1, []), (73, .if_icmp .ne 10, 3, 83, 0, 0, []), (76, .aload_n 0, 1, 0, 0, 0, []), (77, .iload_n 1, 1, 1, 0, 0, []), (78, .iload_n 2, 1, 2, 0, 0, []), (79, .invokevirtual 280, 3, 197, 2, 0, [1, 16]), (82, .ireturn, 1, 0, 0, 0, []), (83, .aload_n 0, 1, 0, 0, 0, []), (84, .iload_n 1, 1, 1, 0, 0, []), (85, .invokevirtual 79, 3, 140, 1, 0, [1, 16]), (88, .iconst 3, 1, 0, 0, 3, []), (89, .if_icmp .eq 10, 3, 99, 0, 0, []), (92, .aload_n 0, 1, 0, 0, 0, []), (93, .iload_n 1, 1, 1, 0, 0, []), (94, .iload_n 2, 1, 2, 0, 0, []), (95, .invokevirtual 283, 3, 196, 2, 0, [1, 16]), (98, .ireturn, 1, 0, 0, 0, []), (99, .aload_n 0, 1, 0, 0, 0, []), (100, .iload_n 1, 1, 1, 0, 0, []), (101, .iload_n 2, 1, 2, 0, 0, []), (102, .invokevirtual 268, 3, 154, 2, 0, [0, 16]), (105, .iconst 1, 1, 0, 0, 1, []), (106, .ireturn, 1, 0, 0, 0, [])]
def zK_X6_split : List zEnt := [(0, .aload_n 0, 1, 0, 0, 0, []), (1, .iconst 0, 1, 0, 0, 0, []), (2, .putfield 1, 3, 6, 0, 0, []), (5, .aload_n 0, 1, 0, 0, 0, []), (6, .iload_n 1, 1, 1, 0, 0, []), (7, .iload_n 2, 1, 2, 0, 0, []), (8, .invokevirtual 277, 3, 190, 2, 0, [1, 16]), (11, .ifCond .ne 5, 3, 16, 0, 0, []), (14, .iconst 0, 1, 0, 0, 0, []), (15, .ireturn, 1, 0, 0, 0, []), (16, .aload_n 0, 1, 0, 0, 0, []), (17, .aload_n 0, 1, 0, 0, 0, []), (18, .iload_n 1, 1, 1, 0, 0, []), (19, .invokevirtual 79, 3, 140, 1, 0, [1, 16]), (22, .iconst 3, 1, 0, 0, 3, []), (23, .if_icmp .eq 23, 3, 46, 0, 0, []), (26, .iload_n 3, 1, 3, 0, 0, []), (27, .aload_n 0, 1, 0, 0, 0, []), (28, .iload_n 1, 1, 1, 0, 0, []), (29, .iload_n 2, 1, 2, 0, 0, []), (30, .invokevirtual 73, 3, 144, 2, 0, [1, 16]), (33, .if_icmp .le 17, 3, 50, 0, 0, []), (36, .iload_n 3, 1, 3, 0, 0, []), (37, .aload_n 0, 1, 0, 0, 0, []), (38, .iload_n 1, 1, 1, 0, 0, []), (39, .iload_n 2, 1, 2, 0, 0, []), (40, .invokevirtual 76, 3, 145, 2, 0, [1, 16]), (43, .if_icmp .ge 7, 3, 50, 0, 0, []), (46, .iconst 1, 1, 0, 0, 1, []), (47, .goto 4, 3, 51, 0, 0, []), (50, .iconst 0, 1, 0, 0, 0, []), (51, .iconst 2, 1, 0, 0, 2, []), (52, .iconst 1, 1, 0, 0, 1, []), (53, .invokevirtual 241, 3, 136, 3, 0, [1, 16]), (56, .ifCond .ne 5, 3, 61, 0, 0, []), (59, .iconst 0, 1, 0, 0, 0, []), (60, .ireturn, 1, 0, 0, 0, []), (61, .aload_n 0, 1, 0, 0, 0, []), (62, .aload_n 0, 1, 0, 0, 0, []), (63, .iload_n 1, 1, 1, 0, 0, []), (64, .invokevirtual 79, 3, 140, 1, 0, [1, 16]), (67, .iconst 3, 1, 0, 0, 3, []), (68, .if_icmp .eq 25, 3, 93, 0, 0, []), (71, .aload_n 0, 1, 0, 0, 0, []), (72, .iload_n 1, 1, 1, 0, 0, []), (73, .iload_n 3, 1, 3, 0, 0, []), (74, .invokevirtual 204, 3, 161, 2, 0, [1, 16]), (77, .ifCond .eq 16, 3, 93, 0, 0, []), (80, .aload_n 0, 1, 0, 0, 0, []), (81, .iload_n 1, 1, 1, 0, 0, []), (82, .iload_n 3, 1, 3, 0, 0, []), (83, .invokevirtual 207, 3, 163, 2, 0, [1, 16]), (86, .ifCond .eq 7, 3, 93, 0, 0, []), (89, .iconst 1, 1, 0, 0, 1, []), (90, .goto 4, 3, 94, 0, 0, []), (93, .iconst 0, 1, 0, 0, 0, []), (94, .iconst 3, 1, 0, 0, 3, []), (95, .iconst 2, 1, 0, 0, 2, []), (96, .invokevirtual 241, 3, 136, 3, 0, [1, 16]), (99, .ifCond .ne 5, 3, 104, 0, 0, []), (102, .iconst 0, 1, 0, 0, 0, []), (103, .ireturn, 1, 0, 0, 0, []), (104, .aload_n 0, 1, 0, 0, 0, []), (105, .invokevirtual 262, 3, 188, 0, 0, [0, 16]), (108, .aload_n 0, 1, 0, 0, 0, []), (109, .iload_n 1, 1, 1, 0, 0, []), (110, .iload_n 3, 1, 3, 0, 0, []), (111, .invokevirtual 210, 3, 165, 2, 0, [1, 16]), (114, .ireturn, 1, 0, 0, 0, [])]
def zK_X6_join : List zEnt := [(0, .aload_n 0, 1, 0, 0, 0, []), (1, .iconst 0, 1, 0, 0, 0, []), (2, .putfield 1, 3, 6, 0, 0, []), (5, .aload_n 0, 1, 0, 0, 0, []), (6, .iload_n 1, 1, 1, 0, 0, []), (7, .iload_n 2, 1, 2, 0, 0, []), (8, .invokevirtual 277, 3, 190, 2, 0, [1, 16]), (11, .ifCond .ne 5, 3, 16, 0, 0, []), (14, .iconst 0, 1, 0, 0, 0, []), (15, .ireturn, 1, 0, 0, 0, []), (16, .aload_n 0, 1, 0, 0, 0, []), (17, .iload_n 1, 1, 1, 0, 0, []), (18, .invokevirtual 79, 3, 140, 1, 0, [1, 16]), (21, .iconst 3, 1, 0, 0, 3, []), (22, .if_icmp .eq 52, 3, 74, 0, 0, []), (25, .iload_n 2, 1, 2, 0, 0, []), (26, .iconst 1, 1, 0, 0, 1, []), (27, .iadd, 1, 0, 0, 0, []), (28, .aload_n 0, 1, 0, 0, 0, []), (29, .iload_n 1, 1, 1, 0, 0, []), (30, .invokevirtual 70, 3, 142, 1, 0, [1, 16]), (33, .if_icmp .ge 41, 3, 74, 0, 0, []), (36, .aload_n 0, 1, 0, 0, 0, []), (37, .iload_n 1, 1, 1, 0, 0, []), (38, .iload_n 2, 1, 2, 0, 0, []), (39, .iconst 1, 1, 0, 0, 1, []), (40, .iadd, 1, 0, 0, 0, []), (41, .invokevirtual 73, 3, 144, 2, 0, [1, 16]), (44, .aload_n 0, 1, 0, 0, 0, []), (45, .iload_n 1, 1, 1, 0, 0, []), (46, .iload_n 2, 1, 2, 0, 0, []), (47, .invokevirtual 76, 3, 145, 2, 0, [1, 16]), (50, .if_icmp .ne 24, 3, 74, 0, 0, []), (53, .aload_n 0, 1, 0, 0, 0, []), (54, .iload_n 1, 1, 1, 0, 0, []), (55, .iload_n 2, 1, 2, 0, 0, []), (56, .invokevirtual 265, 3, 194, 2, 0, [1, 16]), (59, .aload_n 0, 1, 0, 0, 0, []), (60, .iload_n 1, 1, 1, 0, 0, []), (61, .iload_n 2, 1, 2, 0, 0, []), (62, .iconst 1, 1, 0, 0, 1, []), (63, .iadd, 1, 0, 0, 0, []), (64, .invokevirtual 265, 3, 194, 2, 0, [1, 16]), (67, .if_icmp .ne 7, 3, 74, 0, 0, []), (70, .iconst 1, 1, 0, 0, 1, []), (71, .goto 4, 3, 75, 0, 0, []), (74, .iconst 0, 1, 0, 0, 0, []), (75, .istore_n 3, 1, 3, 0, 0, []), (76, .aload_n 0, 1, 0, 0, 0, []), (77, .iload_n 3, 1, 3, 0, 0, []), (78, .iconst 2, 1, 0, 0, 2, []), (79, .iconst 2, 1, 0, 0, 2, []), (80, .invokevirtual 241, 3, 136, 3, 0, [1, 16]), (83, .ifCond .ne 5, 3, 88, 0, 0, []), (86, .iconst 0, 1, 0, 0, 0, []), (87, .ireturn, 1, 0, 0, 0, []), (88, .aload_n 0, 1, 0, 0, 0, []), (89, .invokevirtual 262, 3, 188, 0, 0, [0, 16]), (92, .aload_n 0, 1, 0, 0, 0, []), (93, .getfield 17, 3, 6, 2, 0, []), (96, .iload_n 1, 1, 1, 0, 0, []), (97, .iload_n 2, 1, 2, 0, 0, []), (98, .iconst 1, 1, 0, 0, 1, []), (99, .invokestatic 55, 3, 143, 3, 0, [1]), (102, .aload_n 0, 1, 0, 0, 0, []), (103, .iload_n 1, 1, 1, 0, 0, []), (104, .iload_n 2, 1, 2, 0, 0, []), (105, .iconst 1, 1, 0, 0, 1, []), (106, .iadd, 1, 0, 0, 0, []), (107, .invokevirtual 76, 3, 145, 2, 0, [1, 16]), (110, .iastore, 1, 0, 0, 0, []), (111, .aload_n 0, 1, 0, 0, 0, []), (112, .iload_n 1, 1, 1, 0, 0, []), (113, .iload_n 2, 1, 2, 0, 0, []), (114, .iconst 1, 1, 0, 0, 1, []), (115, .iadd, 1, 0, 0, 0, []), (116, .invokevirtual 268, 3, 154, 2, 0, [0, 16]), (119, .aload_n 0, 1, 0, 0, 0, []), (120, .iload_n 1, 1, 1, 0, 0, []), (121, .iload_n 2, 1, 2, 0, 0, []), (122, .invokevirtual 76, 3, 145, 2, 0, [1, 16]), (125, .ireturn, 1, 0, 0, 0, [])]
def zK_X6_stopAhead : List zEnt := [(0, .iload_n 2, 1, 2, 0, 0, []), (1, .iconst 1, 1, 0, 0, 1, []), (2, .isub, 1, 0, 0, 0, []), (3, .istore_n 3, 1, 3, 0, 0, []), (4, .iload_n 3, 1, 3, 0, 0, []), (5, .ifCond .lt 20, 3, 25, 0, 0, []), (8, .aload_n 0, 1, 0, 0, 0, []), (9, .iload_n 1, 1, 1, 0, 0, []), (10, .iload_n 3, 1, 3, 0, 0, []), (11, .invokevirtual 286, 3, 151, 2, 0, [1, 16]), (14, .ifCond .eq 5, 3, 19, 0, 0, []), (17, .iload_n 3, 1, 3, 0, 0, []), (18, .ireturn, 1, 0, 0, 0, []), (19, .iinc 3 (-1), 3, 3, 0, -1, []), (22, .goto (-18), 3, 4, 0, 0, []), (25, .iconst (-1), 1, 0, 0, -1, []), (26, .ireturn, 1, 0, 0, 0, [])]
def zK_X6_stopBehind : List zEnt := [(0, .iload_n 2, 1, 2, 0, 0, []), (1, .iconst 1, 1, 0, 0, 1, []), (2, .iadd, 1, 0, 0, 0, []), (3, .istore_n 3, 1, 3, 0, 0, []), (4, .iload_n 3, 1, 3, 0, 0, []), (5, .sipush 999, 3, 0, 0, 999, []), (8, .if_icmp .gt 20, 3, 28, 0, 0, []), (11, .aload_n 0, 1, 0, 0, 0, []), (12, .iload_n 1, 1, 1, 0, 0, []), (13, .iload_n 3, 1, 3, 0, 0, []), (14, .invokevirtual 286, 3, 151, 2, 0, [1, 16]), (17, .ifCond .eq 5, 3, 22, 0, 0, []), (20, .iload_n 3, 1, 3, 0, 0, []), (21, .ireturn, 1, 0, 0, 0, []), (22, .iinc 3 1, 3, 3, 0, 1, []), (25, .goto (-21), 3, 4, 0, 0, []), (28, .sipush 1000, 3, 0, 0, 1000, []), (31, .ireturn, 1, 0, 0, 0, [])]
def zK_X6_isStopOf : List zEnt := [(0, .aload_n 0, 1, 0, 0, 0, []), (1, .iload_n 1, 1, 1, 0, 0, []), (2, .iconst 0, 1, 0, 0, 0, []), (3, .aload_n 0, 1, 0, 0, 0, []), (4, .invokevirtual 63, 3, 138, 0, 0, [1, 16]), (7, .iconst 1, 1, 0, 0, 1, []), (8, .isub, 1, 0, 0, 0, []), (9, .invokestatic 157, 3, 137, 3, 0, [1]), (12, .ifCond .eq 20, 3, 32, 0, 0, []), (15, .aload_n 0, 1, 0, 0, 0, []), (16, .aload_n 0, 1, 0, 0, 0, []), (17, .iload_n 1, 1, 1, 0, 0, []), (18, .invokevirtual 67, 3, 148, 1, 0, [1, 16]), (21, .iload_n 2, 1, 2, 0, 0, []), (22, .invokevirtual 286, 3, 151, 2, 0, [1, 16]), (25, .ifCond .eq 7, 3, 32, 0, 0, []), (28, .iconst 1, 1, 0, 0, 1, []), (29, .goto 4, 3, 33, 0, 0, []), (32, .iconst 0, 1, 0, 0, 0, []), (33, .iconst 1, 1, 0, 0, 1, []), (34, .iconst 0, 1, 0, 0, 0, []), (35, .invokevirtual 241, 3, 136, 3, 0, [1, 16]), (38, .ireturn, 1, 0, 0, 0, [])]
def zK_X6_endsAt : List zEnt := [(0, .iconst 0, 1, 0, 0, 0, []), (1, .istore_n 3, 1, 3, 0, 0, []), (2, .iconst 0, 1, 0, 0, 0, []), (3, .istore 4, 2, 4, 0, 0, []), (5, .iload 4, 2, 4, 0, 0, []), (7, .aload_n 0, 1, 0, 0, 0, []), (8, .invokevirtual 63, 3, 138, 0, 0, [1, 16]), (11, .if_icmp .ge 90, 3, 101, 0, 0, []), (14, .aload_n 0, 1, 0, 0, 0, []), (15, .iload 4, 2, 4, 0, 0, []), (17, .invokevirtual 67, 3, 148, 1, 0, [1, 16]), (20, .iload_n 1, 1, 1, 0, 0, []), (21, .if_icmp .eq 6, 3, 27, 0, 0, []), (24, .goto 71, 3, 95, 0, 0, []), (27, .iconst 0, 1, 0, 0, 0, []), (28, .istore 5, 2, 5, 0, 0, []), (30, .iload 5, 2, 5, 0, 0, []), (32, .aload_n 0, 1, 0, 0, 0, []), (33, .iload 4, 2, 4, 0, 0, []), (35, .invokevirtual 70, 3, 142, 1, 0, [1, 16]), (38, .if_icmp .ge 57, 3, 95, 0, 0, []), (41, .iload_n 3, 1, 3, 0, 0, []), (42, .aload_n 0, 1, 0, 0, 0, []), (43, .iload 4, 2, 4, 0, 0, []), (45, .iload 5, 2, 5, 0, 0, []), (47, .invokevirtual 73, 3, 144, 2, 0, [1, 16]), (50, .iload_n 2, 1, 2, 0, 0, []), (51, .if_icmp .ne 7, 3, 58, 0, 0, []), (54, .iconst 1, 1, 0, 0, 1, []), (55, .goto 4, 3, 59, 0, 0, []), (58, .iconst 0, 1, 0, 0, 0, []), (59, .aload_n 0, 1, 0, 0, 0, []), (60, .iload 4, 2, 4, 0, 0, []), (62, .invokevirtual 79, 3, 140, 1, 0, [1, 16]), (65, .iconst 3, 1, 0, 0, 3, []), (66, .if_icmp .eq 19, 3, 85, 0, 0, []), (69, .aload_n 0, 1, 0, 0, 0, []), (70, .iload 4, 2, 4, 0, 0, []), (72, .iload 5, 2, 5, 0, 0, []), (74, .invokevirtual 76, 3, 145, 2, 0, [1, 16]), (77, .iload_n 2, 1, 2, 0, 0, []), (78, .if_icmp .ne 7, 3, 85, 0, 0, []), (81, .iconst 1, 1, 0, 0, 1, []), (82, .goto 4, 3, 86, 0, 0, []), (85, .iconst 0, 1, 0, 0, 0, []), (86, .iadd, 1, 0, 0, 0, []), (87, .iadd, 1, 0, 0, 0, []), (88, .istore_n 3, 1, 3, 0, 0, []), (89, .iinc 5 1, 3, 5, 0, 1, []), (92, .goto (-62), 3, 30, 0, 0, []), (95, .iinc 4 1, 3, 4, 0, 1, []), (98, .goto (-93), 3, 5, 0, 0, []), (101, .iload_n 3, 1, 3, 0, 0, []), (102, .ireturn, 1, 0, 0, 0, [])]
def zK_X6_move : List zEnt := [(0, .aload_n 0, 1, 0, 0, 0, []), (1, .iconst 0, 1, 0, 0, 0, []), (2, .putfield 1, 3, 6, 0, 0, []), (5, .aload_n 0, 1, 0, 0, 0, []), (6, .iload_n 1, 1, 1, 0, 0, []), (7, .iload_n 2, 1, 2, 0, 0, []), (8, .invokevirtual 289, 3, 203, 2, 0, [1, 16]), (11, .ifCond .eq 20, 3, 31, 0, 0, []), (14, .aload_n 0, 1, 0, 0, 0, []), (15, .iload_n 3, 1, 3, 0, 0, []), (16, .iconst 0, 1, 0, 0, 0, []), (17, .sipush 999, 3, 0, 0, 999, []), (20, .invokestatic 157, 3, 137, 3, 0, [1]), (23, .iconst 2, 1, 0, 0, 2, []), (24, .iconst 1, 1, 0, 0, 1, []), (25, .invokevirtual 241, 3, 136, 3, 0, [1, 16]), (28, .ifCond .ne 5, 3, 33, 0, 0, []), (31, .iconst 0, 1, 0, 0, 0, []), (32, .ireturn, 1, 0, 0, 0, []), (33, .aload_n 0, 1, 0, 0, 0, []), (34, .iload_n 1, 1, 1, 0, 0, []), (35, .invokevirtual 67, 3, 148, 1, 0, [1, 16]), (38, .istore 4, 2, 4, 0, 0, []), (40, .aload_n 0, 1, 0, 0, 0, []), (41, .aload_n 0, 1, 0, 0, 0, []), (42, .iload 4, 2, 4, 0, 0, []), (44, .iload_n 2, 1, 2, 0, 0, []), (45, .iload_n 3, 1, 3, 0, 0, []), (46, .invokevirtual 292, 3, 213, 3, 0, [1, 16]), (49, .iconst 3, 1, 0, 0, 3, []), (50, .iconst 2, 1, 0, 0, 2, []), (51, .invokevirtual 241, 3, 136, 3, 0, [1, 16]), (54, .ifCond .ne 5, 3, 59, 0, 0, []), (57, .iconst 0, 1, 0, 0, 0, []), (58, .ireturn, 1, 0, 0, 0, []), (59, .aload_n 0, 1, 0, 0, 0, []), (60, .iload 4, 2, 4, 0, 0, []), (62, .iload_n 2, 1, 2, 0, 0, []), (63, .invokevirtual 295, 3, 204, 2, 0, [1, 16]), (66, .istore 5, 2, 5, 0, 0, []), (68, .aload_n 0, 1, 0, 0, 0, []), (69, .invokevirtual 262, 3, 188, 0, 0, [0, 16]), (72, .aload_n 0, 1, 0, 0, 0, []), (73, .iload 4, 2, 4, 0, 0, []), (75, .iload_n 2, 1, 2, 0, 0, []), (76, .iload_n 3, 1, 3, 0, 0, []), (77, .invokevirtual 298, 3, 214, 3, 0, [0, 16]), (80, .iload 5, 2, 5, 0, 0, []), (82, .ireturn, 1, 0, 0, 0, [])]
def zK_X6_stopsFrom : List zEnt := [(0, .iconst 0, 1, 0, 0, 0, []), (1, .istore_n 2, 1, 2, 0, 0, []), (2, .iconst 0, 1, 0, 0, 0, []), (3, .istore_n 3, 1, 3, 0, 0, []), (4, .iload_n 3, 1, 3, 0, 0, []), (5, .aload_n 0, 1, 0, 0, 0, []), (6, .invokevirtual 63, 3, 138, 0, 0, [1, 16]), (9, .if_icmp .ge 53, 3, 62, 0, 0, []), (12, .iload_n 1, 1, 1, 0, 0, []), (13, .istore 4, 2, 4, 0, 0, []), (15, .iload 4, 2, 4, 0, 0, []), (17, .sipush 999, 3, 0, 0, 999, []), (20, .if_icmp .gt 36, 3, 56, 0, 0, []), (23, .iload_n 2, 1, 2, 0, 0, []), (24, .aload_n 0, 1, 0, 0, 0, []), (25, .iload_n 3, 1, 3, 0, 0, []), (26, .invokevirtual 67, 3, 148, 1, 0, [1, 16]), (29, .iload_n 3, 1, 3, 0, 0, []), (30, .if_icmp .ne 17, 3, 47, 0, 0, []), (33, .aload_n 0, 1, 0, 0, 0, []), (34, .iload_n 3, 1, 3, 0, 0, []), (35, .iload 4, 2, 4, 0, 0, []), (37, .invokevirtual 286, 3, 151, 2, 0, [1, 16]), (40, .ifCond .eq 7, 3, 47, 0, 0, []), (43, .iconst 1, 1, 0, 0, 1, []), (44, .goto 4, 3, 48, 0, 0, []), (47, .iconst 0, 1, 0, 0, 0, []), (48, .iadd, 1, 0, 0, 0, []), (49, .istore_n 2, 1, 2, 0, 0, []), (50, .iinc 4 1, 3, 4, 0, 1, []), (53, .goto (-38), 3, 15, 0, 0, []), (56, .iinc 3 1, 3, 3, 0, 1, []), (59, .goto (-55), 3, 4, 0, 0, []), (62, .iload_n 2, 1, 2, 0, 0, []), (63, .ireturn, 1, 0, 0, 0, [])]
def zK_X6_latest : List zEnt := [(0, .iconst (-1), 1, 0, 0, -1, []), (1, .istore_n 1, 1, 1, 0, 0, []), (2, .iconst 0, 1, 0, 0, 0, []), (3, .istore_n 2, 1, 2, 0, 0, []), (4, .iload_n 2, 1, 2, 0, 0, []), (5, .aload_n 0, 1, 0, 0, 0, []), (6, .invokevirtual 63, 3, 138, 0, 0, [1, 16]), (9, .if_icmp .ge 37, 3, 46, 0, 0, []), (12, .iconst 0, 1, 0, 0, 0, []), (13, .istore_n 3, 1, 3, 0, 0, []), (14, .iload_n 3, 1, 3, 0, 0, []), (15, .aload_n 0, 1, 0, 0, 0, []), (16, .iload_n 2, 1, 2, 0, 0, []), (17, .invokevirtual 70, 3, 142, 1, 0, [1, 16]), (20, .if_icmp .ge 20, 3, 40, 0, 0, []), (23, .iload_n 1, 1, 1, 0, 0, []), (24, .aload_n 0, 1, 0, 0, 0, []), (25, .iload_n 2, 1, 2, 0, 0, []), (26, .iload_n 3, 1, 3, 0, 0, []), (27, .invokevirtual 76, 3, 145, 2, 0, [1, 16]), (30, .invokestatic 302, 3, 1000, 2, 0, []), (33, .istore_n 1, 1, 1, 0, 0, []), (34, .iinc 3 1, 3, 3, 0, 1, []), (37, .goto (-23), 3, 14, 0, 0, []), (40, .iinc 2 1, 3, 2, 0, 1, []), (43, .goto (-39), 3, 4, 0, 0, []), (46, .iload_n 1, 1, 1, 0, 0, []), (47, .ireturn, 1, 0, 0, 0, [])]
def zK_X6_silence : List zEnt := [(0, .aload_n 0, 1, 0, 0, 0, []), (1, .iconst 0, 1, 0, 0, 0, []), (2, .putfield 1, 3, 6, 0, 0, []), (5, .aload_n 0, 1, 0, 0, 0, []), (6, .iload_n 1, 1, 1, 0, 0, []), (7, .iconst 0, 1, 0, 0, 0, []), (8, .sipush 999, 3, 0, 0, 999, []), (11, .invokestatic 157, 3, 137, 3, 0, [1]), (14, .ifCond .eq 18, 3, 32, 0, 0, []), (17, .iload_n 2, 1, 2, 0, 0, []), (18, .iconst 1, 1, 0, 0, 1, []), (19, .sipush 999, 3, 0, 0, 999, []), (22, .invokestatic 157, 3, 137, 3, 0, [1]), (25, .ifCond .eq 7, 3, 32, 0, 0, []), (28, .iconst 1, 1, 0, 0, 1, []), (29, .goto 4, 3, 33, 0, 0, []), (32, .iconst 0, 1, 0, 0, 0, []), (33, .iconst 1, 1, 0, 0, 1, []), (34, .iconst 1, 1, 0, 0, 1, []), (35, .invokevirtual 241, 3, 136, 3, 0, [1, 16]), (38, .ifCond .eq 37, 3, 75, 0, 0, []), (41, .aload_n 0, 1, 0, 0, 0, []), (42, .aload_n 0, 1, 0, 0, 0, []), (43, .invokevirtual 305, 3, 207, 0, 0, [1, 16]), (46, .iload_n 1, 1, 1, 0, 0, []), (47, .if_icmp .le 15, 3, 62, 0, 0, []), (50, .aload_n 0, 1, 0, 0, 0, []), (51, .invokevirtual 305, 3, 207, 0, 0, [1, 16]), (54, .iload_n 2, 1, 2, 0, 0, []), (55, .iadd, 1, 0, 0, 0, []), (56, .sipush 999, 3, 0, 0, 999, []), (59, .if_icmp .gt 7, 3, 66, 0, 0, []), (62, .iconst 1, 1, 0, 0, 1, []), (63, .goto 4, 3, 67, 0, 0, []), (66, .iconst 0, 1, 0, 0, 0, []), (67, .iconst 2, 1, 0, 0, 2, []), (68, .iconst 2, 1, 0, 0, 2, []), (69, .invokevirtual 241, 3, 136, 3, 0, [1, 16]), (72, .ifCond .ne 5, 3, 77, 0, 0, []), (75, .iconst 0, 1, 0, 0, 0, []), (76, .ireturn, 1, 0, 0, 0, []), (77, .aload_n 0, 1, 0, 0, 0, []), (78, .iload_n 1, 1, 1, 0, 0, []), (79, .iconst 1, 1, 0, 0, 1, []), (80, .iadd, 1, 0, 0, 0, []), (81, .invokevirtual 308, 3, 206, 1, 0, [1, 16]), (84, .istore_n 3, 1, 3, 0, 0, []), (85, .aload_n 0, 1, 0, 0, 0, []), (86, .invokevirtual 262, 3, 188, 0, 0, [0, 16]), (89, .iconst 0, 1, 0, 0, 0, []), (90, .istore 4, 2, 4, 0, 0, []), (92, .iload 4, 2, 4, 0, 0, []), (94, .aload_n 0, 1, 0, 0, 0, []), (95, .invokevirtual 63, 3, 138, 0, 0, [1, 16]), (98, .if_icmp .ge 87, 3, 185, 0, 0, []), (101, .iconst 0, 1, 0, 0, 0, []), (102, .istore 5, 2, 5, 0, 0, []), (104, .iload 5, 2, 5, 0, 0, []), (106, .aload_n 0, 1, 0, 0, 0, []), (107, .iload 4, 2, 4, 0, 0, []), (109, .invokevirtual 70, 3, 142, 1, 0, [1, 16]), (112, .if_icmp .ge 67, 3, 179, 0, 0, []), (115, .aload_n 0, 1, 0, 0, 0, []), (116, .iload 4, 2, 4, 0, 0, []), (118, .iload 5, 2, 5, 0, 0, []), (120, .invokevirtual 73, 3, 144, 2, 0, [1, 16]), (123, .iload_n 1, 1, 1, 0, 0, []), (124, .if_icmp .le 20, 3, 144, 0, 0, []), (127, .aload_n 0, 1, 0, 0, 0, []), (128, .getfield 17, 3, 6, 2, 0, []), (131, .iload 4, 2, 4, 0, 0, []), (133, .iload 5, 2, 5, 0, 0, []), (135, .iconst 0, 1, 0, 0, 0, []), (136, .invokestatic 55, 3, 143, 3, 0, [1]), (139, .dup2, 1, 0, 0, 0, []), (140, .iaload, 1, 0, 0, 0, []), (141, .iload_n 2, 1, 2, 0, 0, []), (142, .iadd, 1, 0, 0, 0, []), (143, .iastore, 1, 0, 0, 0, []), (144, .aload_n 0, 1, 0, 0, 0, []), (145, .iload 4, 2, 4, 0, 0, []), (147, .iload 5, 2, 5, 0, 0, []), (149, .invokevirtual 76, 3, 145, 2, 0, [1, 16]), (152, .iload_n 1, 1, 1, 0, 0, []), (153, .if_icmp .le 20, 3, 173, 0, 0, []), (156, .aload_n 0, 1, 0, 0, 0, []), (157, .getfield 17, 3, 6, 2, 0, []), (160, .iload 4, 2, 4, 0, 0, []), (162, .iload 5, 2, 5, 0, 0, []), (164, .iconst 1, 1, 0, 0, 1, []), (165, .invokestatic 55, 3, 143, 3, 0, [1]), (168, .dup2, 1, 0, 0, 0, []), (169, .iaload, 1, 0, 0, 0, []), (170, .iload_n 2, 1, 2, 0, 0, []), (171, .iadd, 1, 0, 0, 0, []), (172, .iastore, 1, 0, 0, 0, []), (173, .iinc 5 1, 3, 5, 0, 1, []), (176, .goto (-72), 3, 104, 0, 0, []), (179, .iinc 4 1, 3, 4, 0, 1, []), (182, .goto (-90), 3, 92, 0, 0, []), (185, .iload_n 3, 1, 3, 0, 0, []), (186, .ireturn, 1, 0, 0, 0, [])]
def zK_X6_areLetters : List zEnt := [(0, .iload_n 0, 1, 0, 0, 0, []), (1, .istore_n 1, 1, 1, 0, 0, []), (2, .iconst 0, 1, 0, 0, 0, []), (3, .istore_n 2, 1, 2, 0, 0, []), (4, .iload_n 1, 1, 1, 0, 0, []), (5, .ifCond .le 29, 3, 34, 0, 0, []), (8, .iload_n 1, 1, 1, 0, 0, []), (9, .bipush 32, 2, 0, 0, 32, []), (11, .irem, 1, 0, 0, 0, []), (12, .iconst 1, 1, 0, 0, 1, []), (13, .bipush 26, 2, 0, 0, 26, []), (15, .invokestatic 157, 3, 137, 3, 0, [1]), (18, .ifCond .ne 5, 3, 23, 0, 0, []), (21, .iconst 0, 1, 0, 0, 0, []), (22, .ireturn, 1, 0, 0, 0, []), (23, .iload_n 1, 1, 1, 0, 0, []), (24, .bipush 32, 2, 0, 0, 32, []), (26, .idiv, 1, 0, 0, 0, []), (27, .istore_n 1, 1, 1, 0, 0, []), (28, .iinc 2 1, 3, 2, 0, 1, []), (31, .goto (-27), 3, 4, 0, 0, []), (34, .iload_n 0, 1, 0, 0, 0, []), (35, .ifCond .lt 12, 3, 47, 0, 0, []), (38, .iload_n 2, 1, 2, 0, 0, []), (39, .iconst 4, 1, 0, 0, 4, []), (40, .if_icmp .gt 7, 3, 47, 0, 0, []), (43, .iconst 1, 1, 0, 0, 1, []), (44, .goto 4, 3, 48, 0, 0, []), (47, .iconst 0, 1, 0, 0, 0, []), (48, .ireturn, 1, 0, 0, 0, [])]
def zK_X6_label : List zEnt := [(0, .aload_n 0, 1, 0, 0, 0, []), (1, .iconst 0, 1, 0, 0, 0, []), (2, .putfield 1, 3, 6, 0, 0, []), (5, .aload_n 0, 1, 0, 0, 0, []), (6, .iload_n 1, 1, 1, 0, 0, []), (7, .iload_n 2, 1, 2, 0, 0, []), (8, .invokevirtual 277, 3, 190, 2, 0, [1, 16]), (11, .ifCond .eq 16, 3, 27, 0, 0, []), (14, .aload_n 0, 1, 0, 0, 0, []), (15, .iload_n 3, 1, 3, 0, 0, []), (16, .invokestatic 311, 3, 209, 1, 0, [1]), (19, .iconst 2, 1, 0, 0, 2, []), (20, .iconst 1, 1, 0, 0, 1, []), (21, .invokevirtual 241, 3, 136, 3, 0, [1, 16]), (24, .ifCond .ne 5, 3, 29, 0, 0, []), (27, .iconst 0, 1, 0, 0, 0, []), (28, .ireturn, 1, 0, 0, 0, []), (29, .aload_n 0, 1, 0, 0, 0, []), (30, .invokevirtual 262, 3, 188, 0, 0, [0, 16]), (33, .aload_n 0, 1, 0, 0, 0, []), (34, .iload_n 1, 1, 1, 0, 0, []), (35, .iload_n 2, 1, 2, 0, 0, []), (36, .invokevirtual 103, 3, 146, 2, 0, [1, 16]), (39, .istore 4, 2, 4, 0, 0, []), (41, .aload_n 0, 1, 0, 0, 0, []), (42, .getfield 17, 3, 6, 2, 0, []), (45, .iload_n 1, 1, 1, 0, 0, []), (46, .iload_n 2, 1, 2, 0, 0, []), (47, .iconst 2, 1, 0, 0, 2, []), (48, .invokestatic 55, 3, 143, 3, 0, [1]), (51, .iload_n 3, 1, 3, 0, 0, []), (52, .iastore, 1, 0, 0, 0, []), (53, .iload 4, 2, 4, 0, 0, []), (55, .ireturn, 1, 0, 0, 0, [])]
def zK_X6_adopt : List zEnt := [(0, .aload_n 0, 1, 0, 0, 0, []), (1, .iconst 0, 1, 0, 0, 0, []), (2, .putfield 1, 3, 6, 0, 0, []), (5, .aload_n 0, 1, 0, 0, 0, []), (6, .iload_n 1, 1, 1, 0, 0, []), (7, .invokevirtual 259, 3, 189, 1, 0, [1, 16]), (10, .ifCond .ne 5, 3, 15, 0, 0, []), (13, .iconst 0, 1, 0, 0, 0, []), (14, .ireturn, 1, 0, 0, 0, []), (15, .aload_n 0, 1, 0, 0, 0, []), (16, .iload_n 1, 1, 1, 0, 0, []), (17, .invokevirtual 314, 3, 236, 1, 0, [1, 16]), (20, .istore_n 2, 1, 2, 0, 0, []), (21, .iload_n 2, 1, 2, 0, 0, []), (22, .iconst (-1), 1, 0, 0, -1, []), (23, .if_icmp .ne 5, 3, 28, 0, 0, []), (26, .iconst (-1), 1, 0, 0, -1, []), (27, .ireturn, 1, 0, 0, 0, []), (28, .iconst 0, 1, 0, 0, 0, []), (29, .istore_n 3, 1, 3, 0, 0, []), (30, .iconst 0, 1, 0, 0, 0, []), (31, .istore 4, 2, 4, 0, 0, []), (33, .iload 4, 2, 4, 0, 0, []), (35, .aload_n 0, 1, 0, 0, 0, []), (36, .iload_n 1, 1, 1, 0, 0, []), (37, .invokevirtual 70, 3, 142, 1, 0, [1, 16]), (40, .if_icmp .ge 28, 3, 68, 0, 0, []), (43, .iload_n 3, 1, 3, 0, 0, []), (44, .aload_n 0, 1, 0, 0, 0, []), (45, .iload_n 1, 1, 1, 0, 0, []), (46, .iload 4, 2, 4, 0, 0, []), (48, .iload_n 2, 1, 2, 0, 0, []), (49, .invokevirtual 317, 3, 212, 3, 0, [1, 16]), (52, .ifCond .le 7, 3, 59, 0, 0, []), (55, .iconst 1, 1, 0, 0, 1, []), (56, .goto 4, 3, 60, 0, 0, []), (59, .iconst 0, 1, 0, 0, 0, []), (60, .iadd, 1, 0, 0, 0, []), (61, .istore_n 3, 1, 3, 0, 0, []), (62, .iinc 4 1, 3, 4, 0, 1, []), (65, .goto (-32), 3, 33, 0, 0, []), (68, .iload_n 3, 1, 3, 0, 0, []), (69, .ifCond .ne 5, 3, 74, 0, 0, []), (72, .iconst 0, 1, 0, 0, 0, []), (73, .ireturn, 1, 0, 0, 0, []), (74, .aload_n 0, 1, 0, 0, 0, []), (75, .invokevirtual 262, 3, 188, 0, 0, [0, 16]), (78, .iconst 0, 1, 0, 0, 0, []), (79, .istore 4, 2, 4, 0, 0, []), (81, .iload 4, 2, 4, 0, 0, []), (83, .aload_n 0, 1, 0, 0, 0, []), (84, .iload_n 1, 1, 1, 0, 0, []), (85, .invokevirtual 70, 3, 142, 1, 0, [1, 16]), (88, .if_icmp .ge 40, 3, 128, 0, 0, []), (91, .aload_n 0, 1, 0, 0, 0, []), (92, .iload_n 1, 1, 1, 0, 0, []), (93, .iload 4, 2, 4, 0, 0, []), (95, .iload_n 2, 1, 2, 0, 0, []), (96, .invokevirtual 317, 3, 212, 3, 0, [1, 16]), (99, .ifCond .le 23, 3, 122, 0, 0, []), (102, .aload_n 0, 1, 0, 0, 0, []), (103, .getfield 17, 3, 6, 2, 0, []), (106, .iload_n 1, 1, 1, 0, 0, []), (107, .iload 4, 2, 4, 0, 0, []), (109, .iconst 2, 1, 0, 0, 2, []), (110, .invokestatic 55, 3, 143, 3, 0, [1]), (113, .aload_n 0, 1, 0, 0, 0, []), (114, .iload_n 1, 1, 1, 0, 0, []), (115, .iload 4, 2, 4, 0, 0, []), (117, .iload_n 2, 1, 2, 0, 0, []), (118, .invokevirtual 317, 3, 212, 3, 0, [1, 16]), (121, .iastore, 1, 0, 0, 0, []), (122, .iinc 4 1, 3, 4, 0, 1, []), (125, .goto (-44), 3, 81, 0, 0, []), (128, .iload_n 3, 1, 3, 0, 0, []), (129, .ireturn, 1, 0, 0, 0, [])]
def zK_X6_adopted : List zEnt := [(0, .aload_n 0, 1, 0, 0, 0, []), (1, .iload_n 1, 1, 1, 0, 0, []), (2, .iload_n 2, 1, 2, 0, 0, []), (3, .invokevirtual 103, 3, 146, 2, 0, [1, 16]), (6, .ifCond .eq 5, 3, 11, 0, 0, []), (9, .iconst 0, 1, 0, 0, 0, []), (10, .ireturn, 1, 0, 0, 0, []), (11, .iconst 0, 1, 0, 0, 0, []), (12, .istore 4, 2, 4, 0, 0, []), (14, .iload 4, 2, 4, 0, 0, []), (16, .aload_n 0, 1, 0, 0, 0, []), (17, .getfield 20, 3, 6, 3, 0, []), (20, .iload_n 3, 1, 3, 0, 0, []), (21, .iconst 2, 1, 0, 0, 2, []), (22, .invokestatic 51, 3, 139, 2, 0, [1]), (25, .iaload, 1, 0, 0, 0, []), (26, .if_icmp .ge 64, 3, 90, 0, 0, []), (29, .aload_n 0, 1, 0, 0, 0, []), (30, .getfield 20, 3, 6, 3, 0, []), (33, .iload_n 3, 1, 3, 0, 0, []), (34, .iload 4, 2, 4, 0, 0, []), (36, .iconst 0, 1, 0, 0, 0, []), (37, .invokestatic 55, 3, 143, 3, 0, [1]), (40, .iaload, 1, 0, 0, 0, []), (41, .aload_n 0, 1, 0, 0, 0, []), (42, .iload_n 1, 1, 1, 0, 0, []), (43, .iload_n 2, 1, 2, 0, 0, []), (44, .invokevirtual 73, 3, 144, 2, 0, [1, 16]), (47, .if_icmp .ne 37, 3, 84, 0, 0, []), (50, .aload_n 0, 1, 0, 0, 0, []), (51, .getfield 20, 3, 6, 3, 0, []), (54, .iload_n 3, 1, 3, 0, 0, []), (55, .iload 4, 2, 4, 0, 0, []), (57, .iconst 1, 1, 0, 0, 1, []), (58, .invokestatic 55, 3, 143, 3, 0, [1]), (61, .iaload, 1, 0, 0, 0, []), (62, .aload_n 0, 1, 0, 0, 0, []), (63, .iload_n 1, 1, 1, 0, 0, []), (64, .iload_n 2, 1, 2, 0, 0, []), (65, .invokevirtual 76, 3, 145, 2, 0, [1, 16]), (68, .if_icmp .ne 16, 3, 84, 0, 0, []), (71, .aload_n 0, 1, 0, 0, 0, []), (72, .getfield 20, 3, 6, 3, 0, []), (75, .iload_n 3, 1, 3, 0, 0, []), (76, .iload 4, 2, 4, 0, 0, []), (78, .iconst 2, 1, 0, 0, 2, []), (79, .invokestatic 55, 3, 143, 3, 0, [1]), (82, .iaload, 1, 0, 0, 0, []), (83, .ireturn, 1, 0, 0, 0, []), (84, .iinc 4 1, 3, 4, 0, 1, []), (87, .goto (-73), 3, 14, 0, 0, []), (90, .iconst 0, 1, 0, 0, 0, []), (91, .ireturn, 1, 0, 0, 0, [])]
def zK_X6_mayMove : List zEnt := [(0, .iload_n 3, 1, 3, 0, 0, []), (1, .aload_n 0, 1, 0, 0, 0, []), (2, .iload_n 1, 1, 1, 0, 0, []), (3, .iload_n 2, 1, 2, 0, 0, []), (4, .invokevirtual 320, 3, 201, 2, 0, [1, 16]), (7, .if_icmp .le 17, 3, 24, 0, 0, []), (10, .iload_n 3, 1, 3, 0, 0, []), (11, .aload_n 0, 1, 0, 0, 0, []), (12, .iload_n 1, 1, 1, 0, 0, []), (13, .iload_n 2, 1, 2, 0, 0, []), (14, .invokevirtual 323, 3, 202, 2, 0, [1, 16]), (17, .if_icmp .ge 7, 3, 24, 0, 0, []), (20, .iconst 1, 1, 0, 0, 1, []), (21, .goto 4, 3, 25, 0, 0, []), (24, .iconst 0, 1, 0, 0, 0, []), (25, .ireturn, 1, 0, 0, 0, [])]
def zK_X6_moves : List zEnt := [(0, .iconst 0, 1, 0, 0, 0, []), (1, .istore 4, 2, 4, 0, 0, []), (3, .iload 4, 2, 4, 0, 0, []), (5, .aload_n 0, 1, 0, 0, 0, []), (6, .invokevirtual 63, 3, 138, 0, 0, [1, 16]), (9, .if_icmp .ge 94, 3, 103, 0, 0, []), (12, .aload_n 0, 1, 0, 0, 0, []), (13, .iload 4, 2, 4, 0, 0, []), (15, .invokevirtual 67, 3, 148, 1, 0, [1, 16]), (18, .iload_n 1, 1, 1, 0, 0, []), (19, .if_icmp .eq 6, 3, 25, 0, 0, []), (22, .goto 75, 3, 97, 0, 0, []), (25, .iconst 0, 1, 0, 0, 0, []), (26, .istore 5, 2, 5, 0, 0, []), (28, .iload 5, 2, 5, 0, 0, []), (30, .aload_n 0, 1, 0, 0, 0, []), (31, .iload 4, 2, 4, 0, 0, []), (33, .invokevirtual 70, 3, 142, 1, 0, [1, 16]), (36, .if_icmp .ge 61, 3, 97, 0, 0, []), (39, .aload_n 0, 1, 0, 0, 0, []), (40, .iload 4, 2, 4, 0, 0, []), (42, .iload 5, 2, 5, 0, 0, []), (44, .invokevirtual 73, 3, 144, 2, 0, [1, 16]), (47, .iload_n 2, 1, 2, 0, 0, []), (48, .if_icmp .ne 17, 3, 65, 0, 0, []), (51, .aload_n 0, 1, 0, 0, 0, []), (52, .getfield 17, 3, 6, 2, 0, []), (55, .iload 4, 2, 4, 0, 0, []), (57, .iload 5, 2, 5, 0, 0, []), (59, .iconst 0, 1, 0, 0, 0, []), (60, .invokestatic 55, 3, 143, 3, 0, [1]), (63, .iload_n 3, 1, 3, 0, 0, []), (64, .iastore, 1, 0, 0, 0, []), (65, .aload_n 0, 1, 0, 0, 0, []), (66, .iload 4, 2, 4, 0, 0, []), (68, .iload 5, 2, 5, 0, 0, []), (70, .invokevirtual 76, 3, 145, 2, 0, [1, 16]), (73, .iload_n 2, 1, 2, 0, 0, []), (74, .if_icmp .ne 17, 3, 91, 0, 0, []), (77, .aload_n 0, 1, 0, 0, 0, []), (78, .getfield 17, 3, 6, 2, 0, []), (81, .iload 4, 2, 4, 0, 0, []), (83, .iload 5, 2, 5, 0, 0, []), (85, .iconst 1, 1, 0, 0, 1, []), (86, .invokestatic 55, 3, 143, 3, 0, [1]), (89, .iload_n 3, 1, 3, 0, 0, []), (90, .iastore, 1, 0, 0, 0, []), (91, .iinc 5 1, 3, 5, 0, 1, []), (94, .goto (-66), 3, 28, 0, 0, []), (97, .iinc 4 1, 3, 4, 0, 1, []), (100, .goto (-97), 3, 3, 0, 0, []), (103, .return_, 1, 0, 0, 0, [])]
def zK_X6_nearest : List zEnt := [(0, .iconst (-1), 1, 0, 0, -1, []), (1, .istore_n 3, 1, 3, 0, 0, []), (2, .iconst 0, 1, 0, 0, 0, []), (3, .istore 4, 2, 4, 0, 0, []), (5, .iload 4, 2, 4, 0, 0, []), (7, .iload_n 1, 1, 1, 0, 0, []), (8, .if_icmp .ge 37, 3, 45, 0, 0, []), (11, .iload_n 3, 1, 3, 0, 0, []), (12, .iconst (-1), 1, 0, 0, -1, []), (13, .if_icmp .eq 21, 3, 34, 0, 0, []), (16, .aload_n 0, 1, 0, 0, 0, []), (17, .iload 4, 2, 4, 0, 0, []), (19, .iaload, 1, 0, 0, 0, []), (20, .iload_n 2, 1, 2, 0, 0, []), (21, .isub, 1, 0, 0, 0, []), (22, .invokestatic 326, 3, 1002, 1, 0, []), (25, .iload_n 3, 1, 3, 0, 0, []), (26, .iload_n 2, 1, 2, 0, 0, []), (27, .isub, 1, 0, 0, 0, []), (28, .invokestatic 326, 3, 1002, 1, 0, []), (31, .if_icmp .ge 8, 3, 39, 0, 0, []), (34, .aload_n 0, 1, 0, 0, 0, []), (35, .iload 4, 2, 4, 0, 0, []), (37, .iaload, 1, 0, 0, 0, []), (38, .istore_n 3, 1, 3, 0, 0, []), (39, .iinc 4 1, 3, 4, 0, 1, []), (42, .goto (-37), 3, 5, 0, 0, []), (45, .iload_n 3, 1, 3, 0, 0, []), (46, .ireturn, 1, 0, 0, 0, [])]
def zK_X6_snap : List zEnt := [(0, .aload_n 0, 1, 0, 0, 0, []), (1, .iconst 0, 1, 0, 0, 0, []), (2, .putfield 1, 3, 6, 0, 0, []), (5, .aload_n 0, 1, 0, 0, 0, []), (6, .iload_n 1, 1, 1, 0, 0, []), (7, .invokevirtual 259, 3, 189, 1, 0, [1, 16]), (10, .ifCond .eq 20, 3, 30, 0, 0, []), (13, .aload_n 0, 1, 0, 0, 0, []), (14, .iload_n 2, 1, 2, 0, 0, []), (15, .iconst 1, 1, 0, 0, 1, []), (16, .sipush 999, 3, 0, 0, 999, []), (19, .invokestatic 157, 3, 137, 3, 0, [1]), (22, .iconst 2, 1, 0, 0, 2, []), (23, .iconst 1, 1, 0, 0, 1, []), (24, .invokevirtual 241, 3, 136, 3, 0, [1, 16]), (27, .ifCond .ne 5, 3, 32, 0, 0, []), (30, .iconst 0, 1, 0, 0, 0, []), (31, .ireturn, 1, 0, 0, 0, []), (32, .aload_n 0, 1, 0, 0, 0, []), (33, .iload_n 1, 1, 1, 0, 0, []), (34, .invokevirtual 314, 3, 236, 1, 0, [1, 16]), (37, .istore_n 3, 1, 3, 0, 0, []), (38, .iload_n 3, 1, 3, 0, 0, []), (39, .iconst (-1), 1, 0, 0, -1, []), (40, .if_icmp .ne 5, 3, 45, 0, 0, []), (43, .iconst (-1), 1, 0, 0, -1, []), (44, .ireturn, 1, 0, 0, 0, []), (45, .aload_n 0, 1, 0, 0, 0, []), (46, .getfield 17, 3, 6, 2, 0, []), (49, .iload_n 1, 1, 1, 0, 0, []), (50, .aload_n 0, 1, 0, 0, 0, []), (51, .getfield 39, 3, 6, 17, 0, []), (54, .invokestatic 329, 3, 239, 3, 0, [1]), (57, .istore 4, 2, 4, 0, 0, []), (59, .aload_n 0, 1, 0, 0, 0, []), (60, .getfield 20, 3, 6, 3, 0, []), (63, .iload_n 3, 1, 3, 0, 0, []), (64, .aload_n 0, 1, 0, 0, 0, []), (65, .getfield 42, 3, 6, 18, 0, []), (68, .invokestatic 329, 3, 239, 3, 0, [1]), (71, .istore 5, 2, 5, 0, 0, []), (73, .aload_n 0, 1, 0, 0, 0, []), (74, .getfield 17, 3, 6, 2, 0, []), (77, .aload_n 0, 1, 0, 0, 0, []), (78, .getfield 23, 3, 6, 4, 0, []), (81, .invokestatic 245, 3, 147, 2, 0, [0]), (84, .iconst 0, 1, 0, 0, 0, []), (85, .istore 6, 2, 6, 0, 0, []), (87, .iconst 0, 1, 0, 0, 0, []), (88, .istore 7, 2, 7, 0, 0, []), (90, .iload 7, 2, 7, 0, 0, []), (92, .iload 4, 2, 4, 0, 0, []), (94, .if_icmp .ge 107, 3, 201, 0, 0, []), (97, .aload_n 0, 1, 0, 0, 0, []), (98, .getfield 42, 3, 6, 18, 0, []), (101, .iload 5, 2, 5, 0, 0, []), (103, .aload_n 0, 1, 0, 0, 0, []), (104, .getfield 39, 3, 6, 17, 0, []), (107, .iload 7, 2, 7, 0, 0, []), (109, .iaload, 1, 0, 0, 0, []), (110, .invokestatic 333, 3, 215, 3, 0, [1]), (113, .istore 8, 2, 8, 0, 0, []), (115, .iload 8, 2, 8, 0, 0, []), (117, .iconst (-1), 1, 0, 0, -1, []), (118, .if_icmp .eq 77, 3, 195, 0, 0, []), (121, .iload 8, 2, 8, 0, 0, []), (123, .aload_n 0, 1, 0, 0, 0, []), (124, .getfield 39, 3, 6, 17, 0, []), (127, .iload 7, 2, 7, 0, 0, []), (129, .iaload, 1, 0, 0, 0, []), (130, .if_icmp .eq 65, 3, 195, 0, 0, []), (133, .iload 8, 2, 8, 0, 0, []), (135, .aload_n 0, 1, 0, 0, 0, []), (136, .getfield 39, 3, 6, 17, 0, []), (139, .iload 7, 2, 7, 0, 0, []), (141, .iaload, 1, 0, 0, 0, []), (142, .isub, 1, 0, 0, 0, []), (143, .invokestatic 326, 3, 1002, 1, 0, []), (146, .iload_n 2, 1, 2, 0, 0, []), (147, .if_icmp .gt 48, 3, 195, 0, 0, []), (150, .aload_n 0, 1, 0, 0, 0, []), (151, .aload_n 0, 1, 0, 0, 0, []), (152, .iload_n 1, 1, 1, 0, 0, []), (153, .invokevirtual 67, 3, 148, 1, 0, [1, 16]), (156, .aload_n 0, 1, 0, 0, 0, []), (157, .getfield 39, 3, 6, 17, 0, []), (160, .iload 7, 2, 7, 0, 0, []), (162, .iaload, 1, 0, 0, 0, []), (163, .iload 8, 2, 8, 0, 0, []), (165, .invokevirtual 292, 3, 213, 3, 0, [1, 16]), (168, .ifCond .ne 6, 3, 174, 0, 0, []), (171, .goto 24, 3, 195, 0, 0, []), (174, .aload_n 0, 1, 0, 0, 0, []), (175, .aload_n 0, 1, 0, 0, 0, []), (176, .iload_n 1, 1, 1, 0, 0, []), (177, .invokevirtual 67, 3, 148, 1, 0, [1, 16]), (180, .aload_n 0, 1, 0, 0, 0, []), (181, .getfield 39, 3, 6, 17, 0, []), (184, .iload 7, 2, 7, 0, 0, []), (186, .iaload, 1, 0, 0, 0, []), (187, .iload 8, 2, 8, 0, 0, []), (189, .invokevirtual 298, 3, 214, 3, 0, [0, 16]), (192, .iinc 6 1, 3, 6, 0, 1, []), (195, .iinc 7 1, 3, 7, 0, 1, []), (198, .goto (-108), 3, 90, 0, 0, []), (201, .iload 6, 2, 6, 0, 0, []), (203, .ifCond .ne 5, 3, 208, 0, 0, []), (206, .iconst 0, 1, 0, 0, 0, []), (207, .ireturn, 1, 0, 0, 0, []), (208, .aload_n 0, 1, 0, 0, 0, []), (209, .invokevirtual 262, 3, 188, 0, 0, [0, 16]), (212, .iconst 0, 1, 0, 0, 0, []), (213, .istore 7, 2, 7, 0, 0, []), (215, .iload 7, 2, 7, 0, 0, []), (217, .sipush 745, 3, 0, 0, 745, []), (220, .if_icmp .ge 34, 3, 254, 0, 0, []), (223, .aload_n 0, 1, 0, 0, 0, []), (224, .getfield 26, 3, 6, 5, 0, []), (227, .sipush 745, 3, 0, 0, 745, []), (230, .aload_n 0, 1, 0, 0, 0, []), (231, .getfield 252, 3, 6, 6, 0, []), (234, .iconst 1, 1, 0, 0, 1, []), (235, .isub, 1, 0, 0, 0, []), (236, .imul, 1, 0, 0, 0, []), (237, .iload 7, 2, 7, 0, 0, []), (239, .iadd, 1, 0, 0, 0, []), (240, .aload_n 0, 1, 0, 0, 0, []), (241, .getfield 23, 3, 6, 4, 0, []), (244, .iload 7, 2, 7, 0, 0, []), (246, .iaload, 1, 0, 0, 0, []), (247, .iastore, 1, 0, 0, 0, []), (248, .iinc 7 1, 3, 7, 0, 1, []), (251, .goto (-36), 3, 215, 0, 0, []), (254, .iload 6, 2, 6, 0, 0, []), (256, .ireturn, 1, 0, 0, 0, [])]
def zK_X6_gaps : List zEnt := [(0, .aload_n 0, 1, 0, 0, 0, []), (1, .iconst 0, 1, 0, 0, 0, []), (2, .putfield 1, 3, 6, 0, 0, []), (5, .aload_n 0, 1, 0, 0, 0, []), (6, .iload_n 1, 1, 1, 0, 0, []), (7, .invokevirtual 259, 3, 189, 1, 0, [1, 16]), (10, .ifCond .eq 18, 3, 28, 0, 0, []), (13, .aload_n 0, 1, 0, 0, 0, []), (14, .iload_n 2, 1, 2, 0, 0, []), (15, .iconst 0, 1, 0, 0, 0, []), (16, .iconst 3, 1, 0, 0, 3, []), (17, .invokestatic 157, 3, 137, 3, 0, [1]), (20, .iconst 2, 1, 0, 0, 2, []), (21, .iconst 1, 1, 0, 0, 1, []), (22, .invokevirtual 241, 3, 136, 3, 0, [1, 16]), (25, .ifCond .ne 5, 3, 30, 0, 0, []), (28, .iconst 0, 1, 0, 0, 0, []), (29, .ireturn, 1, 0, 0, 0, []), (30, .iconst 0, 1, 0, 0, 0, []), (31, .istore_n 3, 1, 3, 0, 0, []), (32, .iconst (-1), 1, 0, 0, -1, []), (33, .istore 4, 2, 4, 0, 0, []), (35, .iconst 0, 1, 0, 0, 0, []), (36, .istore 5, 2, 5, 0, 0, []), (38, .iconst 0, 1, 0, 0, 0, []), (39, .istore 6, 2, 6, 0, 0, []), (41, .iconst 0, 1, 0, 0, 0, []), (42, .istore 7, 2, 7, 0, 0, []), (44, .iload 7, 2, 7, 0, 0, []), (46, .iconst 1, 1, 0, 0, 1, []), (47, .iadd, 1, 0, 0, 0, []), (48, .aload_n 0, 1, 0, 0, 0, []), (49, .iload_n 1, 1, 1, 0, 0, []), (50, .invokevirtual 70, 3, 142, 1, 0, [1, 16]), (53, .if_icmp .ge 92, 3, 145, 0, 0, []), (56, .aload_n 0, 1, 0, 0, 0, []), (57, .iload_n 1, 1, 1, 0, 0, []), (58, .invokevirtual 79, 3, 140, 1, 0, [1, 16]), (61, .iconst 3, 1, 0, 0, 3, []), (62, .if_icmp .eq 83, 3, 145, 0, 0, []), (65, .aload_n 0, 1, 0, 0, 0, []), (66, .iload_n 1, 1, 1, 0, 0, []), (67, .iload 7, 2, 7, 0, 0, []), (69, .iconst 1, 1, 0, 0, 1, []), (70, .iadd, 1, 0, 0, 0, []), (71, .invokevirtual 73, 3, 144, 2, 0, [1, 16]), (74, .aload_n 0, 1, 0, 0, 0, []), (75, .iload_n 1, 1, 1, 0, 0, []), (76, .iload 7, 2, 7, 0, 0, []), (78, .invokevirtual 76, 3, 145, 2, 0, [1, 16]), (81, .isub, 1, 0, 0, 0, []), (82, .istore 8, 2, 8, 0, 0, []), (84, .iload 8, 2, 8, 0, 0, []), (86, .ifCond .eq 53, 3, 139, 0, 0, []), (89, .aload_n 0, 1, 0, 0, 0, []), (90, .iload_n 1, 1, 1, 0, 0, []), (91, .iload 7, 2, 7, 0, 0, []), (93, .invokevirtual 265, 3, 194, 2, 0, [1, 16]), (96, .aload_n 0, 1, 0, 0, 0, []), (97, .iload_n 1, 1, 1, 0, 0, []), (98, .iload 7, 2, 7, 0, 0, []), (100, .iconst 1, 1, 0, 0, 1, []), (101, .iadd, 1, 0, 0, 0, []), (102, .invokevirtual 265, 3, 194, 2, 0, [1, 16]), (105, .if_icmp .eq 6, 3, 111, 0, 0, []), (108, .goto 31, 3, 139, 0, 0, []), (111, .iinc 3 1, 3, 3, 0, 1, []), (114, .iload 6, 2, 6, 0, 0, []), (116, .iload 8, 2, 8, 0, 0, []), (118, .iadd, 1, 0, 0, 0, []), (119, .istore 6, 2, 6, 0, 0, []), (121, .iload 8, 2, 8, 0, 0, []), (123, .iload 5, 2, 5, 0, 0, []), (125, .if_icmp .gt 6, 3, 131, 0, 0, []), (128, .goto 11, 3, 139, 0, 0, []), (131, .iload 7, 2, 7, 0, 0, []), (133, .istore 4, 2, 4, 0, 0, []), (135, .iload 8, 2, 8, 0, 0, []), (137, .istore 5, 2, 5, 0, 0, []), (139, .iinc 7 1, 3, 7, 0, 1, []), (142, .goto (-98), 3, 44, 0, 0, []), (145, .iload_n 2, 1, 2, 0, 0, []), (146, .ifCond .ne 7, 3, 153, 0, 0, []), (149, .iload_n 3, 1, 3, 0, 0, []), (150, .goto 25, 3, 175, 0, 0, []), (153, .iload_n 2, 1, 2, 0, 0, []), (154, .iconst 1, 1, 0, 0, 1, []), (155, .if_icmp .ne 8, 3, 163, 0, 0, []), (158, .iload 4, 2, 4, 0, 0, []), (160, .goto 15, 3, 175, 0, 0, []), (163, .iload_n 2, 1, 2, 0, 0, []), (164, .iconst 2, 1, 0, 0, 2, []), (165, .if_icmp .ne 8, 3, 173, 0, 0, []), (168, .iload 5, 2, 5, 0, 0, []), (170, .goto 5, 3, 175, 0, 0, []), (173, .iload 6, 2, 6, 0, 0, []), (175, .ireturn, 1, 0, 0, 0, [])]
def zK_X6_undo : List zEnt := [(0, .aload_n 0, 1, 0, 0, 0, []), (1, .iconst 0, 1, 0, 0, 0, []), (2, .putfield 1, 3, 6, 0, 0, []), (5, .aload_n 0, 1, 0, 0, 0, []), (6, .getfield 252, 3, 6, 6, 0, []), (9, .ifCond .ne 5, 3, 14, 0, 0, []), (12, .iconst (-1), 1, 0, 0, -1, []), (13, .ireturn, 1, 0, 0, 0, []), (14, .aload_n 0, 1, 0, 0, 0, []), (15, .dup, 1, 0, 0, 0, []), (16, .getfield 252, 3, 6, 6, 0, []), (19, .iconst 1, 1, 0, 0, 1, []), (20, .isub, 1, 0, 0, 0, []), (21, .putfield 252, 3, 6, 6, 0, []), (24, .iconst 0, 1, 0, 0, 0, []), (25, .istore_n 1, 1, 1, 0, 0, []), (26, .iload_n 1, 1, 1, 0, 0, []), (27, .sipush 745, 3, 0, 0, 745, []), (30, .if_icmp .ge 30, 3, 60, 0, 0, []), (33, .aload_n 0, 1, 0, 0, 0, []), (34, .getfield 17, 3, 6, 2, 0, []), (37, .iload_n 1, 1, 1, 0, 0, []), (38, .aload_n 0, 1, 0, 0, 0, []), (39, .getfield 26, 3, 6, 5, 0, []), (42, .sipush 745, 3, 0, 0, 745, []), (45, .aload_n 0, 1, 0, 0, 0, []), (46, .getfield 252, 3, 6, 6, 0, []), (49, .imul, 1, 0, 0, 0, []), (50, .iload_n 1, 1, 1, 0, 0, []), (51, .iadd, 1, 0, 0, 0, []), (52, .iaload, 1, 0, 0, 0, []), (53, .iastore, 1, 0, 0, 0, []), (54, .iinc 1 1, 3, 1, 0, 1, []), (57, .goto (-31), 3, 26, 0, 0, []), (60, .aload_n 0, 1, 0, 0, 0, []), (61, .getfield 252, 3, 6, 6, 0, []), (64, .ireturn, 1, 0, 0, 0, [])]
def zK_X6_keep : List zEnt := [(0, .aload_n 0, 1, 0, 0, 0, []), (1, .iconst 0, 1, 0, 0, 0, []), (2, .putfield 1, 3, 6, 0, 0, []), (5, .aload_n 0, 1, 0, 0, 0, []), (6, .getfield 17, 3, 6, 2, 0, []), (9, .aload_n 0, 1, 0, 0, 0, []), (10, .getfield 20, 3, 6, 3, 0, []), (13, .invokestatic 245, 3, 147, 2, 0, [0]), (16, .aload_n 0, 1, 0, 0, 0, []), (17, .iconst 1, 1, 0, 0, 1, []), (18, .putfield 337, 3, 6, 7, 0, []), (21, .aload_n 0, 1, 0, 0, 0, []), (22, .aload_n 0, 1, 0, 0, 0, []), (23, .getfield 17, 3, 6, 2, 0, []), (26, .invokevirtual 255, 3, 185, 1, 0, [1, 16]), (29, .ireturn, 1, 0, 0, 0, [])]
def zK_X6_families : List zEnt := [(0, .iconst 0, 1, 0, 0, 0, []), (1, .istore_n 1, 1, 1, 0, 0, []), (2, .iconst 0, 1, 0, 0, 0, []), (3, .istore_n 2, 1, 2, 0, 0, []), (4, .iload_n 2, 1, 2, 0, 0, []), (5, .aload_n 0, 1, 0, 0, 0, []), (6, .invokevirtual 63, 3, 138, 0, 0, [1, 16]), (9, .if_icmp .ge 26, 3, 35, 0, 0, []), (12, .iload_n 1, 1, 1, 0, 0, []), (13, .aload_n 0, 1, 0, 0, 0, []), (14, .iload_n 2, 1, 2, 0, 0, []), (15, .invokevirtual 59, 3, 141, 1, 0, [1, 16]), (18, .iconst (-1), 1, 0, 0, -1, []), (19, .if_icmp .ne 7, 3, 26, 0, 0, []), (22, .iconst 1, 1, 0, 0, 1, []), (23, .goto 4, 3, 27, 0, 0, []), (26, .iconst 0, 1, 0, 0, 0, []), (27, .iadd, 1, 0, 0, 0, []), (28, .istore_n 1, 1, 1, 0, 0, []), (29, .iinc 2 1, 3, 2, 0, 1, []), (32, .goto (-28), 3, 4, 0, 0, []), (35, .iload_n 1, 1, 1, 0, 0, []), (36, .ireturn, 1, 0, 0, 0, [])]
def zK_X6_told : List zEnt := [(0, .aload_n 0, 1, 0, 0, 0, []), (1, .iconst 0, 1, 0, 0, 0, []), (2, .putfield 1, 3, 6, 0, 0, []), (5, .aload_n 0, 1, 0, 0, 0, []), (6, .iload_n 1, 1, 1, 0, 0, []), (7, .iconst 0, 1, 0, 0, 0, []), (8, .iconst 5, 1, 0, 0, 5, []), (9, .invokestatic 157, 3, 137, 3, 0, [1]), (12, .iconst 1, 1, 0, 0, 1, []), (13, .iconst 1, 1, 0, 0, 1, []), (14, .invokevirtual 241, 3, 136, 3, 0, [1, 16]), (17, .ifCond .ne 5, 3, 22, 0, 0, []), (20, .iconst 0, 1, 0, 0, 0, []), (21, .ireturn, 1, 0, 0, 0, []), (22, .iload_n 1, 1, 1, 0, 0, []), (23, .tableswitch 62 0 4 #[33, 38, 47, 52, 57], 33, 85, 0, 0, [56, 61, 70, 75, 80]), (56, .aload_n 0, 1, 0, 0, 0, []), (57, .invokevirtual 63, 3, 138, 0, 0, [1, 16]), (60, .ireturn, 1, 0, 0, 0, []), (61, .aload_n 0, 1, 0, 0, 0, []), (62, .aload_n 0, 1, 0, 0, 0, []), (63, .getfield 17, 3, 6, 2, 0, []), (66, .invokevirtual 255, 3, 185, 1, 0, [1, 16]), (69, .ireturn, 1, 0, 0, 0, []), (70, .aload_n 0, 1, 0, 0, 0, []), (71, .invokevirtual 341, 3, 220, 0, 0, [1, 16]), (74, .ireturn, 1, 0, 0, 0, []), (75, .aload_n 0, 1, 0, 0, 0, []), (76, .getfield 252, 3, 6, 6, 0, []), (79, .ireturn, 1, 0, 0, 0, []), (80, .aload_n 0, 1, 0, 0, 0, []), (81, .getfield 109, 3, 6, 10, 0, []), (84, .ireturn, 1, 0, 0, 0, []), (85, .aload_n 0, 1, 0, 0, 0, []), (86, .getfield 337, 3, 6, 7, 0, []), (89, .ifCond .eq 14, 3, 103, 0, 0, []), (92, .aload_n 0, 1, 0, 0, 0, []), (93, .aload_n 0, 1, 0, 0, 0, []), (94, .getfield 20, 3, 6, 3, 0, []), (97, .invokevirtual 255, 3, 185, 1, 0, [1, 16]), (100, .goto 4, 3, 104, 0, 0, []), (103, .iconst (-1), 1, 0, 0, -1, []), (104, .ireturn, 1, 0, 0, 0, [])]
def zK_X6_timeOf : List zEnt := [(0, .iconst 0, 1, 0, 0, 0, []), (1, .istore_n 2, 1, 2, 0, 0, []), (2, .iconst 0, 1, 0, 0, 0, []), (3, .istore_n 3, 1, 3, 0, 0, []), (4, .iload_n 3, 1, 3, 0, 0, []), (5, .aload_n 0, 1, 0, 0, 0, []), (6, .iload_n 1, 1, 1, 0, 0, []), (7, .invokevirtual 70, 3, 142, 1, 0, [1, 16]), (10, .if_icmp .ge 25, 3, 35, 0, 0, []), (13, .iload_n 2, 1, 2, 0, 0, []), (14, .aload_n 0, 1, 0, 0, 0, []), (15, .iload_n 1, 1, 1, 0, 0, []), (16, .iload_n 3, 1, 3, 0, 0, []), (17, .invokevirtual 76, 3, 145, 2, 0, [1, 16]), (20, .aload_n 0, 1, 0, 0, 0, []), (21, .iload_n 1, 1, 1, 0, 0, []), (22, .iload_n 3, 1, 3, 0, 0, []), (23, .invokevirtual 73, 3, 144, 2, 0, [1, 16]), (26, .isub, 1, 0, 0, 0, []), (27, .iadd, 1, 0, 0, 0, []), (28, .istore_n 2, 1, 2, 0, 0, []), (29, .iinc 3 1, 3, 3, 0, 1, []), (32, .goto (-28), 3, 4, 0, 0, []), (35, .iload_n 2, 1, 2, 0, 0, []), (36, .ireturn, 1, 0, 0, 0, [])]
def zK_X6_childMany : List zEnt := [(0, .iconst 0, 1, 0, 0, 0, []), (1, .istore_n 2, 1, 2, 0, 0, []), (2, .iconst 0, 1, 0, 0, 0, []), (3, .istore_n 3, 1, 3, 0, 0, []), (4, .iload_n 3, 1, 3, 0, 0, []), (5, .aload_n 0, 1, 0, 0, 0, []), (6, .invokevirtual 63, 3, 138, 0, 0, [1, 16]), (9, .if_icmp .ge 26, 3, 35, 0, 0, []), (12, .iload_n 2, 1, 2, 0, 0, []), (13, .aload_n 0, 1, 0, 0, 0, []), (14, .iload_n 3, 1, 3, 0, 0, []), (15, .invokevirtual 59, 3, 141, 1, 0, [1, 16]), (18, .iload_n 1, 1, 1, 0, 0, []), (19, .if_icmp .ne 7, 3, 26, 0, 0, []), (22, .iconst 1, 1, 0, 0, 1, []), (23, .goto 4, 3, 27, 0, 0, []), (26, .iconst 0, 1, 0, 0, 0, []), (27, .iadd, 1, 0, 0, 0, []), (28, .istore_n 2, 1, 2, 0, 0, []), (29, .iinc 3 1, 3, 3, 0, 1, []), (32, .goto (-28), 3, 4, 0, 0, []), (35, .iload_n 2, 1, 2, 0, 0, []), (36, .ireturn, 1, 0, 0, 0, [])]
def zK_X6_stopMany : List zEnt := [(0, .iconst 0, 1, 0, 0, 0, []), (1, .istore_n 2, 1, 2, 0, 0, []), (2, .iconst 0, 1, 0, 0, 0, []), (3, .istore_n 3, 1, 3, 0, 0, []), (4, .iload_n 3, 1, 3, 0, 0, []), (5, .sipush 999, 3, 0, 0, 999, []), (8, .if_icmp .gt 26, 3, 34, 0, 0, []), (11, .iload_n 2, 1, 2, 0, 0, []), (12, .aload_n 0, 1, 0, 0, 0, []), (13, .iload_n 1, 1, 1, 0, 0, []), (14, .iload_n 3, 1, 3, 0, 0, []), (15, .invokevirtual 286, 3, 151, 2, 0, [1, 16]), (18, .ifCond .eq 7, 3, 25, 0, 0, []), (21, .iconst 1, 1, 0, 0, 1, []), (22, .goto 4, 3, 26, 0, 0, []), (25, .iconst 0, 1, 0, 0, 0, []), (26, .iadd, 1, 0, 0, 0, []), (27, .istore_n 2, 1, 2, 0, 0, []), (28, .iinc 3 1, 3, 3, 0, 1, []), (31, .goto (-27), 3, 4, 0, 0, []), (34, .iload_n 2, 1, 2, 0, 0, []), (35, .ireturn, 1, 0, 0, 0, [])]
def zK_X6_tier : List zEnt := [(0, .aload_n 0, 1, 0, 0, 0, []), (1, .iconst 0, 1, 0, 0, 0, []), (2, .putfield 1, 3, 6, 0, 0, []), (5, .aload_n 0, 1, 0, 0, 0, []), (6, .iload_n 1, 1, 1, 0, 0, []), (7, .invokevirtual 259, 3, 189, 1, 0, [1, 16]), (10, .ifCond .eq 19, 3, 29, 0, 0, []), (13, .aload_n 0, 1, 0, 0, 0, []), (14, .iload_n 2, 1, 2, 0, 0, []), (15, .iconst 0, 1, 0, 0, 0, []), (16, .bipush 8, 2, 0, 0, 8, []), (18, .invokestatic 157, 3, 137, 3, 0, [1]), (21, .iconst 2, 1, 0, 0, 2, []), (22, .iconst 1, 1, 0, 0, 1, []), (23, .invokevirtual 241, 3, 136, 3, 0, [1, 16]), (26, .ifCond .ne 5, 3, 31, 0, 0, []), (29, .iconst 0, 1, 0, 0, 0, []), (30, .ireturn, 1, 0, 0, 0, []), (31, .iload_n 2, 1, 2, 0, 0, []), (32, .tableswitch 100 0 7 #[48, 54, 60, 66, 72, 78, 84, 90], 48, 132, 0, 0, [80, 86, 92, 98, 104, 110, 116, 122]), (80, .aload_n 0, 1, 0, 0, 0, []), (81, .iload_n 1, 1, 1, 0, 0, []), (82, .invokevirtual 79, 3, 140, 1, 0, [1, 16]), (85, .ireturn, 1, 0, 0, 0, []), (86, .aload_n 0, 1, 0, 0, 0, []), (87, .iload_n 1, 1, 1, 0, 0, []), (88, .invokevirtual 59, 3, 141, 1, 0, [1, 16]), (91, .ireturn, 1, 0, 0, 0, []), (92, .aload_n 0, 1, 0, 0, 0, []), (93, .iload_n 1, 1, 1, 0, 0, []), (94, .invokevirtual 70, 3, 142, 1, 0, [1, 16]), (97, .ireturn, 1, 0, 0, 0, []), (98, .aload_n 0, 1, 0, 0, 0, []), (99, .iload_n 1, 1, 1, 0, 0, []), (100, .invokevirtual 344, 3, 149, 1, 0, [1, 16]), (103, .ireturn, 1, 0, 0, 0, []), (104, .aload_n 0, 1, 0, 0, 0, []), (105, .iload_n 1, 1, 1, 0, 0, []), (106, .invokevirtual 67, 3, 148, 1, 0, [1, 16]), (109, .ireturn, 1, 0, 0, 0, []), (110, .aload_n 0, 1, 0, 0, 0, []), (111, .iload_n 1, 1, 1, 0, 0, []), (112, .invokevirtual 347, 3, 222, 1, 0, [1, 16]), (115, .ireturn, 1, 0, 0, 0, []), (116, .aload_n 0, 1, 0, 0, 0, []), (117, .iload_n 1, 1, 1, 0, 0, []), (118, .invokevirtual 350, 3, 223, 1, 0, [1, 16]), (121, .ireturn, 1, 0, 0, 0, []), (122, .aload_n 0, 1, 0, 0, 0, []), (123, .aload_n 0, 1, 0, 0, 0, []), (124, .iload_n 1, 1, 1, 0, 0, []), (125, .invokevirtual 67, 3, 148, 1, 0, [1, 16]), (128, .invokevirtual 353, 3, 224, 1, 0, [1, 16]), (131, .ireturn, 1, 0, 0, 0, []), (132, .aload_n 0, 1, 0, 0, 0, []), (133, .getfield 17, 3, 6, 2, 0, []), (136, .iload_n 1, 1, 1, 0, 0, []), (137, .iconst 3, 1, 0, 0, 3, []), (138, .invokestatic 51, 3, 139, 2, 0, [1]), (141, .iaload, 1, 0, 0, 0, []), (142, .ireturn, 1, 0, 0, 0, [])]
def zK_X6_lieIn : List zEnt := [(0, .iconst 0, 1, 0, 0, 0, []), (1, .istore_n 3, 1, 3, 0, 0, []), (2, .iconst 0, 1, 0, 0, 0, []), (3, .istore 4, 2, 4, 0, 0, []), (5, .iload 4, 2, 4, 0, 0, []), (7, .aload_n 0, 1, 0, 0, 0, []), (8, .invokevirtual 63, 3, 138, 0, 0, [1, 16]), (11, .if_icmp .ge 62, 3, 73, 0, 0, []), (14, .aload_n 0, 1, 0, 0, 0, []), (15, .iload 4, 2, 4, 0, 0, []), (17, .invokevirtual 59, 3, 141, 1, 0, [1, 16]), (20, .iload_n 1, 1, 1, 0, 0, []), (21, .if_icmp .eq 6, 3, 27, 0, 0, []), (24, .goto 43, 3, 67, 0, 0, []), (27, .iconst 0, 1, 0, 0, 0, []), (28, .istore 5, 2, 5, 0, 0, []), (30, .iload 5, 2, 5, 0, 0, []), (32, .aload_n 0, 1, 0, 0, 0, []), (33, .iload 4, 2, 4, 0, 0, []), (35, .invokevirtual 70, 3, 142, 1, 0, [1, 16]), (38, .if_icmp .ge 29, 3, 67, 0, 0, []), (41, .iload_n 3, 1, 3, 0, 0, []), (42, .aload_n 0, 1, 0, 0, 0, []), (43, .iload 4, 2, 4, 0, 0, []), (45, .iload 5, 2, 5, 0, 0, []), (47, .invokevirtual 265, 3, 194, 2, 0, [1, 16]), (50, .iload_n 2, 1, 2, 0, 0, []), (51, .if_icmp .ne 7, 3, 58, 0, 0, []), (54, .iconst 1, 1, 0, 0, 1, []), (55, .goto 4, 3, 59, 0, 0, []), (58, .iconst 0, 1, 0, 0, 0, []), (59, .iadd, 1, 0, 0, 0, []), (60, .istore_n 3, 1, 3, 0, 0, []), (61, .iinc 5 1, 3, 5, 0, 1, []), (64, .goto (-34), 3, 30, 0, 0, []), (67, .iinc 4 1, 3, 4, 0, 1, []), (70, .goto (-65), 3, 5, 0, 0, []), (73, .iload_n 3, 1, 3, 0, 0, []), (74, .ireturn, 1, 0, 0, 0, [])]
def zK_X6_mark : List zEnt := [(0, .aload_n 0, 1, 0, 0, 0, []), (1, .iconst 0, 1, 0, 0, 0, []), (2, .putfield 1, 3, 6, 0, 0, []), (5, .aload_n 0, 1, 0, 0, 0, []), (6, .iload_n 1, 1, 1, 0, 0, []), (7, .iload_n 2, 1, 2, 0, 0, []), (8, .invokevirtual 277, 3, 190, 2, 0, [1, 16]), (11, .ifCond .eq 19, 3, 30, 0, 0, []), (14, .aload_n 0, 1, 0, 0, 0, []), (15, .iload_n 3, 1, 3, 0, 0, []), (16, .iconst 0, 1, 0, 0, 0, []), (17, .bipush 6, 2, 0, 0, 6, []), (19, .invokestatic 157, 3, 137, 3, 0, [1]), (22, .iconst 2, 1, 0, 0, 2, []), (23, .iconst 1, 1, 0, 0, 1, []), (24, .invokevirtual 241, 3, 136, 3, 0, [1, 16]), (27, .ifCond .ne 5, 3, 32, 0, 0, []), (30, .iconst 0, 1, 0, 0, 0, []), (31, .ireturn, 1, 0, 0, 0, []), (32, .iload_n 3, 1, 3, 0, 0, []), (33, .tableswitch 90 0 5 #[39, 46, 53, 60, 67, 74], 39, 123, 0, 0, [72, 79, 86, 93, 100, 107]), (72, .aload_n 0, 1, 0, 0, 0, []), (73, .iload_n 1, 1, 1, 0, 0, []), (74, .iload_n 2, 1, 2, 0, 0, []), (75, .invokevirtual 73, 3, 144, 2, 0, [1, 16]), (78, .ireturn, 1, 0, 0, 0, []), (79, .aload_n 0, 1, 0, 0, 0, []), (80, .iload_n 1, 1, 1, 0, 0, []), (81, .iload_n 2, 1, 2, 0, 0, []), (82, .invokevirtual 76, 3, 145, 2, 0, [1, 16]), (85, .ireturn, 1, 0, 0, 0, []), (86, .aload_n 0, 1, 0, 0, 0, []), (87, .iload_n 1, 1, 1, 0, 0, []), (88, .iload_n 2, 1, 2, 0, 0, []), (89, .invokevirtual 103, 3, 146, 2, 0, [1, 16]), (92, .ireturn, 1, 0, 0, 0, []), (93, .aload_n 0, 1, 0, 0, 0, []), (94, .iload_n 1, 1, 1, 0, 0, []), (95, .iload_n 2, 1, 2, 0, 0, []), (96, .invokevirtual 265, 3, 194, 2, 0, [1, 16]), (99, .ireturn, 1, 0, 0, 0, []), (100, .aload_n 0, 1, 0, 0, 0, []), (101, .iload_n 1, 1, 1, 0, 0, []), (102, .iload_n 2, 1, 2, 0, 0, []), (103, .invokevirtual 356, 3, 226, 2, 0, [1, 16]), (106, .ireturn, 1, 0, 0, 0, []), (107, .aload_n 0, 1, 0, 0, 0, []), (108, .aload_n 0, 1, 0, 0, 0, []), (109, .iload_n 1, 1, 1, 0, 0, []), (110, .invokevirtual 67, 3, 148, 1, 0, [1, 16]), (113, .aload_n 0, 1, 0, 0, 0, []), (114, .iload_n 1, 1, 1, 0, 0, []), (115, .iload_n 2, 1, 2, 0, 0, []), (116, .invokevirtual 73, 3, 144, 2, 0, [1, 16]), (119, .invokevirtual 295, 3, 204, 2, 0, [1, 16]), (122, .ireturn, 1, 0, 0, 0, []), (123, .aload_n 0, 1, 0, 0, 0, []), (124, .aload_n 0, 1, 0, 0, 0, []), (125, .iload_n 1, 1, 1, 0, 0, []), (126, .invokevirtual 67, 3, 148, 1, 0, [1, 16]), (129, .aload_n 0, 1, 0, 0, 0, []), (130, .iload_n 1, 1, 1, 0, 0, []), (131, .iload_n 2, 1, 2, 0, 0, []), (132, .invokevirtual 76, 3, 145, 2, 0, [1, 16]), (135, .invokevirtual 295, 3, 204, 2, 0, [1, 16]), (138, .ireturn, 1, 0, 0, 0, [])]
def zK_X6_at : List zEnt := [(0, .aload_n 0, 1, 0, 0, 0, []), (1, .iconst 0, 1, 0, 0, 0, []), (2, .putfield 1, 3, 6, 0, 0, []), (5, .aload_n 0, 1, 0, 0, 0, []), (6, .iload_n 1, 1, 1, 0, 0, []), (7, .invokevirtual 259, 3, 189, 1, 0, [1, 16]), (10, .ifCond .eq 29, 3, 39, 0, 0, []), (13, .aload_n 0, 1, 0, 0, 0, []), (14, .iload_n 2, 1, 2, 0, 0, []), (15, .iconst 0, 1, 0, 0, 0, []), (16, .sipush 999, 3, 0, 0, 999, []), (19, .invokestatic 157, 3, 137, 3, 0, [1]), (22, .iconst 2, 1, 0, 0, 2, []), (23, .iconst 1, 1, 0, 0, 1, []), (24, .invokevirtual 241, 3, 136, 3, 0, [1, 16]), (27, .ifCond .eq 12, 3, 39, 0, 0, []), (30, .aload_n 0, 1, 0, 0, 0, []), (31, .iload_n 1, 1, 1, 0, 0, []), (32, .iload_n 2, 1, 2, 0, 0, []), (33, .invokevirtual 213, 3, 182, 2, 0, [1, 16]), (36, .goto 4, 3, 40, 0, 0, []), (39, .iconst 0, 1, 0, 0, 0, []), (40, .ireturn, 1, 0, 0, 0, [])]
def zK_X6_over : List zEnt := [(0, .aload_n 0, 1, 0, 0, 0, []), (1, .iconst 0, 1, 0, 0, 0, []), (2, .putfield 1, 3, 6, 0, 0, []), (5, .aload_n 0, 1, 0, 0, 0, []), (6, .iload_n 1, 1, 1, 0, 0, []), (7, .invokevirtual 259, 3, 189, 1, 0, [1, 16]), (10, .ifCond .eq 54, 3, 64, 0, 0, []), (13, .aload_n 0, 1, 0, 0, 0, []), (14, .iload_n 2, 1, 2, 0, 0, []), (15, .iconst 0, 1, 0, 0, 0, []), (16, .sipush 999, 3, 0, 0, 999, []), (19, .invokestatic 157, 3, 137, 3, 0, [1]), (22, .ifCond .eq 33, 3, 55, 0, 0, []), (25, .iload_n 3, 1, 3, 0, 0, []), (26, .iconst 0, 1, 0, 0, 0, []), (27, .sipush 999, 3, 0, 0, 999, []), (30, .invokestatic 157, 3, 137, 3, 0, [1]), (33, .ifCond .eq 22, 3, 55, 0, 0, []), (36, .iload_n 3, 1, 3, 0, 0, []), (37, .iload_n 2, 1, 2, 0, 0, []), (38, .if_icmp .le 17, 3, 55, 0, 0, []), (41, .iload 4, 2, 4, 0, 0, []), (43, .iconst 0, 1, 0, 0, 0, []), (44, .iconst 2, 1, 0, 0, 2, []), (45, .invokestatic 157, 3, 137, 3, 0, [1]), (48, .ifCond .eq 7, 3, 55, 0, 0, []), (51, .iconst 1, 1, 0, 0, 1, []), (52, .goto 4, 3, 56, 0, 0, []), (55, .iconst 0, 1, 0, 0, 0, []), (56, .iconst 2, 1, 0, 0, 2, []), (57, .iconst 1, 1, 0, 0, 1, []), (58, .invokevirtual 241, 3, 136, 3, 0, [1, 16]), (61, .ifCond .ne 5, 3, 66, 0, 0, []), (64, .iconst 0, 1, 0, 0, 0, []), (65, .ireturn, 1, 0, 0, 0, []), (66, .iconst 0, 1, 0, 0, 0, []), (67, .istore 5, 2, 5, 0, 0, []), (69, .iconst (-1), 1, 0, 0, -1, []), (70, .istore 6, 2, 6, 0, 0, []), (72, .iconst 0, 1, 0, 0, 0, []), (73, .istore 7, 2, 7, 0, 0, []), (75, .iconst 0, 1, 0, 0, 0, []), (76, .istore 8, 2, 8, 0, 0, []), (78, .iload 8, 2, 8, 0, 0, []), (80, .aload_n 0, 1, 0, 0, 0, []), (81, .iload_n 1, 1, 1, 0, 0, []), (82, .invokevirtual 70, 3, 142, 1, 0, [1, 16]), (85, .if_icmp .ge 130, 3, 215, 0, 0, []), (88, .aload_n 0, 1, 0, 0, 0, []), (89, .iload_n 1, 1, 1, 0, 0, []), (90, .invokevirtual 79, 3, 140, 1, 0, [1, 16]), (93, .iconst 3, 1, 0, 0, 3, []), (94, .if_icmp .ne 33, 3, 127, 0, 0, []), (97, .aload_n 0, 1, 0, 0, 0, []), (98, .iload_n 1, 1, 1, 0, 0, []), (99, .iload 8, 2, 8, 0, 0, []), (101, .invokevirtual 73, 3, 144, 2, 0, [1, 16]), (104, .iload_n 2, 1, 2, 0, 0, []), (105, .if_icmp .lt 18, 3, 123, 0, 0, []), (108, .aload_n 0, 1, 0, 0, 0, []), (109, .iload_n 1, 1, 1, 0, 0, []), (110, .iload 8, 2, 8, 0, 0, []), (112, .invokevirtual 73, 3, 144, 2, 0, [1, 16]), (115, .iload_n 3, 1, 3, 0, 0, []), (116, .if_icmp .ge 7, 3, 123, 0, 0, []), (119, .iconst 1, 1, 0, 0, 1, []), (120, .goto 34, 3, 154, 0, 0, []), (123, .iconst 0, 1, 0, 0, 0, []), (124, .goto 30, 3, 154, 0, 0, []), (127, .aload_n 0, 1, 0, 0, 0, []), (128, .iload_n 1, 1, 1, 0, 0, []), (129, .iload 8, 2, 8, 0, 0, []), (131, .invokevirtual 73, 3, 144, 2, 0, [1, 16]), (134, .iload_n 3, 1, 3, 0, 0, []), (135, .if_icmp .ge 18, 3, 153, 0, 0, []), (138, .aload_n 0, 1, 0, 0, 0, []), (139, .iload_n 1, 1, 1, 0, 0, []), (140, .iload 8, 2, 8, 0, 0, []), (142, .invokevirtual 76, 3, 145, 2, 0, [1, 16]), (145, .iload_n 2, 1, 2, 0, 0, []), (146, .if_icmp .le 7, 3, 153, 0, 0, []), (149, .iconst 1, 1, 0, 0, 1, []), (150, .goto 4, 3, 154, 0, 0, []), (153, .iconst 0, 1, 0, 0, 0, []), (154, .istore 9, 2, 9, 0, 0, []), (156, .iload 9, 2, 9, 0, 0, []), (158, .ifCond .ne 6, 3, 164, 0, 0, []), (161, .goto 48, 3, 209, 0, 0, []), (164, .iload 5, 2, 5, 0, 0, []), (166, .ifCond .ne 8, 3, 174, 0, 0, []), (169, .iload 8, 2, 8, 0, 0, []), (171, .goto 5, 3, 176, 0, 0, []), (174, .iload 6, 2, 6, 0, 0, []), (176, .istore 6, 2, 6, 0, 0, []), (178, .iinc 5 1, 3, 5, 0, 1, []), (181, .iload 7, 2, 7, 0, 0, []), (183, .iload_n 3, 1, 3, 0, 0, []), (184, .aload_n 0, 1, 0, 0, 0, []), (185, .iload_n 1, 1, 1, 0, 0, []), (186, .iload 8, 2, 8, 0, 0, []), (188, .invokevirtual 76, 3, 145, 2, 0, [1, 16]), (191, .invokestatic 152, 3, 1001, 2, 0, []), (194, .iload_n 2, 1, 2, 0, 0, []), (195, .aload_n 0, 1, 0, 0, 0, []), (196, .iload_n 1, 1, 1, 0, 0, []), (197, .iload 8, 2, 8, 0, 0, []), (199, .invokevirtual 73, 3, 144, 2, 0, [1, 16]), (202, .invokestatic 302, 3, 1000, 2, 0, []), (205, .isub, 1, 0, 0, 0, []), (206, .iadd, 1, 0, 0, 0, []), (207, .istore 7, 2, 7, 0, 0, []), (209, .iinc 8 1, 3, 8, 0, 1, []), (212, .goto (-134), 3, 78, 0, 0, []), (215, .iload 4, 2, 4, 0, 0, []), (217, .ifCond .ne 8, 3, 225, 0, 0, []), (220, .iload 5, 2, 5, 0, 0, []), (222, .goto 16, 3, 238, 0, 0, []), (225, .iload 4, 2, 4, 0, 0, []), (227, .iconst 1, 1, 0, 0, 1, []), (228, .if_icmp .ne 8, 3, 236, 0, 0, []), (231, .iload 6, 2, 6, 0, 0, []), (233, .goto 5, 3, 238, 0, 0, []), (236, .iload 7, 2, 7, 0, 0, []), (238, .ireturn, 1, 0, 0, 0, [])]
def zK_X6_within : List zEnt := [(0, .aload_n 0, 1, 0, 0, 0, []), (1, .iconst 0, 1, 0, 0, 0, []), (2, .putfield 1, 3, 6, 0, 0, []), (5, .aload_n 0, 1, 0, 0, 0, []), (6, .iload_n 1, 1, 1, 0, 0, []), (7, .iconst 0, 1, 0, 0, 0, []), (8, .aload_n 0, 1, 0, 0, 0, []), (9, .invokevirtual 63, 3, 138, 0, 0, [1, 16]), (12, .iconst 1, 1, 0, 0, 1, []), (13, .isub, 1, 0, 0, 0, []), (14, .invokestatic 157, 3, 137, 3, 0, [1]), (17, .ifCond .eq 36, 3, 53, 0, 0, []), (20, .iload_n 3, 1, 3, 0, 0, []), (21, .iconst 0, 1, 0, 0, 0, []), (22, .aload_n 0, 1, 0, 0, 0, []), (23, .invokevirtual 63, 3, 138, 0, 0, [1, 16]), (26, .iconst 1, 1, 0, 0, 1, []), (27, .isub, 1, 0, 0, 0, []), (28, .invokestatic 157, 3, 137, 3, 0, [1]), (31, .ifCond .eq 22, 3, 53, 0, 0, []), (34, .iload_n 2, 1, 2, 0, 0, []), (35, .iconst 0, 1, 0, 0, 0, []), (36, .aload_n 0, 1, 0, 0, 0, []), (37, .iload_n 1, 1, 1, 0, 0, []), (38, .invokevirtual 70, 3, 142, 1, 0, [1, 16]), (41, .iconst 1, 1, 0, 0, 1, []), (42, .isub, 1, 0, 0, 0, []), (43, .invokestatic 157, 3, 137, 3, 0, [1]), (46, .ifCond .eq 7, 3, 53, 0, 0, []), (49, .iconst 1, 1, 0, 0, 1, []), (50, .goto 4, 3, 54, 0, 0, []), (53, .iconst 0, 1, 0, 0, 0, []), (54, .iconst 1, 1, 0, 0, 1, []), (55, .iconst 0, 1, 0, 0, 0, []), (56, .invokevirtual 241, 3, 136, 3, 0, [1, 16]), (59, .ifCond .eq 19, 3, 78, 0, 0, []), (62, .aload_n 0, 1, 0, 0, 0, []), (63, .iload 4, 2, 4, 0, 0, []), (65, .iconst 0, 1, 0, 0, 0, []), (66, .iconst 2, 1, 0, 0, 2, []), (67, .invokestatic 157, 3, 137, 3, 0, [1]), (70, .iconst 2, 1, 0, 0, 2, []), (71, .iconst 1, 1, 0, 0, 1, []), (72, .invokevirtual 241, 3, 136, 3, 0, [1, 16]), (75, .ifCond .ne 5, 3, 80, 0, 0, []), (78, .iconst 0, 1, 0, 0, 0, []), (79, .ireturn, 1, 0, 0, 0, []), (80, .iconst 0, 1, 0, 0, 0, []), (81, .istore 5, 2, 5, 0, 0, []), (83, .iconst (-1), 1, 0, 0, -1, []), (84, .istore 6, 2, 6, 0, 0, []), (86, .iconst 0, 1, 0, 0, 0, []), (87, .istore 7, 2, 7, 0, 0, []), (89, .iconst 0, 1, 0, 0, 0, []), (90, .istore 8, 2, 8, 0, 0, []), (92, .iload 8, 2, 8, 0, 0, []), (94, .aload_n 0, 1, 0, 0, 0, []), (95, .iload_n 3, 1, 3, 0, 0, []), (96, .invokevirtual 70, 3, 142, 1, 0, [1, 16]), (99, .if_icmp .ge 81, 3, 180, 0, 0, []), (102, .aload_n 0, 1, 0, 0, 0, []), (103, .iload_n 3, 1, 3, 0, 0, []), (104, .iload 8, 2, 8, 0, 0, []), (106, .invokevirtual 73, 3, 144, 2, 0, [1, 16]), (109, .aload_n 0, 1, 0, 0, 0, []), (110, .iload_n 1, 1, 1, 0, 0, []), (111, .iload_n 2, 1, 2, 0, 0, []), (112, .invokevirtual 73, 3, 144, 2, 0, [1, 16]), (115, .if_icmp .lt 59, 3, 174, 0, 0, []), (118, .aload_n 0, 1, 0, 0, 0, []), (119, .iload_n 3, 1, 3, 0, 0, []), (120, .iload 8, 2, 8, 0, 0, []), (122, .invokevirtual 76, 3, 145, 2, 0, [1, 16]), (125, .aload_n 0, 1, 0, 0, 0, []), (126, .iload_n 1, 1, 1, 0, 0, []), (127, .iload_n 2, 1, 2, 0, 0, []), (128, .invokevirtual 76, 3, 145, 2, 0, [1, 16]), (131, .if_icmp .le 6, 3, 137, 0, 0, []), (134, .goto 40, 3, 174, 0, 0, []), (137, .iload 5, 2, 5, 0, 0, []), (139, .ifCond .ne 8, 3, 147, 0, 0, []), (142, .iload 8, 2, 8, 0, 0, []), (144, .goto 5, 3, 149, 0, 0, []), (147, .iload 6, 2, 6, 0, 0, []), (149, .istore 6, 2, 6, 0, 0, []), (151, .iinc 5 1, 3, 5, 0, 1, []), (154, .iload 7, 2, 7, 0, 0, []), (156, .aload_n 0, 1, 0, 0, 0, []), (157, .iload_n 3, 1, 3, 0, 0, []), (158, .iload 8, 2, 8, 0, 0, []), (160, .invokevirtual 76, 3, 145, 2, 0, [1, 16]), (163, .aload_n 0, 1, 0, 0, 0, []), (164, .iload_n 3, 1, 3, 0, 0, []), (165, .iload 8, 2, 8, 0, 0, []), (167, .invokevirtual 73, 3, 144, 2, 0, [1, 16]), (170, .isub, 1, 0, 0, 0, []), (171, .iadd, 1, 0, 0, 0, []), (172, .istore 7, 2, 7, 0, 0, []), (174, .iinc 8 1, 3, 8, 0, 1, []), (177, .goto (-85), 3, 92, 0, 0, []), (180, .iload 4, 2, 4, 0, 0, []), (182, .ifCond .ne 8, 3, 190, 0, 0, []), (185, .iload 5, 2, 5, 0, 0, []), (187, .goto 16, 3, 203, 0, 0, []), (190, .iload 4, 2, 4, 0, 0, []), (192, .iconst 1, 1, 0, 0, 1, []), (193, .if_icmp .ne 8, 3, 201, 0, 0, []), (196, .iload 6, 2, 6, 0, 0, []), (198, .goto 5, 3, 203, 0, 0, []), (201, .iload 7, 2, 7, 0, 0, []), (203, .ireturn, 1, 0, 0, 0, [])]
def zK_X6_find : List zEnt := [(0, .aload_n 0, 1, 0, 0, 0, []), (1, .iconst 0, 1, 0, 0, 0, []), (2, .putfield 1, 3, 6, 0, 0, []), (5, .aload_n 0, 1, 0, 0, 0, []), (6, .iload_n 1, 1, 1, 0, 0, []), (7, .invokevirtual 259, 3, 189, 1, 0, [1, 16]), (10, .ifCond .ne 5, 3, 15, 0, 0, []), (13, .iconst 0, 1, 0, 0, 0, []), (14, .ireturn, 1, 0, 0, 0, []), (15, .iconst 0, 1, 0, 0, 0, []), (16, .istore 4, 2, 4, 0, 0, []), (18, .iconst 0, 1, 0, 0, 0, []), (19, .istore 5, 2, 5, 0, 0, []), (21, .iload 5, 2, 5, 0, 0, []), (23, .aload_n 0, 1, 0, 0, 0, []), (24, .iload_n 1, 1, 1, 0, 0, []), (25, .invokevirtual 70, 3, 142, 1, 0, [1, 16]), (28, .if_icmp .ge 35, 3, 63, 0, 0, []), (31, .aload_n 0, 1, 0, 0, 0, []), (32, .iload_n 1, 1, 1, 0, 0, []), (33, .iload 5, 2, 5, 0, 0, []), (35, .invokevirtual 103, 3, 146, 2, 0, [1, 16]), (38, .iload_n 2, 1, 2, 0, 0, []), (39, .if_icmp .eq 6, 3, 45, 0, 0, []), (42, .goto 15, 3, 57, 0, 0, []), (45, .iload 4, 2, 4, 0, 0, []), (47, .iload_n 3, 1, 3, 0, 0, []), (48, .if_icmp .ne 6, 3, 54, 0, 0, []), (51, .iload 5, 2, 5, 0, 0, []), (53, .ireturn, 1, 0, 0, 0, []), (54, .iinc 4 1, 3, 4, 0, 1, []), (57, .iinc 5 1, 3, 5, 0, 1, []), (60, .goto (-39), 3, 21, 0, 0, []), (63, .iconst (-1), 1, 0, 0, -1, []), (64, .ireturn, 1, 0, 0, 0, [])]
def zK_X6_together : List zEnt := [(0, .aload_n 0, 1, 0, 0, 0, []), (1, .iconst 0, 1, 0, 0, 0, []), (2, .putfield 1, 3, 6, 0, 0, []), (5, .aload_n 0, 1, 0, 0, 0, []), (6, .iload_n 1, 1, 1, 0, 0, []), (7, .iconst 0, 1, 0, 0, 0, []), (8, .aload_n 0, 1, 0, 0, 0, []), (9, .invokevirtual 63, 3, 138, 0, 0, [1, 16]), (12, .iconst 1, 1, 0, 0, 1, []), (13, .isub, 1, 0, 0, 0, []), (14, .invokestatic 157, 3, 137, 3, 0, [1]), (17, .ifCond .eq 21, 3, 38, 0, 0, []), (20, .iload_n 3, 1, 3, 0, 0, []), (21, .iconst 0, 1, 0, 0, 0, []), (22, .aload_n 0, 1, 0, 0, 0, []), (23, .invokevirtual 63, 3, 138, 0, 0, [1, 16]), (26, .iconst 1, 1, 0, 0, 1, []), (27, .isub, 1, 0, 0, 0, []), (28, .invokestatic 157, 3, 137, 3, 0, [1]), (31, .ifCond .eq 7, 3, 38, 0, 0, []), (34, .iconst 1, 1, 0, 0, 1, []), (35, .goto 4, 3, 39, 0, 0, []), (38, .iconst 0, 1, 0, 0, 0, []), (39, .iconst 1, 1, 0, 0, 1, []), (40, .iconst 0, 1, 0, 0, 0, []), (41, .invokevirtual 241, 3, 136, 3, 0, [1, 16]), (44, .ifCond .ne 5, 3, 49, 0, 0, []), (47, .iconst 0, 1, 0, 0, 0, []), (48, .ireturn, 1, 0, 0, 0, []), (49, .iconst 0, 1, 0, 0, 0, []), (50, .istore 5, 2, 5, 0, 0, []), (52, .iconst 0, 1, 0, 0, 0, []), (53, .istore 6, 2, 6, 0, 0, []), (55, .iload 6, 2, 6, 0, 0, []), (57, .sipush 999, 3, 0, 0, 999, []), (60, .if_icmp .ge 96, 3, 156, 0, 0, []), (63, .aload_n 0, 1, 0, 0, 0, []), (64, .iload_n 1, 1, 1, 0, 0, []), (65, .iload 6, 2, 6, 0, 0, []), (67, .invokevirtual 213, 3, 182, 2, 0, [1, 16]), (70, .istore 7, 2, 7, 0, 0, []), (72, .aload_n 0, 1, 0, 0, 0, []), (73, .iload_n 3, 1, 3, 0, 0, []), (74, .iload 6, 2, 6, 0, 0, []), (76, .invokevirtual 213, 3, 182, 2, 0, [1, 16]), (79, .istore 8, 2, 8, 0, 0, []), (81, .iload 5, 2, 5, 0, 0, []), (83, .iload 7, 2, 7, 0, 0, []), (85, .iconst (-1), 1, 0, 0, -1, []), (86, .if_icmp .eq 60, 3, 146, 0, 0, []), (89, .iload 8, 2, 8, 0, 0, []), (91, .iconst (-1), 1, 0, 0, -1, []), (92, .if_icmp .eq 54, 3, 146, 0, 0, []), (95, .aload_n 0, 1, 0, 0, 0, []), (96, .iload_n 1, 1, 1, 0, 0, []), (97, .iload 7, 2, 7, 0, 0, []), (99, .invokevirtual 76, 3, 145, 2, 0, [1, 16]), (102, .iload 6, 2, 6, 0, 0, []), (104, .if_icmp .le 42, 3, 146, 0, 0, []), (107, .aload_n 0, 1, 0, 0, 0, []), (108, .iload_n 3, 1, 3, 0, 0, []), (109, .iload 8, 2, 8, 0, 0, []), (111, .invokevirtual 76, 3, 145, 2, 0, [1, 16]), (114, .iload 6, 2, 6, 0, 0, []), (116, .if_icmp .le 30, 3, 146, 0, 0, []), (119, .aload_n 0, 1, 0, 0, 0, []), (120, .iload_n 1, 1, 1, 0, 0, []), (121, .iload 7, 2, 7, 0, 0, []), (123, .invokevirtual 103, 3, 146, 2, 0, [1, 16]), (126, .iload_n 2, 1, 2, 0, 0, []), (127, .if_icmp .ne 19, 3, 146, 0, 0, []), (130, .aload_n 0, 1, 0, 0, 0, []), (131, .iload_n 3, 1, 3, 0, 0, []), (132, .iload 8, 2, 8, 0, 0, []), (134, .invokevirtual 103, 3, 146, 2, 0, [1, 16]), (137, .iload 4, 2, 4, 0, 0, []), (139, .if_icmp .ne 7, 3, 146, 0, 0, []), (142, .iconst 1, 1, 0, 0, 1, []), (143, .goto 4, 3, 147, 0, 0, []), (146, .iconst 0, 1, 0, 0, 0, []), (147, .iadd, 1, 0, 0, 0, []), (148, .istore 5, 2, 5, 0, 0, []), (150, .iinc 6 1, 3, 6, 0, 1, []), (153, .goto (-98), 3, 55, 0, 0, []), (156, .iload 5, 2, 5, 0, 0, []), (158, .ireturn, 1, 0, 0, 0, [])]
def zK_X6_longest : List zEnt := [(0, .aload_n 0, 1, 0, 0, 0, []), (1, .iconst 0, 1, 0, 0, 0, []), (2, .putfield 1, 3, 6, 0, 0, []), (5, .aload_n 0, 1, 0, 0, 0, []), (6, .iload_n 1, 1, 1, 0, 0, []), (7, .invokevirtual 259, 3, 189, 1, 0, [1, 16]), (10, .ifCond .eq 18, 3, 28, 0, 0, []), (13, .aload_n 0, 1, 0, 0, 0, []), (14, .iload_n 3, 1, 3, 0, 0, []), (15, .iconst 0, 1, 0, 0, 0, []), (16, .iconst 3, 1, 0, 0, 3, []), (17, .invokestatic 157, 3, 137, 3, 0, [1]), (20, .iconst 2, 1, 0, 0, 2, []), (21, .iconst 1, 1, 0, 0, 1, []), (22, .invokevirtual 241, 3, 136, 3, 0, [1, 16]), (25, .ifCond .ne 5, 3, 30, 0, 0, []), (28, .iconst 0, 1, 0, 0, 0, []), (29, .ireturn, 1, 0, 0, 0, []), (30, .iconst (-1), 1, 0, 0, -1, []), (31, .istore 4, 2, 4, 0, 0, []), (33, .iconst 0, 1, 0, 0, 0, []), (34, .istore 5, 2, 5, 0, 0, []), (36, .iconst 0, 1, 0, 0, 0, []), (37, .istore 6, 2, 6, 0, 0, []), (39, .iconst 0, 1, 0, 0, 0, []), (40, .istore 7, 2, 7, 0, 0, []), (42, .iload 7, 2, 7, 0, 0, []), (44, .aload_n 0, 1, 0, 0, 0, []), (45, .iload_n 1, 1, 1, 0, 0, []), (46, .invokevirtual 70, 3, 142, 1, 0, [1, 16]), (49, .if_icmp .ge 89, 3, 138, 0, 0, []), (52, .aload_n 0, 1, 0, 0, 0, []), (53, .iload_n 1, 1, 1, 0, 0, []), (54, .iload 7, 2, 7, 0, 0, []), (56, .invokevirtual 103, 3, 146, 2, 0, [1, 16]), (59, .iload_n 2, 1, 2, 0, 0, []), (60, .if_icmp .eq 6, 3, 66, 0, 0, []), (63, .goto 69, 3, 132, 0, 0, []), (66, .iinc 5 1, 3, 5, 0, 1, []), (69, .iload 6, 2, 6, 0, 0, []), (71, .aload_n 0, 1, 0, 0, 0, []), (72, .iload_n 1, 1, 1, 0, 0, []), (73, .iload 7, 2, 7, 0, 0, []), (75, .invokevirtual 76, 3, 145, 2, 0, [1, 16]), (78, .aload_n 0, 1, 0, 0, 0, []), (79, .iload_n 1, 1, 1, 0, 0, []), (80, .iload 7, 2, 7, 0, 0, []), (82, .invokevirtual 73, 3, 144, 2, 0, [1, 16]), (85, .isub, 1, 0, 0, 0, []), (86, .iadd, 1, 0, 0, 0, []), (87, .istore 6, 2, 6, 0, 0, []), (89, .iload 4, 2, 4, 0, 0, []), (91, .iconst (-1), 1, 0, 0, -1, []), (92, .if_icmp .eq 36, 3, 128, 0, 0, []), (95, .aload_n 0, 1, 0, 0, 0, []), (96, .iload_n 1, 1, 1, 0, 0, []), (97, .iload 7, 2, 7, 0, 0, []), (99, .invokevirtual 76, 3, 145, 2, 0, [1, 16]), (102, .aload_n 0, 1, 0, 0, 0, []), (103, .iload_n 1, 1, 1, 0, 0, []), (104, .iload 7, 2, 7, 0, 0, []), (106, .invokevirtual 73, 3, 144, 2, 0, [1, 16]), (109, .isub, 1, 0, 0, 0, []), (110, .aload_n 0, 1, 0, 0, 0, []), (111, .iload_n 1, 1, 1, 0, 0, []), (112, .iload 4, 2, 4, 0, 0, []), (114, .invokevirtual 76, 3, 145, 2, 0, [1, 16]), (117, .aload_n 0, 1, 0, 0, 0, []), (118, .iload_n 1, 1, 1, 0, 0, []), (119, .iload 4, 2, 4, 0, 0, []), (121, .invokevirtual 73, 3, 144, 2, 0, [1, 16]), (124, .isub, 1, 0, 0, 0, []), (125, .if_icmp .le 7, 3, 132, 0, 0, []), (128, .iload 7, 2, 7, 0, 0, []), (130, .istore 4, 2, 4, 0, 0, []), (132, .iinc 7 1, 3, 7, 0, 1, []), (135, .goto (-93), 3, 42, 0, 0, []), (138, .iload_n 3, 1, 3, 0, 0, []), (139, .ifCond .ne 8, 3, 147, 0, 0, []), (142, .iload 4, 2, 4, 0, 0, []), (144, .goto 48, 3, 192, 0, 0, []), (147, .iload_n 3, 1, 3, 0, 0, []), (148, .iconst 1, 1, 0, 0, 1, []), (149, .if_icmp .ne 31, 3, 180, 0, 0, []), (152, .iload 4, 2, 4, 0, 0, []), (154, .iconst (-1), 1, 0, 0, -1, []), (155, .if_icmp .ne 7, 3, 162, 0, 0, []), (158, .iconst 0, 1, 0, 0, 0, []), (159, .goto 33, 3, 192, 0, 0, []), (162, .aload_n 0, 1, 0, 0, 0, []), (163, .iload_n 1, 1, 1, 0, 0, []), (164, .iload 4, 2, 4, 0, 0, []), (166, .invokevirtual 76, 3, 145, 2, 0, [1, 16]), (169, .aload_n 0, 1, 0, 0, 0, []), (170, .iload_n 1, 1, 1, 0, 0, []), (171, .iload 4, 2, 4, 0, 0, []), (173, .invokevirtual 73, 3, 144, 2, 0, [1, 16]), (176, .isub, 1, 0, 0, 0, []), (177, .goto 15, 3, 192, 0, 0, []), (180, .iload_n 3, 1, 3, 0, 0, []), (181, .iconst 2, 1, 0, 0, 2, []), (182, .if_icmp .ne 8, 3, 190, 0, 0, []), (185, .iload 5, 2, 5, 0, 0, []), (187, .goto 5, 3, 192, 0, 0, []), (190, .iload 6, 2, 6, 0, 0, []), (192, .ireturn, 1, 0, 0, 0, [])]
def zK_X6_stop : List zEnt := [(0, .aload_n 0, 1, 0, 0, 0, []), (1, .iconst 0, 1, 0, 0, 0, []), (2, .putfield 1, 3, 6, 0, 0, []), (5, .aload_n 0, 1, 0, 0, 0, []), (6, .iload_n 1, 1, 1, 0, 0, []), (7, .invokevirtual 259, 3, 189, 1, 0, [1, 16]), (10, .ifCond .ne 5, 3, 15, 0, 0, []), (13, .iconst 0, 1, 0, 0, 0, []), (14, .ireturn, 1, 0, 0, 0, []), (15, .iconst 0, 1, 0, 0, 0, []), (16, .istore_n 3, 1, 3, 0, 0, []), (17, .iconst 0, 1, 0, 0, 0, []), (18, .istore 4, 2, 4, 0, 0, []), (20, .iload 4, 2, 4, 0, 0, []), (22, .sipush 999, 3, 0, 0, 999, []), (25, .if_icmp .gt 37, 3, 62, 0, 0, []), (28, .aload_n 0, 1, 0, 0, 0, []), (29, .aload_n 0, 1, 0, 0, 0, []), (30, .iload_n 1, 1, 1, 0, 0, []), (31, .invokevirtual 67, 3, 148, 1, 0, [1, 16]), (34, .iload 4, 2, 4, 0, 0, []), (36, .invokevirtual 286, 3, 151, 2, 0, [1, 16]), (39, .ifCond .ne 6, 3, 45, 0, 0, []), (42, .goto 14, 3, 56, 0, 0, []), (45, .iload_n 3, 1, 3, 0, 0, []), (46, .iload_n 2, 1, 2, 0, 0, []), (47, .if_icmp .ne 6, 3, 53, 0, 0, []), (50, .iload 4, 2, 4, 0, 0, []), (52, .ireturn, 1, 0, 0, 0, []), (53, .iinc 3 1, 3, 3, 0, 1, []), (56, .iinc 4 1, 3, 4, 0, 1, []), (59, .goto (-39), 3, 20, 0, 0, []), (62, .iconst (-1), 1, 0, 0, -1, []), (63, .ireturn, 1, 0, 0, 0, [])]
def zK_X6_room : List zEnt := [(0, .aload_n 0, 1, 0, 0, 0, []), (1, .iconst 0, 1, 0, 0, 0, []), (2, .putfield 1, 3, 6, 0, 0, []), (5, .aload_n 0, 1, 0, 0, 0, []), (6, .iload_n 1, 1, 1, 0, 0, []), (7, .iload_n 2, 1, 2, 0, 0, []), (8, .invokevirtual 289, 3, 203, 2, 0, [1, 16]), (11, .ifCond .eq 18, 3, 29, 0, 0, []), (14, .aload_n 0, 1, 0, 0, 0, []), (15, .iload_n 3, 1, 3, 0, 0, []), (16, .iconst 0, 1, 0, 0, 0, []), (17, .iconst 1, 1, 0, 0, 1, []), (18, .invokestatic 157, 3, 137, 3, 0, [1]), (21, .iconst 2, 1, 0, 0, 2, []), (22, .iconst 1, 1, 0, 0, 1, []), (23, .invokevirtual 241, 3, 136, 3, 0, [1, 16]), (26, .ifCond .ne 5, 3, 31, 0, 0, []), (29, .iconst 0, 1, 0, 0, 0, []), (30, .ireturn, 1, 0, 0, 0, []), (31, .iload_n 3, 1, 3, 0, 0, []), (32, .ifCond .ne 18, 3, 50, 0, 0, []), (35, .aload_n 0, 1, 0, 0, 0, []), (36, .aload_n 0, 1, 0, 0, 0, []), (37, .iload_n 1, 1, 1, 0, 0, []), (38, .invokevirtual 67, 3, 148, 1, 0, [1, 16]), (41, .iload_n 2, 1, 2, 0, 0, []), (42, .invokevirtual 320, 3, 201, 2, 0, [1, 16]), (45, .iconst 1, 1, 0, 0, 1, []), (46, .iadd, 1, 0, 0, 0, []), (47, .goto 15, 3, 62, 0, 0, []), (50, .aload_n 0, 1, 0, 0, 0, []), (51, .aload_n 0, 1, 0, 0, 0, []), (52, .iload_n 1, 1, 1, 0, 0, []), (53, .invokevirtual 67, 3, 148, 1, 0, [1, 16]), (56, .iload_n 2, 1, 2, 0, 0, []), (57, .invokevirtual 323, 3, 202, 2, 0, [1, 16]), (60, .iconst 1, 1, 0, 0, 1, []), (61, .isub, 1, 0, 0, 0, []), (62, .ireturn, 1, 0, 0, 0, [])]
def zK_X6_otherTier : List zEnt := [(0, .aload_n 0, 1, 0, 0, 0, []), (1, .getfield 337, 3, 6, 7, 0, []), (4, .ifCond .eq 24, 3, 28, 0, 0, []), (7, .aload_n 0, 1, 0, 0, 0, []), (8, .aload_n 0, 1, 0, 0, 0, []), (9, .getfield 20, 3, 6, 3, 0, []), (12, .aload_n 0, 1, 0, 0, 0, []), (13, .getfield 17, 3, 6, 2, 0, []), (16, .iload_n 1, 1, 1, 0, 0, []), (17, .iconst 3, 1, 0, 0, 3, []), (18, .invokestatic 51, 3, 139, 2, 0, [1]), (21, .iaload, 1, 0, 0, 0, []), (22, .invokevirtual 164, 3, 175, 2, 0, [1, 16]), (25, .goto 4, 3, 29, 0, 0, []), (28, .iconst (-1), 1, 0, 0, -1, []), (29, .ireturn, 1, 0, 0, 0, [])]
def zK_X6_markIn : List zEnt := [(0, .iconst 0, 1, 0, 0, 0, []), (1, .istore_n 3, 1, 3, 0, 0, []), (2, .iload_n 3, 1, 3, 0, 0, []), (3, .aload_n 0, 1, 0, 0, 0, []), (4, .iload_n 1, 1, 1, 0, 0, []), (5, .iconst 2, 1, 0, 0, 2, []), (6, .invokestatic 51, 3, 139, 2, 0, [1]), (9, .iaload, 1, 0, 0, 0, []), (10, .if_icmp .ge 35, 3, 45, 0, 0, []), (13, .aload_n 0, 1, 0, 0, 0, []), (14, .iload_n 1, 1, 1, 0, 0, []), (15, .iload_n 3, 1, 3, 0, 0, []), (16, .iconst 0, 1, 0, 0, 0, []), (17, .invokestatic 55, 3, 143, 3, 0, [1]), (20, .iaload, 1, 0, 0, 0, []), (21, .iload_n 2, 1, 2, 0, 0, []), (22, .if_icmp .gt 17, 3, 39, 0, 0, []), (25, .aload_n 0, 1, 0, 0, 0, []), (26, .iload_n 1, 1, 1, 0, 0, []), (27, .iload_n 3, 1, 3, 0, 0, []), (28, .iconst 1, 1, 0, 0, 1, []), (29, .invokestatic 55, 3, 143, 3, 0, [1]), (32, .iaload, 1, 0, 0, 0, []), (33, .iload_n 2, 1, 2, 0, 0, []), (34, .if_icmp .le 5, 3, 39, 0, 0, []), (37, .iload_n 3, 1, 3, 0, 0, []), (38, .ireturn, 1, 0, 0, 0, []), (39, .iinc 3 1, 3, 3, 0, 1, []), (42, .goto (-40), 3, 2, 0, 0, []), (45, .iconst (-1), 1, 0, 0, -1, []), (46, .ireturn, 1, 0, 0, 0, [])]
def zK_X6_agree : List zEnt := [(0, .aload_n 0, 1, 0, 0, 0, []), (1, .iconst 0, 1, 0, 0, 0, []), (2, .putfield 1, 3, 6, 0, 0, []), (5, .aload_n 0, 1, 0, 0, 0, []), (6, .iload_n 1, 1, 1, 0, 0, []), (7, .invokevirtual 259, 3, 189, 1, 0, [1, 16]), (10, .ifCond .eq 18, 3, 28, 0, 0, []), (13, .aload_n 0, 1, 0, 0, 0, []), (14, .iload_n 2, 1, 2, 0, 0, []), (15, .iconst 0, 1, 0, 0, 0, []), (16, .iconst 3, 1, 0, 0, 3, []), (17, .invokestatic 157, 3, 137, 3, 0, [1]), (20, .iconst 2, 1, 0, 0, 2, []), (21, .iconst 1, 1, 0, 0, 1, []), (22, .invokevirtual 241, 3, 136, 3, 0, [1, 16]), (25, .ifCond .ne 5, 3, 30, 0, 0, []), (28, .iconst 0, 1, 0, 0, 0, []), (29, .ireturn, 1, 0, 0, 0, []), (30, .aload_n 0, 1, 0, 0, 0, []), (31, .iload_n 1, 1, 1, 0, 0, []), (32, .invokevirtual 314, 3, 236, 1, 0, [1, 16]), (35, .istore_n 3, 1, 3, 0, 0, []), (36, .iload_n 3, 1, 3, 0, 0, []), (37, .iconst (-1), 1, 0, 0, -1, []), (38, .if_icmp .ne 5, 3, 43, 0, 0, []), (41, .iconst (-1), 1, 0, 0, -1, []), (42, .ireturn, 1, 0, 0, 0, []), (43, .iconst 0, 1, 0, 0, 0, []), (44, .istore 4, 2, 4, 0, 0, []), (46, .iconst 0, 1, 0, 0, 0, []), (47, .istore 5, 2, 5, 0, 0, []), (49, .iload 5, 2, 5, 0, 0, []), (51, .sipush 999, 3, 0, 0, 999, []), (54, .if_icmp .ge 113, 3, 167, 0, 0, []), (57, .aload_n 0, 1, 0, 0, 0, []), (58, .getfield 17, 3, 6, 2, 0, []), (61, .iload_n 1, 1, 1, 0, 0, []), (62, .iload 5, 2, 5, 0, 0, []), (64, .invokestatic 359, 3, 237, 3, 0, [1]), (67, .istore 6, 2, 6, 0, 0, []), (69, .aload_n 0, 1, 0, 0, 0, []), (70, .getfield 20, 3, 6, 3, 0, []), (73, .iload_n 3, 1, 3, 0, 0, []), (74, .iload 5, 2, 5, 0, 0, []), (76, .invokestatic 359, 3, 237, 3, 0, [1]), (79, .istore 7, 2, 7, 0, 0, []), (81, .iload 6, 2, 6, 0, 0, []), (83, .iconst (-1), 1, 0, 0, -1, []), (84, .if_icmp .ne 17, 3, 101, 0, 0, []), (87, .iload 7, 2, 7, 0, 0, []), (89, .iconst (-1), 1, 0, 0, -1, []), (90, .if_icmp .ne 7, 3, 97, 0, 0, []), (93, .iconst (-1), 1, 0, 0, -1, []), (94, .goto 49, 3, 143, 0, 0, []), (97, .iconst 3, 1, 0, 0, 3, []), (98, .goto 45, 3, 143, 0, 0, []), (101, .iload 7, 2, 7, 0, 0, []), (103, .iconst (-1), 1, 0, 0, -1, []), (104, .if_icmp .ne 7, 3, 111, 0, 0, []), (107, .iconst 2, 1, 0, 0, 2, []), (108, .goto 35, 3, 143, 0, 0, []), (111, .aload_n 0, 1, 0, 0, 0, []), (112, .getfield 17, 3, 6, 2, 0, []), (115, .iload_n 1, 1, 1, 0, 0, []), (116, .iload 6, 2, 6, 0, 0, []), (118, .iconst 2, 1, 0, 0, 2, []), (119, .invokestatic 55, 3, 143, 3, 0, [1]), (122, .iaload, 1, 0, 0, 0, []), (123, .aload_n 0, 1, 0, 0, 0, []), (124, .getfield 20, 3, 6, 3, 0, []), (127, .iload_n 3, 1, 3, 0, 0, []), (128, .iload 7, 2, 7, 0, 0, []), (130, .iconst 2, 1, 0, 0, 2, []), (131, .invokestatic 55, 3, 143, 3, 0, [1]), (134, .iaload, 1, 0, 0, 0, []), (135, .if_icmp .ne 7, 3, 142, 0, 0, []), (138, .iconst 0, 1, 0, 0, 0, []), (139, .goto 4, 3, 143, 0, 0, []), (142, .iconst 1, 1, 0, 0, 1, []), (143, .istore 8, 2, 8, 0, 0, []), (145, .iload 4, 2, 4, 0, 0, []), (147, .iload 8, 2, 8, 0, 0, []), (149, .iload_n 2, 1, 2, 0, 0, []), (150, .if_icmp .ne 7, 3, 157, 0, 0, []), (153, .iconst 1, 1, 0, 0, 1, []), (154, .goto 4, 3, 158, 0, 0, []), (157, .iconst 0, 1, 0, 0, 0, []), (158, .iadd, 1, 0, 0, 0, []), (159, .istore 4, 2, 4, 0, 0, []), (161, .iinc 5 1, 3, 5, 0, 1, []), (164, .goto (-115), 3, 49, 0, 0, []), (167, .iload 4, 2, 4, 0, 0, []), (169, .ireturn, 1, 0, 0, 0, [])]
def zK_X6_times : List zEnt := [(0, .iconst 0, 1, 0, 0, 0, []), (1, .istore_n 3, 1, 3, 0, 0, []), (2, .iconst 0, 1, 0, 0, 0, []), (3, .istore 4, 2, 4, 0, 0, []), (5, .iload 4, 2, 4, 0, 0, []), (7, .sipush 999, 3, 0, 0, 999, []), (10, .if_icmp .gt 89, 3, 99, 0, 0, []), (13, .iconst 0, 1, 0, 0, 0, []), (14, .istore 5, 2, 5, 0, 0, []), (16, .iconst 0, 1, 0, 0, 0, []), (17, .istore 6, 2, 6, 0, 0, []), (19, .iload 6, 2, 6, 0, 0, []), (21, .aload_n 0, 1, 0, 0, 0, []), (22, .iload_n 1, 1, 1, 0, 0, []), (23, .iconst 2, 1, 0, 0, 2, []), (24, .invokestatic 51, 3, 139, 2, 0, [1]), (27, .iaload, 1, 0, 0, 0, []), (28, .if_icmp .ge 49, 3, 77, 0, 0, []), (31, .iload 5, 2, 5, 0, 0, []), (33, .ifCond .ne 31, 3, 64, 0, 0, []), (36, .aload_n 0, 1, 0, 0, 0, []), (37, .iload_n 1, 1, 1, 0, 0, []), (38, .iload 6, 2, 6, 0, 0, []), (40, .iconst 0, 1, 0, 0, 0, []), (41, .invokestatic 55, 3, 143, 3, 0, [1]), (44, .iaload, 1, 0, 0, 0, []), (45, .iload 4, 2, 4, 0, 0, []), (47, .if_icmp .eq 17, 3, 64, 0, 0, []), (50, .aload_n 0, 1, 0, 0, 0, []), (51, .iload_n 1, 1, 1, 0, 0, []), (52, .iload 6, 2, 6, 0, 0, []), (54, .iconst 1, 1, 0, 0, 1, []), (55, .invokestatic 55, 3, 143, 3, 0, [1]), (58, .iaload, 1, 0, 0, 0, []), (59, .iload 4, 2, 4, 0, 0, []), (61, .if_icmp .ne 7, 3, 68, 0, 0, []), (64, .iconst 1, 1, 0, 0, 1, []), (65, .goto 4, 3, 69, 0, 0, []), (68, .iconst 0, 1, 0, 0, 0, []), (69, .istore 5, 2, 5, 0, 0, []), (71, .iinc 6 1, 3, 6, 0, 1, []), (74, .goto (-55), 3, 19, 0, 0, []), (77, .iload 5, 2, 5, 0, 0, []), (79, .ifCond .ne 6, 3, 85, 0, 0, []), (82, .goto 11, 3, 93, 0, 0, []), (85, .aload_n 2, 1, 2, 0, 0, []), (86, .iload_n 3, 1, 3, 0, 0, []), (87, .iload 4, 2, 4, 0, 0, []), (89, .iastore, 1, 0, 0, 0, []), (90, .iinc 3 1, 3, 3, 0, 1, []), (93, .iinc 4 1, 3, 4, 0, 1, []), (96, .goto (-91), 3, 5, 0, 0, []), (99, .iload_n 3, 1, 3, 0, 0, []), (100, .ireturn, 1, 0, 0, 0, [])]
def zK_X6_pairsOf : List zEnt := [(0, .bipush 81, 2, 0, 0, 81, []), (2, .iload_n 1, 1, 1, 0, 0, []), (3, .imul, 1, 0, 0, 0, []), (4, .iload_n 2, 1, 2, 0, 0, []), (5, .iadd, 1, 0, 0, 0, []), (6, .istore 4, 2, 4, 0, 0, []), (8, .aload_n 0, 1, 0, 0, 0, []), (9, .getfield 45, 3, 6, 19, 0, []), (12, .iload 4, 2, 4, 0, 0, []), (14, .iconst 0, 1, 0, 0, 0, []), (15, .iastore, 1, 0, 0, 0, []), (16, .aload_n 0, 1, 0, 0, 0, []), (17, .getfield 48, 3, 6, 20, 0, []), (20, .iload 4, 2, 4, 0, 0, []), (22, .iconst 0, 1, 0, 0, 0, []), (23, .iastore, 1, 0, 0, 0, []), (24, .iload_n 1, 1, 1, 0, 0, []), (25, .ifCond .eq 7, 3, 32, 0, 0, []), (28, .iload_n 2, 1, 2, 0, 0, []), (29, .ifCond .ne 4, 3, 33, 0, 0, []), (32, .return_, 1, 0, 0, 0, []), (33, .aload_n 0, 1, 0, 0, 0, []), (34, .iload 4, 2, 4, 0, 0, []), (36, .aload_n 0, 1, 0, 0, 0, []), (37, .getfield 45, 3, 6, 19, 0, []), (40, .iload 4, 2, 4, 0, 0, []), (42, .bipush 81, 2, 0, 0, 81, []), (44, .isub, 1, 0, 0, 0, []), (45, .iaload, 1, 0, 0, 0, []), (46, .aload_n 0, 1, 0, 0, 0, []), (47, .getfield 48, 3, 6, 20, 0, []), (50, .iload 4, 2, 4, 0, 0, []), (52, .bipush 81, 2, 0, 0, 81, []), (54, .isub, 1, 0, 0, 0, []), (55, .iaload, 1, 0, 0, 0, []), (56, .invokevirtual 362, 3, 241, 3, 0, [0, 16]), (59, .aload_n 0, 1, 0, 0, 0, []), (60, .iload 4, 2, 4, 0, 0, []), (62, .aload_n 0, 1, 0, 0, 0, []), (63, .getfield 45, 3, 6, 19, 0, []), (66, .iload 4, 2, 4, 0, 0, []), (68, .iconst 1, 1, 0, 0, 1, []), (69, .isub, 1, 0, 0, 0, []), (70, .iaload, 1, 0, 0, 0, []), (71, .aload_n 0, 1, 0, 0, 0, []), (72, .getfield 48, 3, 6, 20, 0, []), (75, .iload 4, 2, 4, 0, 0, []), (77, .iconst 1, 1, 0, 0, 1, []), (78, .isub, 1, 0, 0, 0, []), (79, .iaload, 1, 0, 0, 0, []), (80, .invokevirtual 362, 3, 241, 3, 0, [0, 16]), (83, .aload_n 0, 1, 0, 0, 0, []), (84, .getfield 39, 3, 6, 17, 0, []), (87, .iload_n 1, 1, 1, 0, 0, []), (88, .iconst 1, 1, 0, 0, 1, []), (89, .isub, 1, 0, 0, 0, []), (90, .iaload, 1, 0, 0, 0, []), (91, .aload_n 0, 1, 0, 0, 0, []), (92, .getfield 42, 3, 6, 18, 0, []), (95, .iload_n 2, 1, 2, 0, 0, []), (96, .iconst 1, 1, 0, 0, 1, []), (97, .isub, 1, 0, 0, 0, []), (98, .iaload, 1, 0, 0, 0, []), (99, .isub, 1, 0, 0, 0, []), (100, .invokestatic 326, 3, 1002, 1, 0, []), (103, .istore 5, 2, 5, 0, 0, []), (105, .iload 5, 2, 5, 0, 0, []), (107, .iload_n 3, 1, 3, 0, 0, []), (108, .if_icmp .gt 34, 3, 142, 0, 0, []), (111, .aload_n 0, 1, 0, 0, 0, []), (112, .iload 4, 2, 4, 0, 0, []), (114, .aload_n 0, 1, 0, 0, 0, []), (115, .getfield 45, 3, 6, 19, 0, []), (118, .iload 4, 2, 4, 0, 0, []), (120, .bipush 82, 2, 0, 0, 82, []), (122, .isub, 1, 0, 0, 0, []), (123, .iaload, 1, 0, 0, 0, []), (124, .iconst 1, 1, 0, 0, 1, []), (125, .iadd, 1, 0, 0, 0, []), (126, .aload_n 0, 1, 0, 0, 0, []), (127, .getfield 48, 3, 6, 20, 0, []), (130, .iload 4, 2, 4, 0, 0, []), (132, .bipush 82, 2, 0, 0, 82, []), (134, .isub, 1, 0, 0, 0, []), (135, .iaload, 1, 0, 0, 0, []), (136, .iload 5, 2, 5, 0, 0, []), (138, .iadd, 1, 0, 0, 0, []), (139, .invokevirtual 362, 3, 241, 3, 0, [0, 16]), (142, .return_, 1, 0, 0, 0, [])]
def zK_X6_better : List zEnt := [(0, .iload_n 2, 1, 2, 0, 0, []), (1, .aload_n 0, 1, 0, 0, 0, []), (2, .getfield 45, 3, 6, 19, 0, []), (5, .iload_n 1, 1, 1, 0, 0, []), (6, .iaload, 1, 0, 0, 0, []), (7, .if_icmp .lt 27, 3, 34, 0, 0, []), (10, .iload_n 2, 1, 2, 0, 0, []), (11, .aload_n 0, 1, 0, 0, 0, []), (12, .getfield 45, 3, 6, 19, 0, []), (15, .iload_n 1, 1, 1, 0, 0, []), (16, .iaload, 1, 0, 0, 0, []), (17, .if_icmp .ne 18, 3, 35, 0, 0, []), (20, .iload_n 3, 1, 3, 0, 0, []), (21, .aload_n 0, 1, 0, 0, 0, []), (22, .getfield 48, 3, 6, 20, 0, []), (25, .iload_n 1, 1, 1, 0, 0, []), (26, .iaload, 1, 0, 0, 0, []), (27, .if_icmp .lt 8, 3, 35, 0, 0, []), (30, .iload_n 2, 1, 2, 0, 0, []), (31, .ifCond .le 4, 3, 35, 0, 0, []), (34, .return_, 1, 0, 0, 0, []), (35, .aload_n 0, 1, 0, 0, 0, []), (36, .getfield 45, 3, 6, 19, 0, []), (39, .iload_n 1, 1, 1, 0, 0, []), (40, .iload_n 2, 1, 2, 0, 0, []), (41, .iastore, 1, 0, 0, 0, []), (42, .aload_n 0, 1, 0, 0, 0, []), (43, .getfield 48, 3, 6, 20, 0, []), (46, .iload_n 1, 1, 1, 0, 0, []), (47, .iload_n 3, 1, 3, 0, 0, []), (48, .iastore, 1, 0, 0, 0, []), (49, .return_, 1, 0, 0, 0, [])]
def zK_X6_same : List zEnt := [(0, .aload_n 0, 1, 0, 0, 0, []), (1, .iconst 0, 1, 0, 0, 0, []), (2, .putfield 1, 3, 6, 0, 0, []), (5, .aload_n 0, 1, 0, 0, 0, []), (6, .iload_n 1, 1, 1, 0, 0, []), (7, .invokevirtual 259, 3, 189, 1, 0, [1, 16]), (10, .ifCond .eq 37, 3, 47, 0, 0, []), (13, .aload_n 0, 1, 0, 0, 0, []), (14, .iload_n 2, 1, 2, 0, 0, []), (15, .iconst 0, 1, 0, 0, 0, []), (16, .sipush 999, 3, 0, 0, 999, []), (19, .invokestatic 157, 3, 137, 3, 0, [1]), (22, .ifCond .eq 16, 3, 38, 0, 0, []), (25, .iload_n 3, 1, 3, 0, 0, []), (26, .iconst 0, 1, 0, 0, 0, []), (27, .iconst 1, 1, 0, 0, 1, []), (28, .invokestatic 157, 3, 137, 3, 0, [1]), (31, .ifCond .eq 7, 3, 38, 0, 0, []), (34, .iconst 1, 1, 0, 0, 1, []), (35, .goto 4, 3, 39, 0, 0, []), (38, .iconst 0, 1, 0, 0, 0, []), (39, .iconst 2, 1, 0, 0, 2, []), (40, .iconst 1, 1, 0, 0, 1, []), (41, .invokevirtual 241, 3, 136, 3, 0, [1, 16]), (44, .ifCond .ne 5, 3, 49, 0, 0, []), (47, .iconst 0, 1, 0, 0, 0, []), (48, .ireturn, 1, 0, 0, 0, []), (49, .aload_n 0, 1, 0, 0, 0, []), (50, .iload_n 1, 1, 1, 0, 0, []), (51, .invokevirtual 314, 3, 236, 1, 0, [1, 16]), (54, .istore 4, 2, 4, 0, 0, []), (56, .iload 4, 2, 4, 0, 0, []), (58, .iconst (-1), 1, 0, 0, -1, []), (59, .if_icmp .ne 5, 3, 64, 0, 0, []), (62, .iconst (-1), 1, 0, 0, -1, []), (63, .ireturn, 1, 0, 0, 0, []), (64, .aload_n 0, 1, 0, 0, 0, []), (65, .getfield 17, 3, 6, 2, 0, []), (68, .iload_n 1, 1, 1, 0, 0, []), (69, .aload_n 0, 1, 0, 0, 0, []), (70, .getfield 39, 3, 6, 17, 0, []), (73, .invokestatic 329, 3, 239, 3, 0, [1]), (76, .istore 5, 2, 5, 0, 0, []), (78, .aload_n 0, 1, 0, 0, 0, []), (79, .getfield 20, 3, 6, 3, 0, []), (82, .iload 4, 2, 4, 0, 0, []), (84, .aload_n 0, 1, 0, 0, 0, []), (85, .getfield 42, 3, 6, 18, 0, []), (88, .invokestatic 329, 3, 239, 3, 0, [1]), (91, .istore 6, 2, 6, 0, 0, []), (93, .iconst 0, 1, 0, 0, 0, []), (94, .istore 7, 2, 7, 0, 0, []), (96, .iload 7, 2, 7, 0, 0, []), (98, .iload 5, 2, 5, 0, 0, []), (100, .if_icmp .gt 34, 3, 134, 0, 0, []), (103, .iconst 0, 1, 0, 0, 0, []), (104, .istore 8, 2, 8, 0, 0, []), (106, .iload 8, 2, 8, 0, 0, []), (108, .iload 6, 2, 6, 0, 0, []), (110, .if_icmp .gt 18, 3, 128, 0, 0, []), (113, .aload_n 0, 1, 0, 0, 0, []), (114, .iload 7, 2, 7, 0, 0, []), (116, .iload 8, 2, 8, 0, 0, []), (118, .iload_n 2, 1, 2, 0, 0, []), (119, .invokevirtual 365, 3, 240, 3, 0, [0, 16]), (122, .iinc 8 1, 3, 8, 0, 1, []), (125, .goto (-19), 3, 106, 0, 0, []), (128, .iinc 7 1, 3, 7, 0, 1, []), (131, .goto (-35), 3, 96, 0, 0, []), (134, .iload_n 3, 1, 3, 0, 0, []), (135, .ifCond .ne 19, 3, 154, 0, 0, []), (138, .aload_n 0, 1, 0, 0, 0, []), (139, .getfield 45, 3, 6, 19, 0, []), (142, .bipush 81, 2, 0, 0, 81, []), (144, .iload 5, 2, 5, 0, 0, []), (146, .imul, 1, 0, 0, 0, []), (147, .iload 6, 2, 6, 0, 0, []), (149, .iadd, 1, 0, 0, 0, []), (150, .iaload, 1, 0, 0, 0, []), (151, .goto 16, 3, 167, 0, 0, []), (154, .aload_n 0, 1, 0, 0, 0, []), (155, .getfield 48, 3, 6, 20, 0, []), (158, .bipush 81, 2, 0, 0, 81, []), (160, .iload 5, 2, 5, 0, 0, []), (162, .imul, 1, 0, 0, 0, []), (163, .iload 6, 2, 6, 0, 0, []), (165, .iadd, 1, 0, 0, 0, []), (166, .iaload, 1, 0, 0, 0, []), (167, .ireturn, 1, 0, 0, 0, [])]
def zK_X6_print : List zEnt := [(0, .aload_n 0, 1, 0, 0, 0, []), (1, .iconst 0, 1, 0, 0, 0, []), (2, .putfield 1, 3, 6, 0, 0, []), (5, .lconst 0, 1, 0, 0, 0, []), (6, .lstore_n 1, 1, 1, 0, 0, []), (7, .iconst 0, 1, 0, 0, 0, []), (8, .istore_n 3, 1, 3, 0, 0, []), (9, .iload_n 3, 1, 3, 0, 0, []), (10, .aload_n 0, 1, 0, 0, 0, []), (11, .invokevirtual 63, 3, 138, 0, 0, [1, 16]), (14, .if_icmp .ge 70, 3, 84, 0, 0, []), (17, .iconst 0, 1, 0, 0, 0, []), (18, .istore 4, 2, 4, 0, 0, []), (20, .iload 4, 2, 4, 0, 0, []), (22, .aload_n 0, 1, 0, 0, 0, []), (23, .iload_n 3, 1, 3, 0, 0, []), (24, .invokevirtual 70, 3, 142, 1, 0, [1, 16]), (27, .if_icmp .ge 45, 3, 72, 0, 0, []), (30, .iconst 0, 1, 0, 0, 0, []), (31, .istore 5, 2, 5, 0, 0, []), (33, .iload 5, 2, 5, 0, 0, []), (35, .iconst 3, 1, 0, 0, 3, []), (36, .if_icmp .ge 30, 3, 66, 0, 0, []), (39, .ldc2_w 368, 3, 31, 0, 0, []), (42, .lload_n 1, 1, 1, 0, 0, []), (43, .lmul, 1, 0, 0, 0, []), (44, .aload_n 0, 1, 0, 0, 0, []), (45, .getfield 17, 3, 6, 2, 0, []), (48, .iload_n 3, 1, 3, 0, 0, []), (49, .iload 4, 2, 4, 0, 0, []), (51, .iload 5, 2, 5, 0, 0, []), (53, .invokestatic 55, 3, 143, 3, 0, [1]), (56, .iaload, 1, 0, 0, 0, []), (57, .i2l, 1, 0, 0, 0, []), (58, .ladd, 1, 0, 0, 0, []), (59, .lstore_n 1, 1, 1, 0, 0, []), (60, .iinc 5 1, 3, 5, 0, 1, []), (63, .goto (-30), 3, 33, 0, 0, []), (66, .iinc 4 1, 3, 4, 0, 1, []), (69, .goto (-49), 3, 20, 0, 0, []), (72, .ldc2_w 368, 3, 31, 0, 0, []), (75, .lload_n 1, 1, 1, 0, 0, []), (76, .lmul, 1, 0, 0, 0, []), (77, .lstore_n 1, 1, 1, 0, 0, []), (78, .iinc 3 1, 3, 3, 0, 1, []), (81, .goto (-72), 3, 9, 0, 0, []), (84, .lload_n 1, 1, 1, 0, 0, []), (85, .lreturn, 1, 0, 0, 0, [])]
def zK_X6_status : List zEnt := [(0, .aload_n 0, 1, 0, 0, 0, []), (1, .iconst 0, 1, 0, 0, 0, []), (2, .putfield 1, 3, 6, 0, 0, []), (5, .iload_n 1, 1, 1, 0, 0, []), (6, .iconst 0, 1, 0, 0, 0, []), (7, .iconst 2, 1, 0, 0, 2, []), (8, .invokestatic 157, 3, 137, 3, 0, [1]), (11, .ifCond .eq 12, 3, 23, 0, 0, []), (14, .aload_n 0, 1, 0, 0, 0, []), (15, .getfield 7, 3, 6, 1, 0, []), (18, .iload_n 1, 1, 1, 0, 0, []), (19, .iaload, 1, 0, 0, 0, []), (20, .goto 4, 3, 24, 0, 0, []), (23, .iconst (-1), 1, 0, 0, -1, []), (24, .ireturn, 1, 0, 0, 0, [])]
def zP (j : Nat) : List zEnt × Nat := bif Nat.ble 122 j then (bif Nat.ble 183 j then (bif Nat.ble 214 j then (bif Nat.ble 229 j then (bif Nat.ble 237 j then (bif Nat.ble 241 j then (bif Nat.ble 243 j then (bif Nat.ble 244 j then ((zK_X6_status, 2)) else ((zK_X6_print, 6))) else (bif Nat.ble 242 j then ((zK_X6_same, 9)) else ((zK_X6_better, 4)))) else (bif Nat.ble 239 j then (bif Nat.ble 240 j then ((zK_X6_pairsOf, 6)) else ((zK_X6_times, 7))) else (bif Nat.ble 238 j then ((zK_X6_agree, 9)) else ((zK_X6_markIn, 4))))) else (bif Nat.ble 233 j then (bif Nat.ble 235 j then (bif Nat.ble 236 j then ((zK_X6_otherTier, 2)) else ((zK_X6_room, 4))) else (bif Nat.ble 234 j then ((zK_X6_stop, 5)) else ((zK_X6_longest, 8)))) else (bif Nat.ble 231 j then (bif Nat.ble 232 j then ((zK_X6_together, 9)) else ((zK_X6_find, 6))) else (bif Nat.ble 230 j then ((zK_X6_within, 9)) else ((zK_X6_over, 10)))))) else (bif Nat.ble 221 j then (bif Nat.ble 225 j then (bif Nat.ble 227 j then (bif Nat.ble 228 j then ((zK_X6_at, 3)) else ((zK_X6_mark, 4))) else (bif Nat.ble 226 j then ((zK_X6_lieIn, 6)) else ((zK_X6_tier, 3)))) else (bif Nat.ble 223 j then (bif Nat.ble 224 j then ((zK_X6_stopMany, 4)) else ((zK_X6_childMany, 4))) else (bif Nat.ble 222 j then ((zK_X6_timeOf, 4)) else ((zK_X6_told, 2))))) else (bif Nat.ble 217 j then (bif Nat.ble 219 j then (bif Nat.ble 220 j then ((zK_X6_families, 3)) else ((zK_X6_keep, 1))) else (bif Nat.ble 218 j then ((zK_X6_undo, 2)) else ((zK_X6_gaps, 9)))) else (bif Nat.ble 215 j then (bif Nat.ble 216 j then ((zK_X6_snap, 9)) else ((zK_X6_nearest, 5))) else ((zK_X6_moves, 6)))))) else (bif Nat.ble 198 j then (bif Nat.ble 206 j then (bif Nat.ble 210 j then (bif Nat.ble 212 j then (bif Nat.ble 213 j then ((zK_X6_mayMove, 4)) else ((zK_X6_adopted, 5))) else (bif Nat.ble 211 j then ((zK_X6_adopt, 5)) else ((zK_X6_label, 5)))) else (bif Nat.ble 208 j then (bif Nat.ble 209 j then ((zK_X6_areLetters, 3)) else ((zK_X6_silence, 6))) else (bif Nat.ble 207 j then ((zK_X6_latest, 4)) else ((zK_X6_stopsFrom, 5))))) else (bif Nat.ble 202 j then (bif Nat.ble 204 j then (bif Nat.ble 205 j then ((zK_X6_move, 6)) else ((zK_X6_endsAt, 6))) else (bif Nat.ble 203 j then ((zK_X6_isStopOf, 3)) else ((zK_X6_stopBehind, 4)))) else (bif Nat.ble 200 j then (bif Nat.ble 201 j then ((zK_X6_stopAhead, 4)) else ((zK_X6_join, 4))) else (bif Nat.ble 199 j then ((zK_X6_split, 4)) else ((zK_X6_take, 3)))))) else (bif Nat.ble 190 j then (bif Nat.ble 194 j then (bif Nat.ble 196 j then (bif Nat.ble 197 j then ((zK_X6_takesCut, 5)) else ((zK_X6_takesAll, 8))) else (bif Nat.ble 195 j then ((zK_X6_clears, 6)) else ((zK_X6_parentsOf, 3)))) else (bif Nat.ble 192 j then (bif Nat.ble 193 j then ((zK_X6_beside, 5)) else ((zK_X6_point, 3))) else (bif Nat.ble 191 j then ((zK_X6_put, 4)) else ((zK_X6_isMark, 3))))) else (bif Nat.ble 186 j then (bif Nat.ble 188 j then (bif Nat.ble 189 j then ((zK_X6_isTier, 2)) else ((zK_X6_keeps, 2))) else (bif Nat.ble 187 j then ((zK_X6_fault, 1)) else ((zK_X6_text, 3)))) else (bif Nat.ble 184 j then (bif Nat.ble 185 j then ((zK_X6_allMarks, 4)) else ((zK_X6_oneLine, 1))) else ((zK_X6_labelTold, 5))))))) else (bif Nat.ble 152 j then (bif Nat.ble 167 j then (bif Nat.ble 175 j then (bif Nat.ble 179 j then (bif Nat.ble 181 j then (bif Nat.ble 182 j then ((zK_X6_markAt, 4)) else ((zK_X6_splitTold, 7))) else (bif Nat.ble 180 j then ((zK_X6_pointTold, 5)) else ((zK_X6_markTold, 6)))) else (bif Nat.ble 177 j then (bif Nat.ble 178 j then ((zK_X6_labelHere, 1)) else ((zK_X6_tierTold, 7))) else (bif Nat.ble 176 j then ((zK_X6_known, 3)) else ((zK_X6_tierNamed, 4))))) else (bif Nat.ble 171 j then (bif Nat.ble 173 j then (bif Nat.ble 174 j then ((zK_X6_number, 5)) else ((zK_X6_isWordHere, 1))) else (bif Nat.ble 172 j then ((zK_X6_word, 6)) else ((zK_X6_passes, 3)))) else (bif Nat.ble 169 j then (bif Nat.ble 170 j then ((zK_X6_isSmall, 2)) else ((zK_X6_sign, 1))) else (bif Nat.ble 168 j then ((zK_X6_wrong, 3)) else ((zK_X6_puts_, 3)))))) else (bif Nat.ble 159 j then (bif Nat.ble 163 j then (bif Nat.ble 165 j then (bif Nat.ble 166 j then ((zK_X6_feed, 6)) else ((zK_X6_splits, 5))) else (bif Nat.ble 164 j then ((zK_X6_splitsOne, 5)) else ((zK_X6_hasRoomToSplit, 4)))) else (bif Nat.ble 161 j then (bif Nat.ble 162 j then ((zK_X6_markWith, 4)) else ((zK_X6_maySplit, 5))) else (bif Nat.ble 160 j then ((zK_X6_mayPoint, 4)) else ((zK_X6_puts, 7))))) else (bif Nat.ble 155 j then (bif Nat.ble 157 j then (bif Nat.ble 158 j then ((zK_X6_hasRoom, 3)) else ((zK_X6_isCutFrom, 4))) else (bif Nat.ble 156 j then ((zK_X6_mayPut, 4)) else ((zK_X6_isClear, 5)))) else (bif Nat.ble 153 j then (bif Nat.ble 154 j then ((zK_X6_removes, 4)) else ((zK_X6_inserts, 7))) else ((zK_X6_around, 5)))))) else (bif Nat.ble 137 j then (bif Nat.ble 144 j then (bif Nat.ble 148 j then (bif Nat.ble 150 j then (bif Nat.ble 151 j then ((zK_X6_isStop, 5)) else ((zK_X6_isBelow, 4))) else (bif Nat.ble 149 j then ((zK_X6_depthOf, 4)) else ((zK_X6_topOf, 3)))) else (bif Nat.ble 146 j then (bif Nat.ble 147 j then ((zK_X6_copies, 3)) else ((zK_X6_labelOf, 3))) else (bif Nat.ble 145 j then ((zK_X6_to, 3)) else ((zK_X6_from, 3))))) else (bif Nat.ble 140 j then (bif Nat.ble 142 j then (bif Nat.ble 143 j then ((zK_X6_cell, 3)) else ((zK_X6_many, 2))) else (bif Nat.ble 141 j then ((zK_X6_parent, 2)) else ((zK_X6_kind, 2)))) else (bif Nat.ble 138 j then (bif Nat.ble 139 j then ((zK_X6_pos, 2)) else ((zK_X6_tiers, 1))) else ((zK_X6_isIn, 3))))) else (bif Nat.ble 129 j then (bif Nat.ble 133 j then (bif Nat.ble 135 j then (bif Nat.ble 136 j then ((zK_X6_isFine, 4)) else ((zK_X6_thrown, 1))) else (bif Nat.ble 134 j then ((zK_X5_weighPairs, 8)) else ((zK_X5_goalOfSnap, 5)))) else (bif Nat.ble 131 j then (bif Nat.ble 132 j then ((zK_X5_twinOf, 3)) else ((zK_X5_isLabel, 4))) else (bif Nat.ble 130 j then ((zK_X5_needSpan, 3)) else ((zK_X5_needTime, 2))))) else (bif Nat.ble 125 j then (bif Nat.ble 127 j then (bif Nat.ble 128 j then ((zK_X5_needRange, 4)) else ((zK_X5_needStop, 3))) else (bif Nat.ble 126 j then ((zK_X5_needMark, 3)) else ((zK_X5_needTier, 2)))) else (bif Nat.ble 123 j then (bif Nat.ble 124 j then ((zK_X5_needState, 2)) else ((zK_X5_refuseArgument, 1))) else ((zK_X5_refuseMissing, 1)))))))) else (bif Nat.ble 61 j then (bif Nat.ble 91 j then (bif Nat.ble 106 j then (bif Nat.ble 114 j then (bif Nat.ble 118 j then (bif Nat.ble 120 j then (bif Nat.ble 121 j then ((zK_X5_status, 2)) else ((zK_X5_print, 6))) else (bif Nat.ble 119 j then ((zK_X5_same, 8)) else ((zK_X5_agree, 7)))) else (bif Nat.ble 116 j then (bif Nat.ble 117 j then ((zK_X5_room, 5)) else ((zK_X5_stop, 3))) else (bif Nat.ble 115 j then ((zK_X5_gaps, 9)) else ((zK_X5_longest, 10))))) else (bif Nat.ble 110 j then (bif Nat.ble 112 j then (bif Nat.ble 113 j then ((zK_X5_together, 10)) else ((zK_X5_find, 7))) else (bif Nat.ble 111 j then ((zK_X5_within, 12)) else ((zK_X5_over, 10)))) else (bif Nat.ble 108 j then (bif Nat.ble 109 j then ((zK_X5_at, 3)) else ((zK_X5_mark, 5))) else (bif Nat.ble 107 j then ((zK_X5_tier, 4)) else ((zK_X5_told, 2)))))) else (bif Nat.ble 98 j then (bif Nat.ble 102 j then (bif Nat.ble 104 j then (bif Nat.ble 105 j then ((zK_X5_keep, 1)) else ((zK_X5_undo, 1))) else (bif Nat.ble 103 j then ((zK_X5_snap, 9)) else ((zK_X5_adopt, 7)))) else (bif Nat.ble 100 j then (bif Nat.ble 101 j then ((zK_X5_label, 5)) else ((zK_X5_silence, 4))) else (bif Nat.ble 99 j then ((zK_X5_move, 5)) else ((zK_X5_join, 4))))) else (bif Nat.ble 94 j then (bif Nat.ble 96 j then (bif Nat.ble 97 j then ((zK_X5_split, 5)) else ((zK_X5_take, 5))) else (bif Nat.ble 95 j then ((zK_X5_point, 3)) else ((zK_X5_put, 4)))) else (bif Nat.ble 92 j then (bif Nat.ble 93 j then ((zK_X5_fault, 1)) else ((zK_X5_text, 2))) else ((zK_X5_feed, 6)))))) else (bif Nat.ble 76 j then (bif Nat.ble 83 j then (bif Nat.ble 87 j then (bif Nat.ble 89 j then (bif Nat.ble 90 j then ((zK_X4_nearest, 4)) else ((zK_X4_add, 4))) else (bif Nat.ble 88 j then ((zK_X4_has, 3)) else ((zK_X4_placeOf, 6)))) else (bif Nat.ble 85 j then (bif Nat.ble 86 j then ((zK_X4_clear, 1)) else ((zK_X3_insertSilence, 4))) else (bif Nat.ble 84 j then ((zK_X3_countStopsBehind, 5)) else ((zK_X3_allowsSilence, 6))))) else (bif Nat.ble 79 j then (bif Nat.ble 81 j then (bif Nat.ble 82 j then ((zK_X3_shiftStop, 6)) else ((zK_X3_allowsShift, 4))) else (bif Nat.ble 80 j then ((zK_X3_greatestFor, 6)) else ((zK_X3_leastFor, 6)))) else (bif Nat.ble 77 j then (bif Nat.ble 78 j then ((zK_X3_countEnds, 5)) else ((zK_X3_listStops, 4))) else ((zK_X3_gapBehind, 4))))) else (bif Nat.ble 68 j then (bif Nat.ble 72 j then (bif Nat.ble 74 j then (bif Nat.ble 75 j then ((zK_X3_allowsJoin, 4)) else ((zK_X3_cutAt, 5))) else (bif Nat.ble 73 j then ((zK_X3_hasRoomForCut, 4)) else ((zK_X3_allowsCut, 4)))) else (bif Nat.ble 70 j then (bif Nat.ble 71 j then ((zK_X3_isCutWith, 4)) else ((zK_X3_removeLostPoints, 4))) else (bif Nat.ble 69 j then ((zK_X3_removeWhole, 7)) else ((zK_X3_removePiece, 5))))) else (bif Nat.ble 64 j then (bif Nat.ble 66 j then (bif Nat.ble 67 j then ((zK_X3_heirOf, 4)) else ((zK_X3_allowsPoint, 4))) else (bif Nat.ble 65 j then ((zK_X3_addMark, 5)) else ((zK_X3_hasRoomForMark, 3)))) else (bif Nat.ble 62 j then (bif Nat.ble 63 j then ((zK_X3_allowsMark, 5)) else ((zK_X3_liesInParent, 4))) else ((zK_X3_countHeld, 6))))))) else (bif Nat.ble 30 j then (bif Nat.ble 45 j then (bif Nat.ble 53 j then (bif Nat.ble 57 j then (bif Nat.ble 59 j then (bif Nat.ble 60 j then ((zK_X3_haveSameParent, 4)) else ((zK_X3_parentMark, 4))) else (bif Nat.ble 58 j then ((zK_X3_isPieceOf, 5)) else ((zK_X3_isBelow, 5)))) else (bif Nat.ble 55 j then (bif Nat.ble 56 j then ((zK_X3_addTier, 7)) else ((zK_X3_countChildren, 4))) else (bif Nat.ble 54 j then ((zK_X3_countFamilies, 1)) else ((zK_X3_countMarks, 3))))) else (bif Nat.ble 49 j then (bif Nat.ble 51 j then (bif Nat.ble 52 j then ((zK_X3_indexOf, 3)) else ((zK_X3_hasTier, 2))) else (bif Nat.ble 50 j then ((zK_X3_copyFrom, 3)) else ((zK_X3_clear, 1)))) else (bif Nat.ble 47 j then (bif Nat.ble 48 j then ((zK_X2_insertSilence, 4)) else ((zK_X2_shiftEnds, 4))) else (bif Nat.ble 46 j then ((zK_X2_countEnds, 4)) else ((zK_X2_listTimes, 2)))))) else (bif Nat.ble 37 j then (bif Nat.ble 41 j then (bif Nat.ble 43 j then (bif Nat.ble 44 j then ((zK_X2_addTimesTo, 3)) else ((zK_X2_labelOf, 4))) else (bif Nat.ble 42 j then ((zK_X2_markAround, 4)) else ((zK_X2_markInside, 3)))) else (bif Nat.ble 39 j then (bif Nat.ble 40 j then ((zK_X2_markAt, 3)) else ((zK_X2_sharedBeside, 6))) else (bif Nat.ble 38 j then ((zK_X2_shared, 4)) else ((zK_X2_hasOver, 4))))) else (bif Nat.ble 33 j then (bif Nat.ble 35 j then (bif Nat.ble 36 j then ((zK_X2_isOver, 4)) else ((zK_X2_liesIn, 4))) else (bif Nat.ble 34 j then ((zK_X2_joinNext, 2)) else ((zK_X2_cutMark, 4)))) else (bif Nat.ble 31 j then (bif Nat.ble 32 j then ((zK_X2_removeWithin, 5)) else ((zK_X2_remove, 3))) else ((zK_X2_insert, 5)))))) else (bif Nat.ble 15 j then (bif Nat.ble 22 j then (bif Nat.ble 26 j then (bif Nat.ble 28 j then (bif Nat.ble 29 j then ((zK_X2_wholeLength, 3)) else ((zK_X2_length, 2))) else (bif Nat.ble 27 j then ((zK_X2_hasMark, 2)) else ((zK_X2_isFull, 1)))) else (bif Nat.ble 24 j then (bif Nat.ble 25 j then ((zK_X2_copyFrom, 2)) else ((zK_X1_readLabel, 4))) else (bif Nat.ble 23 j then ((zK_X1_carryOut, 5)) else ((zK_X1_faultOf, 7))))) else (bif Nat.ble 18 j then (bif Nat.ble 20 j then (bif Nat.ble 21 j then ((zK_X1_readMarkLine, 7)) else ((zK_X1_readParent, 4))) else (bif Nat.ble 19 j then ((zK_X1_readTierLine, 3)) else ((zK_X1_verbThere, 1)))) else (bif Nat.ble 16 j then (bif Nat.ble 17 j then ((zK_X1_kindThere, 1)) else ((zK_X1_isTimeThere, 1))) else ((zK_X1_tierThere, 2))))) else (bif Nat.ble 7 j then (bif Nat.ble 11 j then (bif Nat.ble 13 j then (bif Nat.ble 14 j then ((zK_X1_nameThere, 1)) else ((zK_X1_isShortWord, 2))) else (bif Nat.ble 12 j then ((zK_X1_isWord, 3)) else ((zK_X1_isSemicolon, 1)))) else (bif Nat.ble 9 j then (bif Nat.ble 10 j then ((zK_X1_isDigit, 1)) else ((zK_X1_isLetter, 1))) else (bif Nat.ble 8 j then ((zK_X1_scanNumber, 1)) else ((zK_X1_scanWord, 1))))) else (bif Nat.ble 3 j then (bif Nat.ble 5 j then (bif Nat.ble 6 j then ((zK_X1_advance, 1)) else ((zK_X1_fail, 3))) else (bif Nat.ble 4 j then ((zK_X1_readText, 4)) else ((zK_X1_appendNumber, 3)))) else (bif Nat.ble 1 j then (bif Nat.ble 2 j then ((zK_X0_recall, 2)) else ((zK_X0_remember, 2))) else ((zK_X0_forget, 1))))))))
theorem zP_0 : zP 0 = (zK_X0_forget, 1) := rfl
theorem zP_1 : zP 1 = (zK_X0_remember, 2) := rfl
theorem zP_2 : zP 2 = (zK_X0_recall, 2) := rfl
theorem zP_3 : zP 3 = (zK_X1_appendNumber, 3) := rfl
theorem zP_4 : zP 4 = (zK_X1_readText, 4) := rfl
theorem zP_5 : zP 5 = (zK_X1_fail, 3) := rfl
theorem zP_6 : zP 6 = (zK_X1_advance, 1) := rfl
theorem zP_7 : zP 7 = (zK_X1_scanWord, 1) := rfl
theorem zP_8 : zP 8 = (zK_X1_scanNumber, 1) := rfl
theorem zP_9 : zP 9 = (zK_X1_isLetter, 1) := rfl
theorem zP_10 : zP 10 = (zK_X1_isDigit, 1) := rfl
theorem zP_11 : zP 11 = (zK_X1_isSemicolon, 1) := rfl
theorem zP_12 : zP 12 = (zK_X1_isWord, 3) := rfl
theorem zP_13 : zP 13 = (zK_X1_isShortWord, 2) := rfl
theorem zP_14 : zP 14 = (zK_X1_nameThere, 1) := rfl
theorem zP_15 : zP 15 = (zK_X1_tierThere, 2) := rfl
theorem zP_16 : zP 16 = (zK_X1_isTimeThere, 1) := rfl
theorem zP_17 : zP 17 = (zK_X1_kindThere, 1) := rfl
theorem zP_18 : zP 18 = (zK_X1_verbThere, 1) := rfl
theorem zP_19 : zP 19 = (zK_X1_readTierLine, 3) := rfl
theorem zP_20 : zP 20 = (zK_X1_readParent, 4) := rfl
theorem zP_21 : zP 21 = (zK_X1_readMarkLine, 7) := rfl
theorem zP_22 : zP 22 = (zK_X1_faultOf, 7) := rfl
theorem zP_23 : zP 23 = (zK_X1_carryOut, 5) := rfl
theorem zP_24 : zP 24 = (zK_X1_readLabel, 4) := rfl
theorem zP_25 : zP 25 = (zK_X2_copyFrom, 2) := rfl
theorem zP_26 : zP 26 = (zK_X2_isFull, 1) := rfl
theorem zP_27 : zP 27 = (zK_X2_hasMark, 2) := rfl
theorem zP_28 : zP 28 = (zK_X2_length, 2) := rfl
theorem zP_29 : zP 29 = (zK_X2_wholeLength, 3) := rfl
theorem zP_30 : zP 30 = (zK_X2_insert, 5) := rfl
theorem zP_31 : zP 31 = (zK_X2_remove, 3) := rfl
theorem zP_32 : zP 32 = (zK_X2_removeWithin, 5) := rfl
theorem zP_33 : zP 33 = (zK_X2_cutMark, 4) := rfl
theorem zP_34 : zP 34 = (zK_X2_joinNext, 2) := rfl
theorem zP_35 : zP 35 = (zK_X2_liesIn, 4) := rfl
theorem zP_36 : zP 36 = (zK_X2_isOver, 4) := rfl
theorem zP_37 : zP 37 = (zK_X2_hasOver, 4) := rfl
theorem zP_38 : zP 38 = (zK_X2_shared, 4) := rfl
theorem zP_39 : zP 39 = (zK_X2_sharedBeside, 6) := rfl
theorem zP_40 : zP 40 = (zK_X2_markAt, 3) := rfl
theorem zP_41 : zP 41 = (zK_X2_markInside, 3) := rfl
theorem zP_42 : zP 42 = (zK_X2_markAround, 4) := rfl
theorem zP_43 : zP 43 = (zK_X2_labelOf, 4) := rfl
theorem zP_44 : zP 44 = (zK_X2_addTimesTo, 3) := rfl
theorem zP_45 : zP 45 = (zK_X2_listTimes, 2) := rfl
theorem zP_46 : zP 46 = (zK_X2_countEnds, 4) := rfl
theorem zP_47 : zP 47 = (zK_X2_shiftEnds, 4) := rfl
theorem zP_48 : zP 48 = (zK_X2_insertSilence, 4) := rfl
theorem zP_49 : zP 49 = (zK_X3_clear, 1) := rfl
theorem zP_50 : zP 50 = (zK_X3_copyFrom, 3) := rfl
theorem zP_51 : zP 51 = (zK_X3_hasTier, 2) := rfl
theorem zP_52 : zP 52 = (zK_X3_indexOf, 3) := rfl
theorem zP_53 : zP 53 = (zK_X3_countMarks, 3) := rfl
theorem zP_54 : zP 54 = (zK_X3_countFamilies, 1) := rfl
theorem zP_55 : zP 55 = (zK_X3_countChildren, 4) := rfl
theorem zP_56 : zP 56 = (zK_X3_addTier, 7) := rfl
theorem zP_57 : zP 57 = (zK_X3_isBelow, 5) := rfl
theorem zP_58 : zP 58 = (zK_X3_isPieceOf, 5) := rfl
theorem zP_59 : zP 59 = (zK_X3_parentMark, 4) := rfl
theorem zP_60 : zP 60 = (zK_X3_haveSameParent, 4) := rfl
theorem zP_61 : zP 61 = (zK_X3_countHeld, 6) := rfl
theorem zP_62 : zP 62 = (zK_X3_liesInParent, 4) := rfl
theorem zP_63 : zP 63 = (zK_X3_allowsMark, 5) := rfl
theorem zP_64 : zP 64 = (zK_X3_hasRoomForMark, 3) := rfl
theorem zP_65 : zP 65 = (zK_X3_addMark, 5) := rfl
theorem zP_66 : zP 66 = (zK_X3_allowsPoint, 4) := rfl
theorem zP_67 : zP 67 = (zK_X3_heirOf, 4) := rfl
theorem zP_68 : zP 68 = (zK_X3_removePiece, 5) := rfl
theorem zP_69 : zP 69 = (zK_X3_removeWhole, 7) := rfl
theorem zP_70 : zP 70 = (zK_X3_removeLostPoints, 4) := rfl
theorem zP_71 : zP 71 = (zK_X3_isCutWith, 4) := rfl
theorem zP_72 : zP 72 = (zK_X3_allowsCut, 4) := rfl
theorem zP_73 : zP 73 = (zK_X3_hasRoomForCut, 4) := rfl
theorem zP_74 : zP 74 = (zK_X3_cutAt, 5) := rfl
theorem zP_75 : zP 75 = (zK_X3_allowsJoin, 4) := rfl
theorem zP_76 : zP 76 = (zK_X3_gapBehind, 4) := rfl
theorem zP_77 : zP 77 = (zK_X3_listStops, 4) := rfl
theorem zP_78 : zP 78 = (zK_X3_countEnds, 5) := rfl
theorem zP_79 : zP 79 = (zK_X3_leastFor, 6) := rfl
theorem zP_80 : zP 80 = (zK_X3_greatestFor, 6) := rfl
theorem zP_81 : zP 81 = (zK_X3_allowsShift, 4) := rfl
theorem zP_82 : zP 82 = (zK_X3_shiftStop, 6) := rfl
theorem zP_83 : zP 83 = (zK_X3_allowsSilence, 6) := rfl
theorem zP_84 : zP 84 = (zK_X3_countStopsBehind, 5) := rfl
theorem zP_85 : zP 85 = (zK_X3_insertSilence, 4) := rfl
theorem zP_86 : zP 86 = (zK_X4_clear, 1) := rfl
theorem zP_87 : zP 87 = (zK_X4_placeOf, 6) := rfl
theorem zP_88 : zP 88 = (zK_X4_has, 3) := rfl
theorem zP_89 : zP 89 = (zK_X4_add, 4) := rfl
theorem zP_90 : zP 90 = (zK_X4_nearest, 4) := rfl
theorem zP_91 : zP 91 = (zK_X5_feed, 6) := rfl
theorem zP_92 : zP 92 = (zK_X5_text, 2) := rfl
theorem zP_93 : zP 93 = (zK_X5_fault, 1) := rfl
theorem zP_94 : zP 94 = (zK_X5_put, 4) := rfl
theorem zP_95 : zP 95 = (zK_X5_point, 3) := rfl
theorem zP_96 : zP 96 = (zK_X5_take, 5) := rfl
theorem zP_97 : zP 97 = (zK_X5_split, 5) := rfl
theorem zP_98 : zP 98 = (zK_X5_join, 4) := rfl
theorem zP_99 : zP 99 = (zK_X5_move, 5) := rfl
theorem zP_100 : zP 100 = (zK_X5_silence, 4) := rfl
theorem zP_101 : zP 101 = (zK_X5_label, 5) := rfl
theorem zP_102 : zP 102 = (zK_X5_adopt, 7) := rfl
theorem zP_103 : zP 103 = (zK_X5_snap, 9) := rfl
theorem zP_104 : zP 104 = (zK_X5_undo, 1) := rfl
theorem zP_105 : zP 105 = (zK_X5_keep, 1) := rfl
theorem zP_106 : zP 106 = (zK_X5_told, 2) := rfl
theorem zP_107 : zP 107 = (zK_X5_tier, 4) := rfl
theorem zP_108 : zP 108 = (zK_X5_mark, 5) := rfl
theorem zP_109 : zP 109 = (zK_X5_at, 3) := rfl
theorem zP_110 : zP 110 = (zK_X5_over, 10) := rfl
theorem zP_111 : zP 111 = (zK_X5_within, 12) := rfl
theorem zP_112 : zP 112 = (zK_X5_find, 7) := rfl
theorem zP_113 : zP 113 = (zK_X5_together, 10) := rfl
theorem zP_114 : zP 114 = (zK_X5_longest, 10) := rfl
theorem zP_115 : zP 115 = (zK_X5_gaps, 9) := rfl
theorem zP_116 : zP 116 = (zK_X5_stop, 3) := rfl
theorem zP_117 : zP 117 = (zK_X5_room, 5) := rfl
theorem zP_118 : zP 118 = (zK_X5_agree, 7) := rfl
theorem zP_119 : zP 119 = (zK_X5_same, 8) := rfl
theorem zP_120 : zP 120 = (zK_X5_print, 6) := rfl
theorem zP_121 : zP 121 = (zK_X5_status, 2) := rfl
theorem zP_122 : zP 122 = (zK_X5_refuseMissing, 1) := rfl
theorem zP_123 : zP 123 = (zK_X5_refuseArgument, 1) := rfl
theorem zP_124 : zP 124 = (zK_X5_needState, 2) := rfl
theorem zP_125 : zP 125 = (zK_X5_needTier, 2) := rfl
theorem zP_126 : zP 126 = (zK_X5_needMark, 3) := rfl
theorem zP_127 : zP 127 = (zK_X5_needStop, 3) := rfl
theorem zP_128 : zP 128 = (zK_X5_needRange, 4) := rfl
theorem zP_129 : zP 129 = (zK_X5_needTime, 2) := rfl
theorem zP_130 : zP 130 = (zK_X5_needSpan, 3) := rfl
theorem zP_131 : zP 131 = (zK_X5_isLabel, 4) := rfl
theorem zP_132 : zP 132 = (zK_X5_twinOf, 3) := rfl
theorem zP_133 : zP 133 = (zK_X5_goalOfSnap, 5) := rfl
theorem zP_134 : zP 134 = (zK_X5_weighPairs, 8) := rfl
theorem zP_135 : zP 135 = (zK_X6_thrown, 1) := rfl
theorem zP_136 : zP 136 = (zK_X6_isFine, 4) := rfl
theorem zP_137 : zP 137 = (zK_X6_isIn, 3) := rfl
theorem zP_138 : zP 138 = (zK_X6_tiers, 1) := rfl
theorem zP_139 : zP 139 = (zK_X6_pos, 2) := rfl
theorem zP_140 : zP 140 = (zK_X6_kind, 2) := rfl
theorem zP_141 : zP 141 = (zK_X6_parent, 2) := rfl
theorem zP_142 : zP 142 = (zK_X6_many, 2) := rfl
theorem zP_143 : zP 143 = (zK_X6_cell, 3) := rfl
theorem zP_144 : zP 144 = (zK_X6_from, 3) := rfl
theorem zP_145 : zP 145 = (zK_X6_to, 3) := rfl
theorem zP_146 : zP 146 = (zK_X6_labelOf, 3) := rfl
theorem zP_147 : zP 147 = (zK_X6_copies, 3) := rfl
theorem zP_148 : zP 148 = (zK_X6_topOf, 3) := rfl
theorem zP_149 : zP 149 = (zK_X6_depthOf, 4) := rfl
theorem zP_150 : zP 150 = (zK_X6_isBelow, 4) := rfl
theorem zP_151 : zP 151 = (zK_X6_isStop, 5) := rfl
theorem zP_152 : zP 152 = (zK_X6_around, 5) := rfl
theorem zP_153 : zP 153 = (zK_X6_inserts, 7) := rfl
theorem zP_154 : zP 154 = (zK_X6_removes, 4) := rfl
theorem zP_155 : zP 155 = (zK_X6_isClear, 5) := rfl
theorem zP_156 : zP 156 = (zK_X6_mayPut, 4) := rfl
theorem zP_157 : zP 157 = (zK_X6_isCutFrom, 4) := rfl
theorem zP_158 : zP 158 = (zK_X6_hasRoom, 3) := rfl
theorem zP_159 : zP 159 = (zK_X6_puts, 7) := rfl
theorem zP_160 : zP 160 = (zK_X6_mayPoint, 4) := rfl
theorem zP_161 : zP 161 = (zK_X6_maySplit, 5) := rfl
theorem zP_162 : zP 162 = (zK_X6_markWith, 4) := rfl
theorem zP_163 : zP 163 = (zK_X6_hasRoomToSplit, 4) := rfl
theorem zP_164 : zP 164 = (zK_X6_splitsOne, 5) := rfl
theorem zP_165 : zP 165 = (zK_X6_splits, 5) := rfl
theorem zP_166 : zP 166 = (zK_X6_feed, 6) := rfl
theorem zP_167 : zP 167 = (zK_X6_puts_, 3) := rfl
theorem zP_168 : zP 168 = (zK_X6_wrong, 3) := rfl
theorem zP_169 : zP 169 = (zK_X6_sign, 1) := rfl
theorem zP_170 : zP 170 = (zK_X6_isSmall, 2) := rfl
theorem zP_171 : zP 171 = (zK_X6_passes, 3) := rfl
theorem zP_172 : zP 172 = (zK_X6_word, 6) := rfl
theorem zP_173 : zP 173 = (zK_X6_isWordHere, 1) := rfl
theorem zP_174 : zP 174 = (zK_X6_number, 5) := rfl
theorem zP_175 : zP 175 = (zK_X6_tierNamed, 4) := rfl
theorem zP_176 : zP 176 = (zK_X6_known, 3) := rfl
theorem zP_177 : zP 177 = (zK_X6_tierTold, 7) := rfl
theorem zP_178 : zP 178 = (zK_X6_labelHere, 1) := rfl
theorem zP_179 : zP 179 = (zK_X6_markTold, 6) := rfl
theorem zP_180 : zP 180 = (zK_X6_pointTold, 5) := rfl
theorem zP_181 : zP 181 = (zK_X6_splitTold, 7) := rfl
theorem zP_182 : zP 182 = (zK_X6_markAt, 4) := rfl
theorem zP_183 : zP 183 = (zK_X6_labelTold, 5) := rfl
theorem zP_184 : zP 184 = (zK_X6_oneLine, 1) := rfl
theorem zP_185 : zP 185 = (zK_X6_allMarks, 4) := rfl
theorem zP_186 : zP 186 = (zK_X6_text, 3) := rfl
theorem zP_187 : zP 187 = (zK_X6_fault, 1) := rfl
theorem zP_188 : zP 188 = (zK_X6_keeps, 2) := rfl
theorem zP_189 : zP 189 = (zK_X6_isTier, 2) := rfl
theorem zP_190 : zP 190 = (zK_X6_isMark, 3) := rfl
theorem zP_191 : zP 191 = (zK_X6_put, 4) := rfl
theorem zP_192 : zP 192 = (zK_X6_point, 3) := rfl
theorem zP_193 : zP 193 = (zK_X6_beside, 5) := rfl
theorem zP_194 : zP 194 = (zK_X6_parentsOf, 3) := rfl
theorem zP_195 : zP 195 = (zK_X6_clears, 6) := rfl
theorem zP_196 : zP 196 = (zK_X6_takesAll, 8) := rfl
theorem zP_197 : zP 197 = (zK_X6_takesCut, 5) := rfl
theorem zP_198 : zP 198 = (zK_X6_take, 3) := rfl
theorem zP_199 : zP 199 = (zK_X6_split, 4) := rfl
theorem zP_200 : zP 200 = (zK_X6_join, 4) := rfl
theorem zP_201 : zP 201 = (zK_X6_stopAhead, 4) := rfl
theorem zP_202 : zP 202 = (zK_X6_stopBehind, 4) := rfl
theorem zP_203 : zP 203 = (zK_X6_isStopOf, 3) := rfl
theorem zP_204 : zP 204 = (zK_X6_endsAt, 6) := rfl
theorem zP_205 : zP 205 = (zK_X6_move, 6) := rfl
theorem zP_206 : zP 206 = (zK_X6_stopsFrom, 5) := rfl
theorem zP_207 : zP 207 = (zK_X6_latest, 4) := rfl
theorem zP_208 : zP 208 = (zK_X6_silence, 6) := rfl
theorem zP_209 : zP 209 = (zK_X6_areLetters, 3) := rfl
theorem zP_210 : zP 210 = (zK_X6_label, 5) := rfl
theorem zP_211 : zP 211 = (zK_X6_adopt, 5) := rfl
theorem zP_212 : zP 212 = (zK_X6_adopted, 5) := rfl
theorem zP_213 : zP 213 = (zK_X6_mayMove, 4) := rfl
theorem zP_214 : zP 214 = (zK_X6_moves, 6) := rfl
theorem zP_215 : zP 215 = (zK_X6_nearest, 5) := rfl
theorem zP_216 : zP 216 = (zK_X6_snap, 9) := rfl
theorem zP_217 : zP 217 = (zK_X6_gaps, 9) := rfl
theorem zP_218 : zP 218 = (zK_X6_undo, 2) := rfl
theorem zP_219 : zP 219 = (zK_X6_keep, 1) := rfl
theorem zP_220 : zP 220 = (zK_X6_families, 3) := rfl
theorem zP_221 : zP 221 = (zK_X6_told, 2) := rfl
theorem zP_222 : zP 222 = (zK_X6_timeOf, 4) := rfl
theorem zP_223 : zP 223 = (zK_X6_childMany, 4) := rfl
theorem zP_224 : zP 224 = (zK_X6_stopMany, 4) := rfl
theorem zP_225 : zP 225 = (zK_X6_tier, 3) := rfl
theorem zP_226 : zP 226 = (zK_X6_lieIn, 6) := rfl
theorem zP_227 : zP 227 = (zK_X6_mark, 4) := rfl
theorem zP_228 : zP 228 = (zK_X6_at, 3) := rfl
theorem zP_229 : zP 229 = (zK_X6_over, 10) := rfl
theorem zP_230 : zP 230 = (zK_X6_within, 9) := rfl
theorem zP_231 : zP 231 = (zK_X6_find, 6) := rfl
theorem zP_232 : zP 232 = (zK_X6_together, 9) := rfl
theorem zP_233 : zP 233 = (zK_X6_longest, 8) := rfl
theorem zP_234 : zP 234 = (zK_X6_stop, 5) := rfl
theorem zP_235 : zP 235 = (zK_X6_room, 4) := rfl
theorem zP_236 : zP 236 = (zK_X6_otherTier, 2) := rfl
theorem zP_237 : zP 237 = (zK_X6_markIn, 4) := rfl
theorem zP_238 : zP 238 = (zK_X6_agree, 9) := rfl
theorem zP_239 : zP 239 = (zK_X6_times, 7) := rfl
theorem zP_240 : zP 240 = (zK_X6_pairsOf, 6) := rfl
theorem zP_241 : zP 241 = (zK_X6_better, 4) := rfl
theorem zP_242 : zP 242 = (zK_X6_same, 9) := rfl
theorem zP_243 : zP 243 = (zK_X6_print, 6) := rfl
theorem zP_244 : zP 244 = (zK_X6_status, 2) := rfl
end
section
theorem e_X0_forget (i0 : Nat) (σ : zSt) : zrun zP 0 [zR 10 i0] σ = (
  some (.inl none, (zms (zms σ.1 10 i0 1 0) 10 i0 2 0, σ.2))) := (zrun_eq _ _ _).trans ((zun_eq zK_X0_forget [] 8 _ _).trans rfl)
theorem e_X0_remember (i0 : Nat) (i1 : Nat) (σ : zSt) : zrun zP 1 [zR 10 i0, zR 13 i1] σ = (
  if (σ.1 10 i0 1) < 0 ∨ 12 ≤ Int32.toNatClampNeg (σ.1 10 i0 1) then
  (none)
  else
  (zcV (zrun zP 50 [zR 13 (2 + Int32.toNatClampNeg (σ.1 10 i0 1)), zR 13 i1] σ) (fun s1 =>
    if ((s1.1 10 i0 1) + 1) = 12 then
      (some (.inl none, (zms (zms s1.1 10 i0 1 0) 10 i0 2 (if 12 < (((zms s1.1 10 i0 1 0) 10 i0 2) + 1) then 12 else (((zms s1.1 10 i0 1 0) 10 i0 2) + 1)), s1.2)))
      else
      (some (.inl none, (zms (zms s1.1 10 i0 1 ((s1.1 10 i0 1) + 1)) 10 i0 2 (if 12 < (((zms s1.1 10 i0 1 ((s1.1 10 i0 1) + 1)) 10 i0 2) + 1) then 12 else (((zms s1.1 10 i0 1 ((s1.1 10 i0 1) + 1)) 10 i0 2) + 1)), s1.2)))))) := (zrun_eq _ _ _).trans ((zun_eq zK_X0_remember [] 29 _ _).trans rfl)
theorem e_X0_recall (i0 : Nat) (i1 : Nat) (σ : zSt) : zrun zP 2 [zR 10 i0, zR 13 i1] σ = (
  if (σ.1 10 i0 2) = 0 then
  (some (.inl (some (zI 0)), σ))
  else
  (if (σ.1 10 i0 1) = 0 then
    (if ((zms (zms σ.1 10 i0 1 11) 10 i0 2 (((zms σ.1 10 i0 1 11) 10 i0 2) - 1)) 10 i0 1) < 0 ∨ 12 ≤ Int32.toNatClampNeg ((zms (zms σ.1 10 i0 1 11) 10 i0 2 (((zms σ.1 10 i0 1 11) 10 i0 2) - 1)) 10 i0 1) then
      (none)
      else
      (zcV (zrun zP 50 [zR 13 i1, zR 13 (2 + Int32.toNatClampNeg ((zms (zms σ.1 10 i0 1 11) 10 i0 2 (((zms σ.1 10 i0 1 11) 10 i0 2) - 1)) 10 i0 1))] (zms (zms σ.1 10 i0 1 11) 10 i0 2 (((zms σ.1 10 i0 1 11) 10 i0 2) - 1), σ.2)) (fun s1 =>
        some (.inl (some (zI 1)), s1))))
    else
    (if ((zms (zms σ.1 10 i0 1 ((σ.1 10 i0 1) - 1)) 10 i0 2 (((zms σ.1 10 i0 1 ((σ.1 10 i0 1) - 1)) 10 i0 2) - 1)) 10 i0 1) < 0 ∨ 12 ≤ Int32.toNatClampNeg ((zms (zms σ.1 10 i0 1 ((σ.1 10 i0 1) - 1)) 10 i0 2 (((zms σ.1 10 i0 1 ((σ.1 10 i0 1) - 1)) 10 i0 2) - 1)) 10 i0 1) then
      (none)
      else
      (zcV (zrun zP 50 [zR 13 i1, zR 13 (2 + Int32.toNatClampNeg ((zms (zms σ.1 10 i0 1 ((σ.1 10 i0 1) - 1)) 10 i0 2 (((zms σ.1 10 i0 1 ((σ.1 10 i0 1) - 1)) 10 i0 2) - 1)) 10 i0 1))] (zms (zms σ.1 10 i0 1 ((σ.1 10 i0 1) - 1)) 10 i0 2 (((zms σ.1 10 i0 1 ((σ.1 10 i0 1) - 1)) 10 i0 2) - 1), σ.2)) (fun s2 =>
        some (.inl (some (zI 1)), s2)))))) := (zrun_eq _ _ _).trans ((zun_eq zK_X0_recall [] 28 _ _).trans rfl)
theorem e_X1_appendNumber_3 (i0 : Nat) (x1 : Int32) (x2 : Int32) (σ : zSt) : zX zP zK_X1_appendNumber (3, [zR 11 i0, zI x1, zI x2], []) σ = (
  if x2 < 0 then
  (some (.inl none, σ))
  else
  (if (σ.1 11 i0 1) < 400 then
    (if (σ.1 11 i0 1) < 0 ∨ 400 ≤ Int32.toNatClampNeg (σ.1 11 i0 1) then
      (none)
      else
      (zX zP zK_X1_appendNumber (3, [zR 11 i0, zI x1, zI (x2 + (-8))], []) (zms (zms σ.1 27 0 (Int32.toNatClampNeg (σ.1 11 i0 1)) (Int8.toInt32 (Int32.toInt8 (Int8.toInt32 (Int32.toInt8 (x1 >>> (x2 &&& 31))))))) 11 i0 1 ((σ.1 11 i0 1) + 1), σ.2)))
    else
    (some (.inl none, σ)))) := (zun_eq zK_X1_appendNumber [3] 24 _ _).trans rfl
theorem e_X1_appendNumber (i0 : Nat) (x1 : Int32) (σ : zSt) : zrun zP 3 [zR 11 i0, zI x1] σ = (
  zX zP zK_X1_appendNumber (3, [zR 11 i0, zI x1, zI 24], []) σ) := (zrun_eq _ _ _).trans ((zun_eq zK_X1_appendNumber [3] 3 _ _).trans rfl)
theorem e_X1_readText_49 (i0 : Nat) (x1 : Int32) (x2 : Int32) (v3 : zAV) (σ : zSt) : zX zP zK_X1_readText (49, [zR 11 i0, zI x1, zI x2, v3], []) σ = (
  if x2 < 400 then
  (if (σ.1 11 i0 7) = 4 then
    (some (.inl (some (zI 1)), σ))
    else
    (zcI (zrun zP 12 [zR 11 i0, zR 1 0] σ) (fun r1 s1 =>
      if r1 = 0 then
        (zcI (zrun zP 21 [zR 11 i0] s1) (fun r2 s2 =>
          if r2 = 0 then
            (some (.inl (some (zI 0)), s2))
            else
            (zcI (zrun zP 11 [zR 11 i0] s2) (fun r3 s3 =>
              if r3 = 0 then
                (zcI (zrun zP 5 [zR 11 i0, zI 1, zI (s3.1 11 i0 8)] s3) (fun r4 s4 =>
                  some (.inl (some (zI r4)), s4)))
                else
                (zcV (zrun zP 6 [zR 11 i0] s3) (fun s5 =>
                  zX zP zK_X1_readText (49, [zR 11 i0, zI x1, zI (x2 + 1), zI r2], []) s5))))))
        else
        (zcI (zrun zP 19 [zR 11 i0] s1) (fun r6 s6 =>
          if r6 = 0 then
            (some (.inl (some (zI 0)), s6))
            else
            (zcI (zrun zP 11 [zR 11 i0] s6) (fun r7 s7 =>
              if r7 = 0 then
                (zcI (zrun zP 5 [zR 11 i0, zI 1, zI (s7.1 11 i0 8)] s7) (fun r8 s8 =>
                  some (.inl (some (zI r8)), s8)))
                else
                (zcV (zrun zP 6 [zR 11 i0] s7) (fun s9 =>
                  zX zP zK_X1_readText (49, [zR 11 i0, zI x1, zI (x2 + 1), zI r6], []) s9)))))))))
  else
  (some (.inl (some (zI 1)), σ))) := (zun_eq zK_X1_readText [49] 27 _ _).trans rfl
theorem e_X1_readText (i0 : Nat) (x1 : Int32) (σ : zSt) : zrun zP 4 [zR 11 i0, zI x1] σ = (
  zcV (zrun zP 49 [zR 13 14] (zms (zms (zms (zms (zms σ.1 11 i0 5 (if 0 < (if (σ.1 11 i0 1) < x1 then (σ.1 11 i0 1) else x1) then (if (σ.1 11 i0 1) < x1 then (σ.1 11 i0 1) else x1) else 0)) 11 i0 1 0) 11 i0 6 0) 11 i0 3 0) 11 i0 4 (-1), σ.2)) (fun s1 =>
  zcV (zrun zP 6 [zR 11 i0] s1) (fun s2 =>
    zX zP zK_X1_readText (49, [zR 11 i0, zI x1, zI 0, zJunk], []) s2))) := (zrun_eq _ _ _).trans ((zun_eq zK_X1_readText [49] 28 _ _).trans rfl)
theorem e_X1_fail (i0 : Nat) (x1 : Int32) (x2 : Int32) (σ : zSt) : zrun zP 5 [zR 11 i0, zI x1, zI x2] σ = (
  some (.inl (some (zI 0)), (zms (zms σ.1 11 i0 3 x1) 11 i0 4 x2, σ.2))) := (zrun_eq _ _ _).trans ((zun_eq zK_X1_fail [] 9 _ _).trans rfl)
theorem e_X1_advance_0 (i0 : Nat) (σ : zSt) : zX zP zK_X1_advance (0, [zR 11 i0], []) σ = (
  if (σ.1 11 i0 6) < (σ.1 11 i0 5) then
  (if (σ.1 11 i0 6) < 0 ∨ 400 ≤ Int32.toNatClampNeg (σ.1 11 i0 6) then
    (none)
    else
    (if (σ.1 27 0 (Int32.toNatClampNeg (σ.1 11 i0 6))) = 32 then
      (zX zP zK_X1_advance (0, [zR 11 i0], []) (zms σ.1 11 i0 6 ((σ.1 11 i0 6) + 1), σ.2))
      else
      (if ((zms σ.1 11 i0 8 (σ.1 11 i0 6)) 11 i0 6) < ((zms σ.1 11 i0 8 (σ.1 11 i0 6)) 11 i0 5) then
        (if ((zms σ.1 11 i0 8 (σ.1 11 i0 6)) 11 i0 6) < 0 ∨ 400 ≤ Int32.toNatClampNeg ((zms σ.1 11 i0 8 (σ.1 11 i0 6)) 11 i0 6) then
          (none)
          else
          (zcI (zrun zP 9 [zI (σ.1 27 0 (Int32.toNatClampNeg ((zms σ.1 11 i0 8 (σ.1 11 i0 6)) 11 i0 6)))] (zms σ.1 11 i0 8 (σ.1 11 i0 6), σ.2)) (fun r1 s1 =>
            if r1 = 0 then
              (if (s1.1 11 i0 6) < 0 ∨ 400 ≤ Int32.toNatClampNeg (s1.1 11 i0 6) then
                (none)
                else
                (zcI (zrun zP 10 [zI (s1.1 27 0 (Int32.toNatClampNeg (s1.1 11 i0 6)))] s1) (fun r2 s2 =>
                  if r2 = 0 then
                    (some (.inl none, (zms (zms s2.1 11 i0 7 3) 11 i0 6 (((zms s2.1 11 i0 7 3) 11 i0 6) + 1), s2.2)))
                    else
                    (zcV (zrun zP 8 [zR 11 i0] s2) (fun s3 =>
                      some (.inl none, s3))))))
              else
              (zcV (zrun zP 7 [zR 11 i0] s1) (fun s4 =>
                some (.inl none, s4))))))
        else
        (some (.inl none, (zms (zms σ.1 11 i0 8 (σ.1 11 i0 6)) 11 i0 7 4, σ.2))))))
  else
  (if ((zms σ.1 11 i0 8 (σ.1 11 i0 6)) 11 i0 6) < ((zms σ.1 11 i0 8 (σ.1 11 i0 6)) 11 i0 5) then
    (if ((zms σ.1 11 i0 8 (σ.1 11 i0 6)) 11 i0 6) < 0 ∨ 400 ≤ Int32.toNatClampNeg ((zms σ.1 11 i0 8 (σ.1 11 i0 6)) 11 i0 6) then
      (none)
      else
      (zcI (zrun zP 9 [zI (σ.1 27 0 (Int32.toNatClampNeg ((zms σ.1 11 i0 8 (σ.1 11 i0 6)) 11 i0 6)))] (zms σ.1 11 i0 8 (σ.1 11 i0 6), σ.2)) (fun r5 s5 =>
        if r5 = 0 then
          (if (s5.1 11 i0 6) < 0 ∨ 400 ≤ Int32.toNatClampNeg (s5.1 11 i0 6) then
            (none)
            else
            (zcI (zrun zP 10 [zI (s5.1 27 0 (Int32.toNatClampNeg (s5.1 11 i0 6)))] s5) (fun r6 s6 =>
              if r6 = 0 then
                (some (.inl none, (zms (zms s6.1 11 i0 7 3) 11 i0 6 (((zms s6.1 11 i0 7 3) 11 i0 6) + 1), s6.2)))
                else
                (zcV (zrun zP 8 [zR 11 i0] s6) (fun s7 =>
                  some (.inl none, s7))))))
          else
          (zcV (zrun zP 7 [zR 11 i0] s5) (fun s8 =>
            some (.inl none, s8))))))
    else
    (some (.inl none, (zms (zms σ.1 11 i0 8 (σ.1 11 i0 6)) 11 i0 7 4, σ.2))))) := (zun_eq zK_X1_advance [0] 46 _ _).trans rfl
theorem e_X1_advance (i0 : Nat) (σ : zSt) : zrun zP 6 [zR 11 i0] σ = (
  if (σ.1 11 i0 6) < (σ.1 11 i0 5) then
  (if (σ.1 11 i0 6) < 0 ∨ 400 ≤ Int32.toNatClampNeg (σ.1 11 i0 6) then
    (none)
    else
    (if (σ.1 27 0 (Int32.toNatClampNeg (σ.1 11 i0 6))) = 32 then
      (zX zP zK_X1_advance (0, [zR 11 i0], []) (zms σ.1 11 i0 6 ((σ.1 11 i0 6) + 1), σ.2))
      else
      (if ((zms σ.1 11 i0 8 (σ.1 11 i0 6)) 11 i0 6) < ((zms σ.1 11 i0 8 (σ.1 11 i0 6)) 11 i0 5) then
        (if ((zms σ.1 11 i0 8 (σ.1 11 i0 6)) 11 i0 6) < 0 ∨ 400 ≤ Int32.toNatClampNeg ((zms σ.1 11 i0 8 (σ.1 11 i0 6)) 11 i0 6) then
          (none)
          else
          (zcI (zrun zP 9 [zI (σ.1 27 0 (Int32.toNatClampNeg ((zms σ.1 11 i0 8 (σ.1 11 i0 6)) 11 i0 6)))] (zms σ.1 11 i0 8 (σ.1 11 i0 6), σ.2)) (fun r1 s1 =>
            if r1 = 0 then
              (if (s1.1 11 i0 6) < 0 ∨ 400 ≤ Int32.toNatClampNeg (s1.1 11 i0 6) then
                (none)
                else
                (zcI (zrun zP 10 [zI (s1.1 27 0 (Int32.toNatClampNeg (s1.1 11 i0 6)))] s1) (fun r2 s2 =>
                  if r2 = 0 then
                    (some (.inl none, (zms (zms s2.1 11 i0 7 3) 11 i0 6 (((zms s2.1 11 i0 7 3) 11 i0 6) + 1), s2.2)))
                    else
                    (zcV (zrun zP 8 [zR 11 i0] s2) (fun s3 =>
                      some (.inl none, s3))))))
              else
              (zcV (zrun zP 7 [zR 11 i0] s1) (fun s4 =>
                some (.inl none, s4))))))
        else
        (some (.inl none, (zms (zms σ.1 11 i0 8 (σ.1 11 i0 6)) 11 i0 7 4, σ.2))))))
  else
  (if ((zms σ.1 11 i0 8 (σ.1 11 i0 6)) 11 i0 6) < ((zms σ.1 11 i0 8 (σ.1 11 i0 6)) 11 i0 5) then
    (if ((zms σ.1 11 i0 8 (σ.1 11 i0 6)) 11 i0 6) < 0 ∨ 400 ≤ Int32.toNatClampNeg ((zms σ.1 11 i0 8 (σ.1 11 i0 6)) 11 i0 6) then
      (none)
      else
      (zcI (zrun zP 9 [zI (σ.1 27 0 (Int32.toNatClampNeg ((zms σ.1 11 i0 8 (σ.1 11 i0 6)) 11 i0 6)))] (zms σ.1 11 i0 8 (σ.1 11 i0 6), σ.2)) (fun r5 s5 =>
        if r5 = 0 then
          (if (s5.1 11 i0 6) < 0 ∨ 400 ≤ Int32.toNatClampNeg (s5.1 11 i0 6) then
            (none)
            else
            (zcI (zrun zP 10 [zI (s5.1 27 0 (Int32.toNatClampNeg (s5.1 11 i0 6)))] s5) (fun r6 s6 =>
              if r6 = 0 then
                (some (.inl none, (zms (zms s6.1 11 i0 7 3) 11 i0 6 (((zms s6.1 11 i0 7 3) 11 i0 6) + 1), s6.2)))
                else
                (zcV (zrun zP 8 [zR 11 i0] s6) (fun s7 =>
                  some (.inl none, s7))))))
          else
          (zcV (zrun zP 7 [zR 11 i0] s5) (fun s8 =>
            some (.inl none, s8))))))
    else
    (some (.inl none, (zms (zms σ.1 11 i0 8 (σ.1 11 i0 6)) 11 i0 7 4, σ.2))))) := (zrun_eq _ _ _).trans ((zun_eq zK_X1_advance [0] 46 _ _).trans rfl)
theorem e_X1_scanWord_10 (i0 : Nat) (σ : zSt) : zX zP zK_X1_scanWord (10, [zR 11 i0], []) σ = (
  if (σ.1 11 i0 6) < (σ.1 11 i0 5) then
  (if (σ.1 11 i0 6) < 0 ∨ 400 ≤ Int32.toNatClampNeg (σ.1 11 i0 6) then
    (none)
    else
    (zcI (zrun zP 9 [zI (σ.1 27 0 (Int32.toNatClampNeg (σ.1 11 i0 6)))] σ) (fun r1 s1 =>
      if r1 = 0 then
        (some (.inl none, (zms s1.1 11 i0 9 ((s1.1 11 i0 6) - (s1.1 11 i0 8)), s1.2)))
        else
        (if ((s1.1 11 i0 6) - (s1.1 11 i0 8)) < 6 then
          (if (s1.1 11 i0 6) < 0 ∨ 400 ≤ Int32.toNatClampNeg (s1.1 11 i0 6) then
            (none)
            else
            (zX zP zK_X1_scanWord (10, [zR 11 i0], []) (zms (zms s1.1 11 i0 10 (((s1.1 11 i0 10) <<< (5 &&& 31)) ||| (((s1.1 27 0 (Int32.toNatClampNeg (s1.1 11 i0 6))) - 97) + 1))) 11 i0 6 (((zms s1.1 11 i0 10 (((s1.1 11 i0 10) <<< (5 &&& 31)) ||| (((s1.1 27 0 (Int32.toNatClampNeg (s1.1 11 i0 6))) - 97) + 1))) 11 i0 6) + 1), s1.2)))
          else
          (zX zP zK_X1_scanWord (10, [zR 11 i0], []) (zms s1.1 11 i0 6 ((s1.1 11 i0 6) + 1), s1.2))))))
  else
  (some (.inl none, (zms σ.1 11 i0 9 ((σ.1 11 i0 6) - (σ.1 11 i0 8)), σ.2)))) := (zun_eq zK_X1_scanWord [10] 43 _ _).trans rfl
theorem e_X1_scanWord (i0 : Nat) (σ : zSt) : zrun zP 7 [zR 11 i0] σ = (
  zX zP zK_X1_scanWord (10, [zR 11 i0], []) (zms (zms σ.1 11 i0 7 1) 11 i0 10 0, σ.2)) := (zrun_eq _ _ _).trans ((zun_eq zK_X1_scanWord [10] 7 _ _).trans rfl)
theorem e_X1_scanNumber_10 (i0 : Nat) (σ : zSt) : zX zP zK_X1_scanNumber (10, [zR 11 i0], []) σ = (
  if (σ.1 11 i0 6) < (σ.1 11 i0 5) then
  (if (σ.1 11 i0 6) < 0 ∨ 400 ≤ Int32.toNatClampNeg (σ.1 11 i0 6) then
    (none)
    else
    (zcI (zrun zP 10 [zI (σ.1 27 0 (Int32.toNatClampNeg (σ.1 11 i0 6)))] σ) (fun r1 s1 =>
      if r1 = 0 then
        (some (.inl none, s1))
        else
        (if (s1.1 11 i0 6) < 0 ∨ 400 ≤ Int32.toNatClampNeg (s1.1 11 i0 6) then
          (none)
          else
          (zX zP zK_X1_scanNumber (10, [zR 11 i0], []) (zms (zms s1.1 11 i0 11 (if 1000 < ((((s1.1 11 i0 11) * 10) + (s1.1 27 0 (Int32.toNatClampNeg (s1.1 11 i0 6)))) - 48) then 1000 else ((((s1.1 11 i0 11) * 10) + (s1.1 27 0 (Int32.toNatClampNeg (s1.1 11 i0 6)))) - 48))) 11 i0 6 (((zms s1.1 11 i0 11 (if 1000 < ((((s1.1 11 i0 11) * 10) + (s1.1 27 0 (Int32.toNatClampNeg (s1.1 11 i0 6)))) - 48) then 1000 else ((((s1.1 11 i0 11) * 10) + (s1.1 27 0 (Int32.toNatClampNeg (s1.1 11 i0 6)))) - 48))) 11 i0 6) + 1), s1.2))))))
  else
  (some (.inl none, σ))) := (zun_eq zK_X1_scanNumber [10] 36 _ _).trans rfl
theorem e_X1_scanNumber (i0 : Nat) (σ : zSt) : zrun zP 8 [zR 11 i0] σ = (
  zX zP zK_X1_scanNumber (10, [zR 11 i0], []) (zms (zms σ.1 11 i0 7 2) 11 i0 11 0, σ.2)) := (zrun_eq _ _ _).trans ((zun_eq zK_X1_scanNumber [10] 7 _ _).trans rfl)
theorem e_X1_isLetter (x0 : Int32) (σ : zSt) : zrun zP 9 [zI x0] σ = (
  if x0 < 97 then
  (some (.inl (some (zI 0)), σ))
  else
  (if (122 : Int32) < x0 then
    (some (.inl (some (zI 0)), σ))
    else
    (some (.inl (some (zI 1)), σ)))) := (zrun_eq _ _ _).trans ((zun_eq zK_X1_isLetter [] 10 _ _).trans rfl)
theorem e_X1_isDigit (x0 : Int32) (σ : zSt) : zrun zP 10 [zI x0] σ = (
  if x0 < 48 then
  (some (.inl (some (zI 0)), σ))
  else
  (if (57 : Int32) < x0 then
    (some (.inl (some (zI 0)), σ))
    else
    (some (.inl (some (zI 1)), σ)))) := (zrun_eq _ _ _).trans ((zun_eq zK_X1_isDigit [] 10 _ _).trans rfl)
theorem e_X1_isSemicolon (i0 : Nat) (σ : zSt) : zrun zP 11 [zR 11 i0] σ = (
  if (σ.1 11 i0 7) = 3 then
  (if (σ.1 11 i0 8) < (σ.1 11 i0 5) then
    (if (σ.1 11 i0 8) < 0 ∨ 400 ≤ Int32.toNatClampNeg (σ.1 11 i0 8) then
      (none)
      else
      (if (σ.1 27 0 (Int32.toNatClampNeg (σ.1 11 i0 8))) = 59 then
        (some (.inl (some (zI 1)), σ))
        else
        (some (.inl (some (zI 0)), σ))))
    else
    (some (.inl (some (zI 0)), σ)))
  else
  (some (.inl (some (zI 0)), σ))) := (zrun_eq _ _ _).trans ((zun_eq zK_X1_isSemicolon [] 20 _ _).trans rfl)
theorem e_X1_isWord_23 (i0 : Nat) (i1 : Nat) (x2 : Int32) (σ : zSt) : zX zP zK_X1_isWord (23, [zR 11 i0, zR 1 i1, zI x2], []) σ = (
  if x2 < (σ.1 11 i0 9) then
  (if ((σ.1 11 i0 8) + x2) < 0 ∨ 400 ≤ Int32.toNatClampNeg ((σ.1 11 i0 8) + x2) then
    (none)
    else
    (if x2 < 0 ∨ (zstr i1).length ≤ Int32.toNatClampNeg x2 then
      (none)
      else
      (if (σ.1 27 0 (Int32.toNatClampNeg ((σ.1 11 i0 8) + x2))) = ((zstr i1).getD (Int32.toNatClampNeg x2) 0) then
        (zX zP zK_X1_isWord (23, [zR 11 i0, zR 1 i1, zI (x2 + 1)], []) σ)
        else
        (some (.inl (some (zI 0)), σ)))))
  else
  (some (.inl (some (zI 1)), σ))) := (zun_eq zK_X1_isWord [23] 18 _ _).trans rfl
theorem e_X1_isWord (i0 : Nat) (i1 : Nat) (σ : zSt) : zrun zP 12 [zR 11 i0, zR 1 i1] σ = (
  if (σ.1 11 i0 7) = 1 then
  (if (Int32.ofNat (zstr i1).length) = (σ.1 11 i0 9) then
    (zX zP zK_X1_isWord (23, [zR 11 i0, zR 1 i1, zI 0], []) σ)
    else
    (some (.inl (some (zI 0)), σ)))
  else
  (some (.inl (some (zI 0)), σ))) := (zrun_eq _ _ _).trans ((zun_eq zK_X1_isWord [23] 12 _ _).trans rfl)
theorem e_X1_isShortWord (i0 : Nat) (x1 : Int32) (σ : zSt) : zrun zP 13 [zR 11 i0, zI x1] σ = (
  if (σ.1 11 i0 7) = 1 then
  (if x1 < (σ.1 11 i0 9) then
    (some (.inl (some (zI 0)), σ))
    else
    (some (.inl (some (zI 1)), σ)))
  else
  (some (.inl (some (zI 0)), σ))) := (zrun_eq _ _ _).trans ((zun_eq zK_X1_isShortWord [] 12 _ _).trans rfl)
theorem e_X1_nameThere (i0 : Nat) (σ : zSt) : zrun zP 14 [zR 11 i0] σ = (
  some (.inl (some (zI ((σ.1 11 i0 10) <<< ((5 * (if 0 < (6 - (σ.1 11 i0 9)) then (6 - (σ.1 11 i0 9)) else 0)) &&& 31)))), σ)) := (zrun_eq _ _ _).trans ((zun_eq zK_X1_nameThere [] 13 _ _).trans rfl)
theorem e_X1_tierThere (i0 : Nat) (σ : zSt) : zrun zP 15 [zR 11 i0] σ = (
  zcI (zrun zP 13 [zR 11 i0, zI 6] σ) (fun r1 s1 =>
  if r1 = 0 then
    (zcI (zrun zP 5 [zR 11 i0, zI 1, zI (s1.1 11 i0 8)] s1) (fun r2 s2 =>
      some (.inl (some (zI (-1))), s2)))
    else
    (zcI (zrun zP 14 [zR 11 i0] s1) (fun r3 s3 =>
      zcI (zrun zP 52 [zR 13 14, zI r3] s3) (fun r4 s4 =>
        if r4 = (-1) then
          (zcI (zrun zP 5 [zR 11 i0, zI 5, zI (s4.1 11 i0 8)] s4) (fun r5 s5 =>
            some (.inl (some (zI r4)), s5)))
          else
          (some (.inl (some (zI r4)), s4))))))) := (zrun_eq _ _ _).trans ((zun_eq zK_X1_tierThere [] 22 _ _).trans rfl)
theorem e_X1_isTimeThere (i0 : Nat) (σ : zSt) : zrun zP 16 [zR 11 i0] σ = (
  if (σ.1 11 i0 7) = 2 then
  (if (999 : Int32) < (σ.1 11 i0 11) then
    (zcI (zrun zP 5 [zR 11 i0, zI 2, zI (σ.1 11 i0 8)] σ) (fun r1 s1 =>
      if r1 = 0 then
        (some (.inl (some (zI 0)), s1))
        else
        (some (.inl (some (zI 1)), s1))))
    else
    (some (.inl (some (zI 1)), σ)))
  else
  (zcI (zrun zP 5 [zR 11 i0, zI 1, zI (σ.1 11 i0 8)] σ) (fun r2 s2 =>
    some (.inl (some (zI r2)), s2)))) := (zrun_eq _ _ _).trans ((zun_eq zK_X1_isTimeThere [] 18 _ _).trans rfl)
theorem e_X1_kindThere (i0 : Nat) (σ : zSt) : zrun zP 17 [zR 11 i0] σ = (
  zcI (zrun zP 12 [zR 11 i0, zR 1 1] σ) (fun r1 s1 =>
  if r1 = 0 then
    (zcI (zrun zP 12 [zR 11 i0, zR 1 2] s1) (fun r2 s2 =>
      if r2 = 0 then
        (zcI (zrun zP 12 [zR 11 i0, zR 1 3] s2) (fun r3 s3 =>
          if r3 = 0 then
            (zcI (zrun zP 12 [zR 11 i0, zR 1 4] s3) (fun r4 s4 =>
              if r4 = 0 then
                (some (.inl (some (zI (-1))), s4))
                else
                (some (.inl (some (zI 3)), s4))))
            else
            (some (.inl (some (zI 2)), s3))))
        else
        (some (.inl (some (zI 1)), s2))))
    else
    (some (.inl (some (zI 0)), s1)))) := (zrun_eq _ _ _).trans ((zun_eq zK_X1_kindThere [] 20 _ _).trans rfl)
theorem e_X1_verbThere (i0 : Nat) (σ : zSt) : zrun zP 18 [zR 11 i0] σ = (
  zcI (zrun zP 12 [zR 11 i0, zR 1 5] σ) (fun r1 s1 =>
  if r1 = 0 then
    (zcI (zrun zP 12 [zR 11 i0, zR 1 6] s1) (fun r2 s2 =>
      if r2 = 0 then
        (zcI (zrun zP 12 [zR 11 i0, zR 1 7] s2) (fun r3 s3 =>
          if r3 = 0 then
            (zcI (zrun zP 12 [zR 11 i0, zR 1 8] s3) (fun r4 s4 =>
              if r4 = 0 then
                (some (.inl (some (zI (-1))), s4))
                else
                (some (.inl (some (zI 4)), s4))))
            else
            (some (.inl (some (zI 3)), s3))))
        else
        (some (.inl (some (zI 2)), s2))))
    else
    (some (.inl (some (zI 1)), s1)))) := (zrun_eq _ _ _).trans ((zun_eq zK_X1_verbThere [] 20 _ _).trans rfl)
theorem e_X1_readTierLine (i0 : Nat) (σ : zSt) : zrun zP 19 [zR 11 i0] σ = (
  if (σ.1 13 14 0) < 6 then
  (zcV (zrun zP 6 [zR 11 i0] σ) (fun s1 =>
    zcI (zrun zP 13 [zR 11 i0, zI 6] s1) (fun r2 s2 =>
      if r2 = 0 then
        (zcI (zrun zP 5 [zR 11 i0, zI 1, zI (s2.1 11 i0 8)] s2) (fun r3 s3 =>
          some (.inl (some (zI r3)), s3)))
        else
        (zcI (zrun zP 14 [zR 11 i0] s2) (fun r4 s4 =>
          zcI (zrun zP 52 [zR 13 14, zI r4] s4) (fun r5 s5 =>
            if r5 = (-1) then
              (zcV (zrun zP 6 [zR 11 i0] s5) (fun s6 =>
                zcI (zrun zP 17 [zR 11 i0] s6) (fun r7 s7 =>
                  if r7 = (-1) then
                    (zcI (zrun zP 5 [zR 11 i0, zI 1, zI (s7.1 11 i0 8)] s7) (fun r8 s8 =>
                      some (.inl (some (zI r8)), s8)))
                    else
                    (zcV (zrun zP 6 [zR 11 i0] s7) (fun s9 =>
                      if r7 = 0 then
                        (zcV (zrun zP 56 [zR 13 14, zI r4, zI r7, zI (-1)] s9) (fun s10 =>
                          some (.inl (some (zI 1)), s10)))
                        else
                        (if r7 = 3 then
                          (if (s9.1 11 i0 7) = 1 then
                            (zcI (zrun zP 20 [zR 11 i0, zI r4, zI r7] s9) (fun r11 s11 =>
                              some (.inl (some (zI r11)), s11)))
                            else
                            (zcV (zrun zP 56 [zR 13 14, zI r4, zI r7, zI (-1)] s9) (fun s12 =>
                              some (.inl (some (zI 1)), s12))))
                          else
                          (zcI (zrun zP 20 [zR 11 i0, zI r4, zI r7] s9) (fun r13 s13 =>
                            some (.inl (some (zI r13)), s13)))))))))
              else
              (zcI (zrun zP 5 [zR 11 i0, zI 4, zI (s5.1 11 i0 8)] s5) (fun r14 s14 =>
                some (.inl (some (zI r14)), s14)))))))))
  else
  (zcI (zrun zP 5 [zR 11 i0, zI 3, zI (σ.1 11 i0 8)] σ) (fun r15 s15 =>
    some (.inl (some (zI r15)), s15)))) := (zrun_eq _ _ _).trans ((zun_eq zK_X1_readTierLine [] 48 _ _).trans rfl)
theorem e_X1_readParent (i0 : Nat) (x1 : Int32) (x2 : Int32) (σ : zSt) : zrun zP 20 [zR 11 i0, zI x1, zI x2] σ = (
  zcI (zrun zP 15 [zR 11 i0] σ) (fun r1 s1 =>
  if r1 = (-1) then
    (some (.inl (some (zI 0)), s1))
    else
    (if r1 < 0 ∨ 6 ≤ Int32.toNatClampNeg r1 then
      (none)
      else
      (if (s1.1 12 (6 * 14 + Int32.toNatClampNeg r1) 1) = 3 then
        (zcI (zrun zP 5 [zR 11 i0, zI 5, zI (s1.1 11 i0 8)] s1) (fun r2 s2 =>
          some (.inl (some (zI r2)), s2)))
        else
        (zcV (zrun zP 56 [zR 13 14, zI x1, zI x2, zI r1] s1) (fun s3 =>
          zcV (zrun zP 6 [zR 11 i0] s3) (fun s4 =>
            some (.inl (some (zI 1)), s4)))))))) := (zrun_eq _ _ _).trans ((zun_eq zK_X1_readParent [] 25 _ _).trans rfl)
theorem e_X1_readMarkLine (i0 : Nat) (σ : zSt) : zrun zP 21 [zR 11 i0] σ = (
  zcI (zrun zP 18 [zR 11 i0] σ) (fun r1 s1 =>
  if r1 = (-1) then
    (zcI (zrun zP 5 [zR 11 i0, zI 1, zI (s1.1 11 i0 8)] s1) (fun r2 s2 =>
      some (.inl (some (zI r2)), s2)))
    else
    (zcV (zrun zP 6 [zR 11 i0] s1) (fun s3 =>
      zcI (zrun zP 15 [zR 11 i0] s3) (fun r4 s4 =>
        if r4 = (-1) then
          (some (.inl (some (zI 0)), s4))
          else
          (zcV (zrun zP 6 [zR 11 i0] s4) (fun s5 =>
            zcI (zrun zP 16 [zR 11 i0] s5) (fun r6 s6 =>
              if r6 = 0 then
                (some (.inl (some (zI 0)), s6))
                else
                (zcV (zrun zP 6 [zR 11 i0] s6) (fun s7 =>
                  if r1 = 1 then
                    (zcI (zrun zP 16 [zR 11 i0] s7) (fun r8 s8 =>
                      if r8 = 0 then
                        (some (.inl (some (zI 0)), s8))
                        else
                        (if (s6.1 11 i0 11) < (s8.1 11 i0 11) then
                          (zcV (zrun zP 6 [zR 11 i0] s8) (fun s9 =>
                            zcI (zrun zP 22 [zR 11 i0, zI r1, zI r4, zI (s6.1 11 i0 11), zI (s8.1 11 i0 11)] s9) (fun r10 s10 =>
                              if r10 = 0 then
                                (zcI (zrun zP 23 [zR 11 i0, zI r1, zI r4, zI (s6.1 11 i0 11), zI (s8.1 11 i0 11)] s10) (fun r11 s11 =>
                                  zcI (zrun zP 24 [zR 11 i0, zI r1, zI r4, zI r11] s11) (fun r12 s12 =>
                                    some (.inl (some (zI r12)), s12))))
                                else
                                (zcI (zrun zP 5 [zR 11 i0, zI r10, zI (s4.1 11 i0 8)] s10) (fun r13 s13 =>
                                  some (.inl (some (zI r13)), s13))))))
                          else
                          (zcI (zrun zP 5 [zR 11 i0, zI 2, zI (s8.1 11 i0 8)] s8) (fun r14 s14 =>
                            some (.inl (some (zI r14)), s14))))))
                    else
                    (zcI (zrun zP 22 [zR 11 i0, zI r1, zI r4, zI (s6.1 11 i0 11), zI (s6.1 11 i0 11)] s7) (fun r15 s15 =>
                      if r15 = 0 then
                        (zcI (zrun zP 23 [zR 11 i0, zI r1, zI r4, zI (s6.1 11 i0 11), zI (s6.1 11 i0 11)] s15) (fun r16 s16 =>
                          zcI (zrun zP 24 [zR 11 i0, zI r1, zI r4, zI r16] s16) (fun r17 s17 =>
                            some (.inl (some (zI r17)), s17))))
                        else
                        (zcI (zrun zP 5 [zR 11 i0, zI r15, zI (s4.1 11 i0 8)] s15) (fun r18 s18 =>
                          some (.inl (some (zI r18)), s18))))))))))))))) := (zrun_eq _ _ _).trans ((zun_eq zK_X1_readMarkLine [] 65 _ _).trans rfl)
theorem e_X1_faultOf (i0 : Nat) (x1 : Int32) (x2 : Int32) (x3 : Int32) (x4 : Int32) (σ : zSt) : zrun zP 22 [zR 11 i0, zI x1, zI x2, zI x3, zI x4] σ = (
  if x1 = 1 then
  (zcI (zrun zP 63 [zR 13 14, zI x2, zI x3, zI x4] σ) (fun r1 s1 =>
    zcI (zrun zP 64 [zR 13 14, zI x2] s1) (fun r2 s2 =>
      if r1 = 0 then
        (some (.inl (some (zI 6)), s2))
        else
        (if r2 = 0 then
          (some (.inl (some (zI 3)), s2))
          else
          (some (.inl (some (zI 0)), s2))))))
  else
  (if x1 = 2 then
    (zcI (zrun zP 66 [zR 13 14, zI x2, zI x3] σ) (fun r3 s3 =>
      if x2 < 0 ∨ 6 ≤ Int32.toNatClampNeg x2 then
        (none)
        else
        (zcI (zrun zP 26 [zR 12 (6 * 14 + Int32.toNatClampNeg x2)] s3) (fun r4 s4 =>
          if r4 = 0 then
            (if r3 = 0 then
              (some (.inl (some (zI 6)), s4))
              else
              (if (1 : Int32) = 0 then
                (some (.inl (some (zI 3)), s4))
                else
                (some (.inl (some (zI 0)), s4))))
            else
            (if r3 = 0 then
              (some (.inl (some (zI 6)), s4))
              else
              (if (0 : Int32) = 0 then
                (some (.inl (some (zI 3)), s4))
                else
                (some (.inl (some (zI 0)), s4))))))))
    else
    (if x1 = 3 then
      (zcI (zrun zP 72 [zR 13 14, zI x2, zI x3] σ) (fun r5 s5 =>
        zcI (zrun zP 73 [zR 13 14, zI x2, zI x3] s5) (fun r6 s6 =>
          if r5 = 0 then
            (some (.inl (some (zI 6)), s6))
            else
            (if r6 = 0 then
              (some (.inl (some (zI 3)), s6))
              else
              (some (.inl (some (zI 0)), s6))))))
      else
      (if x2 < 0 ∨ 6 ≤ Int32.toNatClampNeg x2 then
        (none)
        else
        (zcI (zrun zP 40 [zR 12 (6 * 14 + Int32.toNatClampNeg x2), zI x3] σ) (fun r7 s7 =>
          if r7 = (-1) then
            (if (0 : Int32) = 0 then
              (some (.inl (some (zI 6)), s7))
              else
              (if (1 : Int32) = 0 then
                (some (.inl (some (zI 3)), s7))
                else
                (some (.inl (some (zI 0)), s7))))
            else
            (if (1 : Int32) = 0 then
              (some (.inl (some (zI 6)), s7))
              else
              (if (1 : Int32) = 0 then
                (some (.inl (some (zI 3)), s7))
                else
                (some (.inl (some (zI 0)), s7)))))))))) := (zrun_eq _ _ _).trans ((zun_eq zK_X1_faultOf [] 33 _ _).trans rfl)
theorem e_X1_carryOut (i0 : Nat) (x1 : Int32) (x2 : Int32) (x3 : Int32) (x4 : Int32) (σ : zSt) : zrun zP 23 [zR 11 i0, zI x1, zI x2, zI x3, zI x4] σ = (
  if x1 = 1 then
  (zcI (zrun zP 65 [zR 13 14, zI x2, zI x3, zI x4] σ) (fun r1 s1 =>
    some (.inl (some (zI r1)), s1)))
  else
  (if x1 = 2 then
    (if x2 < 0 ∨ 6 ≤ Int32.toNatClampNeg x2 then
      (none)
      else
      (zcI (zrun zP 30 [zR 12 (6 * 14 + Int32.toNatClampNeg x2), zI x3, zI x3, zI 0] σ) (fun r2 s2 =>
        some (.inl (some (zI r2)), s2))))
    else
    (if x1 = 3 then
      (zcI (zrun zP 74 [zR 13 14, zI x2, zI x3] σ) (fun r3 s3 =>
        if x2 < 0 ∨ 6 ≤ Int32.toNatClampNeg x2 then
          (none)
          else
          (zcI (zrun zP 40 [zR 12 (6 * 14 + Int32.toNatClampNeg x2), zI x3] s3) (fun r4 s4 =>
            some (.inl (some (zI r4)), s4)))))
      else
      (if x2 < 0 ∨ 6 ≤ Int32.toNatClampNeg x2 then
        (none)
        else
        (zcI (zrun zP 40 [zR 12 (6 * 14 + Int32.toNatClampNeg x2), zI x3] σ) (fun r5 s5 =>
          some (.inl (some (zI r5)), s5))))))) := (zrun_eq _ _ _).trans ((zun_eq zK_X1_carryOut [] 24 _ _).trans rfl)
theorem e_X1_readLabel (i0 : Nat) (x1 : Int32) (x2 : Int32) (x3 : Int32) (σ : zSt) : zrun zP 24 [zR 11 i0, zI x1, zI x2, zI x3] σ = (
  if (σ.1 11 i0 7) = 1 then
  (zcI (zrun zP 13 [zR 11 i0, zI 4] σ) (fun r1 s1 =>
    if r1 = 0 then
      (zcI (zrun zP 5 [zR 11 i0, zI 1, zI (s1.1 11 i0 8)] s1) (fun r2 s2 =>
        some (.inl (some (zI r2)), s2)))
      else
      (if x2 < 0 ∨ 6 ≤ Int32.toNatClampNeg x2 then
        (none)
        else
        (zcI (zrun zP 27 [zR 12 (6 * 14 + Int32.toNatClampNeg x2), zI x3] s1) (fun r3 s3 =>
          if r3 = 0 then
            (zcV (zrun zP 6 [zR 11 i0] s3) (fun s4 =>
              some (.inl (some (zI 1)), s4)))
            else
            (if x2 < 0 ∨ 6 ≤ Int32.toNatClampNeg x2 then
              (none)
              else
              (if x3 < 0 ∨ 40 ≤ Int32.toNatClampNeg x3 then
                (none)
                else
                (zcV (zrun zP 6 [zR 11 i0] (zms s3.1 22 (6 * 14 + Int32.toNatClampNeg x2) (Int32.toNatClampNeg x3) (s3.1 11 i0 10), s3.2)) (fun s5 =>
                  some (.inl (some (zI 1)), s5))))))))))
  else
  (if x1 = 4 then
    (zcI (zrun zP 13 [zR 11 i0, zI 4] σ) (fun r6 s6 =>
      if r6 = 0 then
        (zcI (zrun zP 5 [zR 11 i0, zI 1, zI (s6.1 11 i0 8)] s6) (fun r7 s7 =>
          some (.inl (some (zI r7)), s7)))
        else
        (if x2 < 0 ∨ 6 ≤ Int32.toNatClampNeg x2 then
          (none)
          else
          (zcI (zrun zP 27 [zR 12 (6 * 14 + Int32.toNatClampNeg x2), zI x3] s6) (fun r8 s8 =>
            if r8 = 0 then
              (zcV (zrun zP 6 [zR 11 i0] s8) (fun s9 =>
                some (.inl (some (zI 1)), s9)))
              else
              (if x2 < 0 ∨ 6 ≤ Int32.toNatClampNeg x2 then
                (none)
                else
                (if x3 < 0 ∨ 40 ≤ Int32.toNatClampNeg x3 then
                  (none)
                  else
                  (zcV (zrun zP 6 [zR 11 i0] (zms s8.1 22 (6 * 14 + Int32.toNatClampNeg x2) (Int32.toNatClampNeg x3) (s8.1 11 i0 10), s8.2)) (fun s10 =>
                    some (.inl (some (zI 1)), s10))))))))))
    else
    (some (.inl (some (zI 1)), σ)))) := (zrun_eq _ _ _).trans ((zun_eq zK_X1_readLabel [] 34 _ _).trans rfl)
theorem e_X2_copyFrom (i0 : Nat) (i1 : Nat) (σ : zSt) : zrun zP 25 [zR 12 i0, zR 12 i1] σ = (
  if ¬ 0 < 0 ∧ ¬ 0 < 0 ∧ ¬ 40 < 0 ∧ Int32.toNatClampNeg 0 + Int32.toNatClampNeg 40 ≤ 40 ∧ Int32.toNatClampNeg 0 + Int32.toNatClampNeg 40 ≤ 40 then
  (if ¬ 0 < 0 ∧ ¬ 0 < 0 ∧ ¬ 40 < 0 ∧ Int32.toNatClampNeg 0 + Int32.toNatClampNeg 40 ≤ 40 ∧ Int32.toNatClampNeg 0 + Int32.toNatClampNeg 40 ≤ 40 then
    (if ¬ 0 < 0 ∧ ¬ 0 < 0 ∧ ¬ 40 < 0 ∧ Int32.toNatClampNeg 0 + Int32.toNatClampNeg 40 ≤ 40 ∧ Int32.toNatClampNeg 0 + Int32.toNatClampNeg 40 ≤ 40 then
      (some (.inl none, (zmr (zmr (zmr (zms (zms (zms (zms (zms (zms σ.1 12 i0 0 (σ.1 12 i1 0)) 12 i0 1 ((zms σ.1 12 i0 0 (σ.1 12 i1 0)) 12 i1 1)) 12 i0 2 ((zms (zms σ.1 12 i0 0 (σ.1 12 i1 0)) 12 i0 1 ((zms σ.1 12 i0 0 (σ.1 12 i1 0)) 12 i1 1)) 12 i1 2)) 12 i0 3 ((zms (zms (zms σ.1 12 i0 0 (σ.1 12 i1 0)) 12 i0 1 ((zms σ.1 12 i0 0 (σ.1 12 i1 0)) 12 i1 1)) 12 i0 2 ((zms (zms σ.1 12 i0 0 (σ.1 12 i1 0)) 12 i0 1 ((zms σ.1 12 i0 0 (σ.1 12 i1 0)) 12 i1 1)) 12 i1 2)) 12 i1 3)) 12 i0 4 ((zms (zms (zms (zms σ.1 12 i0 0 (σ.1 12 i1 0)) 12 i0 1 ((zms σ.1 12 i0 0 (σ.1 12 i1 0)) 12 i1 1)) 12 i0 2 ((zms (zms σ.1 12 i0 0 (σ.1 12 i1 0)) 12 i0 1 ((zms σ.1 12 i0 0 (σ.1 12 i1 0)) 12 i1 1)) 12 i1 2)) 12 i0 3 ((zms (zms (zms σ.1 12 i0 0 (σ.1 12 i1 0)) 12 i0 1 ((zms σ.1 12 i0 0 (σ.1 12 i1 0)) 12 i1 1)) 12 i0 2 ((zms (zms σ.1 12 i0 0 (σ.1 12 i1 0)) 12 i0 1 ((zms σ.1 12 i0 0 (σ.1 12 i1 0)) 12 i1 1)) 12 i1 2)) 12 i1 3)) 12 i1 4)) 12 i0 5 ((zms (zms (zms (zms (zms σ.1 12 i0 0 (σ.1 12 i1 0)) 12 i0 1 ((zms σ.1 12 i0 0 (σ.1 12 i1 0)) 12 i1 1)) 12 i0 2 ((zms (zms σ.1 12 i0 0 (σ.1 12 i1 0)) 12 i0 1 ((zms σ.1 12 i0 0 (σ.1 12 i1 0)) 12 i1 1)) 12 i1 2)) 12 i0 3 ((zms (zms (zms σ.1 12 i0 0 (σ.1 12 i1 0)) 12 i0 1 ((zms σ.1 12 i0 0 (σ.1 12 i1 0)) 12 i1 1)) 12 i0 2 ((zms (zms σ.1 12 i0 0 (σ.1 12 i1 0)) 12 i0 1 ((zms σ.1 12 i0 0 (σ.1 12 i1 0)) 12 i1 1)) 12 i1 2)) 12 i1 3)) 12 i0 4 ((zms (zms (zms (zms σ.1 12 i0 0 (σ.1 12 i1 0)) 12 i0 1 ((zms σ.1 12 i0 0 (σ.1 12 i1 0)) 12 i1 1)) 12 i0 2 ((zms (zms σ.1 12 i0 0 (σ.1 12 i1 0)) 12 i0 1 ((zms σ.1 12 i0 0 (σ.1 12 i1 0)) 12 i1 1)) 12 i1 2)) 12 i0 3 ((zms (zms (zms σ.1 12 i0 0 (σ.1 12 i1 0)) 12 i0 1 ((zms σ.1 12 i0 0 (σ.1 12 i1 0)) 12 i1 1)) 12 i0 2 ((zms (zms σ.1 12 i0 0 (σ.1 12 i1 0)) 12 i0 1 ((zms σ.1 12 i0 0 (σ.1 12 i1 0)) 12 i1 1)) 12 i1 2)) 12 i1 3)) 12 i1 4)) 12 i1 5)) 20 i0 (va_cpy (σ.1 20 i1) (σ.1 20 i0) (Int32.toNatClampNeg 0) (Int32.toNatClampNeg 0) (Int32.toNatClampNeg 40))) 21 i0 (va_cpy (σ.1 21 i1) (σ.1 21 i0) (Int32.toNatClampNeg 0) (Int32.toNatClampNeg 0) (Int32.toNatClampNeg 40))) 22 i0 (va_cpy (σ.1 22 i1) (σ.1 22 i0) (Int32.toNatClampNeg 0) (Int32.toNatClampNeg 0) (Int32.toNatClampNeg 40)), σ.2)))
      else
      (none))
    else
    (none))
  else
  (none)) := (zrun_eq _ _ _).trans ((zun_eq zK_X2_copyFrom [] 50 _ _).trans rfl)
theorem e_X2_isFull (i0 : Nat) (σ : zSt) : zrun zP 26 [zR 12 i0] σ = (
  if (σ.1 12 i0 5) < 40 then
  (some (.inl (some (zI 0)), σ))
  else
  (some (.inl (some (zI 1)), σ))) := (zrun_eq _ _ _).trans ((zun_eq zK_X2_isFull [] 8 _ _).trans rfl)
theorem e_X2_hasMark (i0 : Nat) (x1 : Int32) (σ : zSt) : zrun zP 27 [zR 12 i0, zI x1] σ = (
  if x1 < 0 then
  (some (.inl (some (zI 0)), σ))
  else
  (if x1 < (σ.1 12 i0 5) then
    (some (.inl (some (zI 1)), σ))
    else
    (some (.inl (some (zI 0)), σ)))) := (zrun_eq _ _ _).trans ((zun_eq zK_X2_hasMark [] 10 _ _).trans rfl)
theorem e_X2_length (i0 : Nat) (x1 : Int32) (σ : zSt) : zrun zP 28 [zR 12 i0, zI x1] σ = (
  if x1 < 0 ∨ 40 ≤ Int32.toNatClampNeg x1 then
  (none)
  else
  (if x1 < 0 ∨ 40 ≤ Int32.toNatClampNeg x1 then
    (none)
    else
    (some (.inl (some (zI ((σ.1 21 i0 (Int32.toNatClampNeg x1)) - (σ.1 20 i0 (Int32.toNatClampNeg x1))))), σ)))) := (zrun_eq _ _ _).trans ((zun_eq zK_X2_length [] 11 _ _).trans rfl)
theorem e_X2_wholeLength_4 (i0 : Nat) (x1 : Int32) (x2 : Int32) (σ : zSt) : zX zP zK_X2_wholeLength (4, [zR 12 i0, zI x1, zI x2], []) σ = (
  if x2 < (σ.1 12 i0 5) then
  (zcI (zrun zP 28 [zR 12 i0, zI x2] σ) (fun r1 s1 =>
    zX zP zK_X2_wholeLength (4, [zR 12 i0, zI (x1 + r1), zI (x2 + 1)], []) s1))
  else
  (some (.inl (some (zI x1)), σ))) := (zun_eq zK_X2_wholeLength [4] 13 _ _).trans rfl
theorem e_X2_wholeLength (i0 : Nat) (σ : zSt) : zrun zP 29 [zR 12 i0] σ = (
  zX zP zK_X2_wholeLength (4, [zR 12 i0, zI 0, zI 0], []) σ) := (zrun_eq _ _ _).trans ((zun_eq zK_X2_wholeLength [4] 5 _ _).trans rfl)
theorem e_X2_insert_17 (i0 : Nat) (x1 : Int32) (x2 : Int32) (x3 : Int32) (x4 : Int32) (σ : zSt) : zX zP zK_X2_insert (17, [zR 12 i0, zI x1, zI x2, zI x3, zI x4], []) σ = (
  if (0 : Int32) < x4 then
  (if (x4 - 1) < 0 ∨ 40 ≤ Int32.toNatClampNeg (x4 - 1) then
    (none)
    else
    (if x1 < (σ.1 20 i0 (Int32.toNatClampNeg (x4 - 1))) then
      (if (x4 - 1) < 0 ∨ 40 ≤ Int32.toNatClampNeg (x4 - 1) then
        (none)
        else
        (if x4 < 0 ∨ 40 ≤ Int32.toNatClampNeg x4 then
          (none)
          else
          (if (x4 - 1) < 0 ∨ 40 ≤ Int32.toNatClampNeg (x4 - 1) then
            (none)
            else
            (if x4 < 0 ∨ 40 ≤ Int32.toNatClampNeg x4 then
              (none)
              else
              (if (x4 - 1) < 0 ∨ 40 ≤ Int32.toNatClampNeg (x4 - 1) then
                (none)
                else
                (if x4 < 0 ∨ 40 ≤ Int32.toNatClampNeg x4 then
                  (none)
                  else
                  (zX zP zK_X2_insert (17, [zR 12 i0, zI x1, zI x2, zI x3, zI (x4 + (-1))], []) (zms (zms (zms σ.1 20 i0 (Int32.toNatClampNeg x4) (σ.1 20 i0 (Int32.toNatClampNeg (x4 - 1)))) 21 i0 (Int32.toNatClampNeg x4) (σ.1 21 i0 (Int32.toNatClampNeg (x4 - 1)))) 22 i0 (Int32.toNatClampNeg x4) (σ.1 22 i0 (Int32.toNatClampNeg (x4 - 1))), σ.2))))))))
      else
      (if x4 < 0 ∨ 40 ≤ Int32.toNatClampNeg x4 then
        (none)
        else
        (if x4 < 0 ∨ 40 ≤ Int32.toNatClampNeg x4 then
          (none)
          else
          (if x4 < 0 ∨ 40 ≤ Int32.toNatClampNeg x4 then
            (none)
            else
            (some (.inl (some (zI x4)), (zms (zms (zms (zms σ.1 20 i0 (Int32.toNatClampNeg x4) x1) 21 i0 (Int32.toNatClampNeg x4) x2) 22 i0 (Int32.toNatClampNeg x4) x3) 12 i0 5 ((σ.1 12 i0 5) + 1), σ.2))))))))
  else
  (if x4 < 0 ∨ 40 ≤ Int32.toNatClampNeg x4 then
    (none)
    else
    (if x4 < 0 ∨ 40 ≤ Int32.toNatClampNeg x4 then
      (none)
      else
      (if x4 < 0 ∨ 40 ≤ Int32.toNatClampNeg x4 then
        (none)
        else
        (some (.inl (some (zI x4)), (zms (zms (zms (zms σ.1 20 i0 (Int32.toNatClampNeg x4) x1) 21 i0 (Int32.toNatClampNeg x4) x2) 22 i0 (Int32.toNatClampNeg x4) x3) 12 i0 5 ((σ.1 12 i0 5) + 1), σ.2))))))) := (zun_eq zK_X2_insert [17] 43 _ _).trans rfl
theorem e_X2_insert (i0 : Nat) (x1 : Int32) (x2 : Int32) (x3 : Int32) (σ : zSt) : zrun zP 30 [zR 12 i0, zI x1, zI x2, zI x3] σ = (
  if (σ.1 12 i0 5) < 40 then
  (zX zP zK_X2_insert (17, [zR 12 i0, zI x1, zI x2, zI x3, zI (σ.1 12 i0 5)], []) σ)
  else
  (some (.inl (some (zI (-1))), σ))) := (zrun_eq _ _ _).trans ((zun_eq zK_X2_insert [17] 8 _ _).trans rfl)
theorem e_X2_remove_11 (i0 : Nat) (x1 : Int32) (x2 : Int32) (σ : zSt) : zX zP zK_X2_remove (11, [zR 12 i0, zI x1, zI x2], []) σ = (
  if (x2 + 1) < (σ.1 12 i0 5) then
  (if (x2 + 1) < 0 ∨ 40 ≤ Int32.toNatClampNeg (x2 + 1) then
    (none)
    else
    (if x2 < 0 ∨ 40 ≤ Int32.toNatClampNeg x2 then
      (none)
      else
      (if (x2 + 1) < 0 ∨ 40 ≤ Int32.toNatClampNeg (x2 + 1) then
        (none)
        else
        (if x2 < 0 ∨ 40 ≤ Int32.toNatClampNeg x2 then
          (none)
          else
          (if (x2 + 1) < 0 ∨ 40 ≤ Int32.toNatClampNeg (x2 + 1) then
            (none)
            else
            (if x2 < 0 ∨ 40 ≤ Int32.toNatClampNeg x2 then
              (none)
              else
              (zX zP zK_X2_remove (11, [zR 12 i0, zI x1, zI (x2 + 1)], []) (zms (zms (zms σ.1 20 i0 (Int32.toNatClampNeg x2) (σ.1 20 i0 (Int32.toNatClampNeg (x2 + 1)))) 21 i0 (Int32.toNatClampNeg x2) (σ.1 21 i0 (Int32.toNatClampNeg (x2 + 1)))) 22 i0 (Int32.toNatClampNeg x2) (σ.1 22 i0 (Int32.toNatClampNeg (x2 + 1))), σ.2))))))))
  else
  (some (.inl none, (zms σ.1 12 i0 5 ((σ.1 12 i0 5) - 1), σ.2)))) := (zun_eq zK_X2_remove [11] 39 _ _).trans rfl
theorem e_X2_remove (i0 : Nat) (x1 : Int32) (σ : zSt) : zrun zP 31 [zR 12 i0, zI x1] σ = (
  zcI (zrun zP 27 [zR 12 i0, zI x1] σ) (fun r1 s1 =>
  if r1 = 0 then
    (some (.inl none, s1))
    else
    (zX zP zK_X2_remove (11, [zR 12 i0, zI x1, zI x1], []) s1))) := (zrun_eq _ _ _).trans ((zun_eq zK_X2_remove [11] 7 _ _).trans rfl)
theorem e_X2_removeWithin_10 (i0 : Nat) (x1 : Int32) (x2 : Int32) (x3 : Int32) (x4 : Int32) (σ : zSt) : zX zP zK_X2_removeWithin (10, [zR 12 i0, zI x1, zI x2, zI x3, zI x4], []) σ = (
  if x4 < 0 then
  (some (.inl (some (zI x3)), σ))
  else
  (zcI (zrun zP 35 [zR 12 i0, zI x4, zI x1, zI x2] σ) (fun r1 s1 =>
    if r1 = 0 then
      (zX zP zK_X2_removeWithin (10, [zR 12 i0, zI x1, zI x2, zI x3, zI (x4 + (-1))], []) s1)
      else
      (zcV (zrun zP 31 [zR 12 i0, zI x4] s1) (fun s2 =>
        zX zP zK_X2_removeWithin (10, [zR 12 i0, zI x1, zI x2, zI (x3 + 1), zI (x4 + (-1))], []) s2))))) := (zun_eq zK_X2_removeWithin [10] 15 _ _).trans rfl
theorem e_X2_removeWithin (i0 : Nat) (x1 : Int32) (x2 : Int32) (σ : zSt) : zrun zP 32 [zR 12 i0, zI x1, zI x2] σ = (
  zX zP zK_X2_removeWithin (10, [zR 12 i0, zI x1, zI x2, zI 0, zI ((σ.1 12 i0 5) - 1)], []) σ) := (zrun_eq _ _ _).trans ((zun_eq zK_X2_removeWithin [10] 8 _ _).trans rfl)
theorem e_X2_cutMark (i0 : Nat) (x1 : Int32) (x2 : Int32) (σ : zSt) : zrun zP 33 [zR 12 i0, zI x1, zI x2] σ = (
  zcI (zrun zP 27 [zR 12 i0, zI x1] σ) (fun r1 s1 =>
  if r1 = 0 then
    (some (.inl none, s1))
    else
    (zcI (zrun zP 26 [zR 12 i0] s1) (fun r2 s2 =>
      if r2 = 0 then
        (if x1 < 0 ∨ 40 ≤ Int32.toNatClampNeg x1 then
          (none)
          else
          (if x1 < 0 ∨ 40 ≤ Int32.toNatClampNeg x1 then
            (none)
            else
            (if x1 < 0 ∨ 40 ≤ Int32.toNatClampNeg x1 then
              (none)
              else
              (zcI (zrun zP 30 [zR 12 i0, zI x2, zI (s2.1 21 i0 (Int32.toNatClampNeg x1)), zI (s2.1 22 i0 (Int32.toNatClampNeg x1))] (zms s2.1 21 i0 (Int32.toNatClampNeg x1) x2, s2.2)) (fun r3 s3 =>
                some (.inl none, s3))))))
        else
        (some (.inl none, s2)))))) := (zrun_eq _ _ _).trans ((zun_eq zK_X2_cutMark [] 28 _ _).trans rfl)
theorem e_X2_joinNext (i0 : Nat) (x1 : Int32) (σ : zSt) : zrun zP 34 [zR 12 i0, zI x1] σ = (
  zcI (zrun zP 27 [zR 12 i0, zI x1] σ) (fun r1 s1 =>
  if r1 = 0 then
    (some (.inl none, s1))
    else
    (zcI (zrun zP 27 [zR 12 i0, zI (x1 + 1)] s1) (fun r2 s2 =>
      if r2 = 0 then
        (some (.inl none, s2))
        else
        (if (x1 + 1) < 0 ∨ 40 ≤ Int32.toNatClampNeg (x1 + 1) then
          (none)
          else
          (if x1 < 0 ∨ 40 ≤ Int32.toNatClampNeg x1 then
            (none)
            else
            (zcV (zrun zP 31 [zR 12 i0, zI (x1 + 1)] (zms s2.1 21 i0 (Int32.toNatClampNeg x1) (s2.1 21 i0 (Int32.toNatClampNeg (x1 + 1))), s2.2)) (fun s3 =>
              some (.inl none, s3))))))))) := (zrun_eq _ _ _).trans ((zun_eq zK_X2_joinNext [] 27 _ _).trans rfl)
theorem e_X2_liesIn (i0 : Nat) (x1 : Int32) (x2 : Int32) (x3 : Int32) (σ : zSt) : zrun zP 35 [zR 12 i0, zI x1, zI x2, zI x3] σ = (
  if x1 < 0 ∨ 40 ≤ Int32.toNatClampNeg x1 then
  (none)
  else
  (if (σ.1 20 i0 (Int32.toNatClampNeg x1)) < x2 then
    (some (.inl (some (zI 0)), σ))
    else
    (if x1 < 0 ∨ 40 ≤ Int32.toNatClampNeg x1 then
      (none)
      else
      (if x3 < (σ.1 21 i0 (Int32.toNatClampNeg x1)) then
        (some (.inl (some (zI 0)), σ))
        else
        (some (.inl (some (zI 1)), σ)))))) := (zrun_eq _ _ _).trans ((zun_eq zK_X2_liesIn [] 16 _ _).trans rfl)
theorem e_X2_isOver (i0 : Nat) (x1 : Int32) (x2 : Int32) (x3 : Int32) (σ : zSt) : zrun zP 36 [zR 12 i0, zI x1, zI x2, zI x3] σ = (
  if (σ.1 12 i0 1) = 3 then
  (if x1 < 0 ∨ 40 ≤ Int32.toNatClampNeg x1 then
    (none)
    else
    (if (σ.1 20 i0 (Int32.toNatClampNeg x1)) < x2 then
      (some (.inl (some (zI 0)), σ))
      else
      (if x1 < 0 ∨ 40 ≤ Int32.toNatClampNeg x1 then
        (none)
        else
        (if (σ.1 20 i0 (Int32.toNatClampNeg x1)) < x3 then
          (some (.inl (some (zI 1)), σ))
          else
          (some (.inl (some (zI 0)), σ))))))
  else
  (if x1 < 0 ∨ 40 ≤ Int32.toNatClampNeg x1 then
    (none)
    else
    (if (σ.1 20 i0 (Int32.toNatClampNeg x1)) < x3 then
      (if x1 < 0 ∨ 40 ≤ Int32.toNatClampNeg x1 then
        (none)
        else
        (if x2 < (σ.1 21 i0 (Int32.toNatClampNeg x1)) then
          (some (.inl (some (zI 1)), σ))
          else
          (some (.inl (some (zI 0)), σ))))
      else
      (some (.inl (some (zI 0)), σ))))) := (zrun_eq _ _ _).trans ((zun_eq zK_X2_isOver [] 20 _ _).trans rfl)
theorem e_X2_hasOver_2 (i0 : Nat) (x1 : Int32) (x2 : Int32) (x3 : Int32) (σ : zSt) : zX zP zK_X2_hasOver (2, [zR 12 i0, zI x1, zI x2, zI x3], []) σ = (
  if x3 < (σ.1 12 i0 5) then
  (zcI (zrun zP 36 [zR 12 i0, zI x3, zI x1, zI x2] σ) (fun r1 s1 =>
    if r1 = 0 then
      (zX zP zK_X2_hasOver (2, [zR 12 i0, zI x1, zI x2, zI (x3 + 1)], []) s1)
      else
      (some (.inl (some (zI 1)), s1))))
  else
  (some (.inl (some (zI 0)), σ))) := (zun_eq zK_X2_hasOver [2] 13 _ _).trans rfl
theorem e_X2_hasOver (i0 : Nat) (x1 : Int32) (x2 : Int32) (σ : zSt) : zrun zP 37 [zR 12 i0, zI x1, zI x2] σ = (
  zX zP zK_X2_hasOver (2, [zR 12 i0, zI x1, zI x2, zI 0], []) σ) := (zrun_eq _ _ _).trans ((zun_eq zK_X2_hasOver [2] 3 _ _).trans rfl)
theorem e_X2_shared (i0 : Nat) (x1 : Int32) (x2 : Int32) (x3 : Int32) (σ : zSt) : zrun zP 38 [zR 12 i0, zI x1, zI x2, zI x3] σ = (
  if x1 < 0 ∨ 40 ≤ Int32.toNatClampNeg x1 then
  (none)
  else
  (if x1 < 0 ∨ 40 ≤ Int32.toNatClampNeg x1 then
    (none)
    else
    (some (.inl (some (zI (if 0 < ((if x3 < (σ.1 21 i0 (Int32.toNatClampNeg x1)) then x3 else (σ.1 21 i0 (Int32.toNatClampNeg x1))) - (if (σ.1 20 i0 (Int32.toNatClampNeg x1)) < x2 then x2 else (σ.1 20 i0 (Int32.toNatClampNeg x1)))) then ((if x3 < (σ.1 21 i0 (Int32.toNatClampNeg x1)) then x3 else (σ.1 21 i0 (Int32.toNatClampNeg x1))) - (if (σ.1 20 i0 (Int32.toNatClampNeg x1)) < x2 then x2 else (σ.1 20 i0 (Int32.toNatClampNeg x1)))) else 0))), σ)))) := (zrun_eq _ _ _).trans ((zun_eq zK_X2_shared [] 17 _ _).trans rfl)
theorem e_X2_sharedBeside_5 (i0 : Nat) (i1 : Nat) (x2 : Int32) (x3 : Int32) (x4 : Int32) (v5 : zAV) (σ : zSt) : zX zP zK_X2_sharedBeside (5, [zR 12 i0, zR 12 i1, zI x2, zI x3, zI x4, v5], []) σ = (
  if x4 < (σ.1 12 i0 5) then
  (zX zP zK_X2_sharedBeside (17, [zR 12 i0, zR 12 i1, zI x2, zI x3, zI x4, zI 0], []) σ)
  else
  (some (.inl (some (zI x3)), σ))) := (zun_eq zK_X2_sharedBeside [5, 17] 7 _ _).trans rfl
theorem e_X2_sharedBeside_17 (i0 : Nat) (i1 : Nat) (x2 : Int32) (x3 : Int32) (x4 : Int32) (x5 : Int32) (σ : zSt) : zX zP zK_X2_sharedBeside (17, [zR 12 i0, zR 12 i1, zI x2, zI x3, zI x4, zI x5], []) σ = (
  if x5 < (σ.1 12 i1 5) then
  (if x4 < 0 ∨ 40 ≤ Int32.toNatClampNeg x4 then
    (none)
    else
    (if x5 < 0 ∨ 40 ≤ Int32.toNatClampNeg x5 then
      (none)
      else
      (if (σ.1 22 i0 (Int32.toNatClampNeg x4)) = (σ.1 22 i1 (Int32.toNatClampNeg x5)) then
        (if (1 : Int32) = x2 then
          (if x5 < 0 ∨ 40 ≤ Int32.toNatClampNeg x5 then
            (none)
            else
            (if x5 < 0 ∨ 40 ≤ Int32.toNatClampNeg x5 then
              (none)
              else
              (zcI (zrun zP 38 [zR 12 i0, zI x4, zI (σ.1 20 i1 (Int32.toNatClampNeg x5)), zI (σ.1 21 i1 (Int32.toNatClampNeg x5))] σ) (fun r1 s1 =>
                zX zP zK_X2_sharedBeside (17, [zR 12 i0, zR 12 i1, zI x2, zI (x3 + r1), zI x4, zI (x5 + 1)], []) s1))))
          else
          (zX zP zK_X2_sharedBeside (17, [zR 12 i0, zR 12 i1, zI x2, zI x3, zI x4, zI (x5 + 1)], []) σ))
        else
        (if (0 : Int32) = x2 then
          (if x5 < 0 ∨ 40 ≤ Int32.toNatClampNeg x5 then
            (none)
            else
            (if x5 < 0 ∨ 40 ≤ Int32.toNatClampNeg x5 then
              (none)
              else
              (zcI (zrun zP 38 [zR 12 i0, zI x4, zI (σ.1 20 i1 (Int32.toNatClampNeg x5)), zI (σ.1 21 i1 (Int32.toNatClampNeg x5))] σ) (fun r2 s2 =>
                zX zP zK_X2_sharedBeside (17, [zR 12 i0, zR 12 i1, zI x2, zI (x3 + r2), zI x4, zI (x5 + 1)], []) s2))))
          else
          (zX zP zK_X2_sharedBeside (17, [zR 12 i0, zR 12 i1, zI x2, zI x3, zI x4, zI (x5 + 1)], []) σ)))))
  else
  (zX zP zK_X2_sharedBeside (5, [zR 12 i0, zR 12 i1, zI x2, zI x3, zI (x4 + 1), zI x5], []) σ)) := (zun_eq zK_X2_sharedBeside [5, 17] 34 _ _).trans rfl
theorem e_X2_sharedBeside (i0 : Nat) (i1 : Nat) (x2 : Int32) (σ : zSt) : zrun zP 39 [zR 12 i0, zR 12 i1, zI x2] σ = (
  zX zP zK_X2_sharedBeside (5, [zR 12 i0, zR 12 i1, zI x2, zI 0, zI 0, zJunk], []) σ) := (zrun_eq _ _ _).trans ((zun_eq zK_X2_sharedBeside [5, 17] 5 _ _).trans rfl)
theorem e_X2_markAt_2 (i0 : Nat) (x1 : Int32) (x2 : Int32) (σ : zSt) : zX zP zK_X2_markAt (2, [zR 12 i0, zI x1, zI x2], []) σ = (
  if x2 < (σ.1 12 i0 5) then
  (if x2 < 0 ∨ 40 ≤ Int32.toNatClampNeg x2 then
    (none)
    else
    (if (σ.1 20 i0 (Int32.toNatClampNeg x2)) = x1 then
      (some (.inl (some (zI x2)), σ))
      else
      (if x2 < 0 ∨ 40 ≤ Int32.toNatClampNeg x2 then
        (none)
        else
        (if (σ.1 20 i0 (Int32.toNatClampNeg x2)) < x1 then
          (if x2 < 0 ∨ 40 ≤ Int32.toNatClampNeg x2 then
            (none)
            else
            (if x1 < (σ.1 21 i0 (Int32.toNatClampNeg x2)) then
              (some (.inl (some (zI x2)), σ))
              else
              (zX zP zK_X2_markAt (2, [zR 12 i0, zI x1, zI (x2 + 1)], []) σ)))
          else
          (zX zP zK_X2_markAt (2, [zR 12 i0, zI x1, zI (x2 + 1)], []) σ)))))
  else
  (some (.inl (some (zI (-1))), σ))) := (zun_eq zK_X2_markAt [2] 25 _ _).trans rfl
theorem e_X2_markAt (i0 : Nat) (x1 : Int32) (σ : zSt) : zrun zP 40 [zR 12 i0, zI x1] σ = (
  zX zP zK_X2_markAt (2, [zR 12 i0, zI x1, zI 0], []) σ) := (zrun_eq _ _ _).trans ((zun_eq zK_X2_markAt [2] 3 _ _).trans rfl)
theorem e_X2_markInside_2 (i0 : Nat) (x1 : Int32) (x2 : Int32) (σ : zSt) : zX zP zK_X2_markInside (2, [zR 12 i0, zI x1, zI x2], []) σ = (
  if x2 < (σ.1 12 i0 5) then
  (if x2 < 0 ∨ 40 ≤ Int32.toNatClampNeg x2 then
    (none)
    else
    (if (σ.1 20 i0 (Int32.toNatClampNeg x2)) < x1 then
      (if x2 < 0 ∨ 40 ≤ Int32.toNatClampNeg x2 then
        (none)
        else
        (if x1 < (σ.1 21 i0 (Int32.toNatClampNeg x2)) then
          (some (.inl (some (zI x2)), σ))
          else
          (zX zP zK_X2_markInside (2, [zR 12 i0, zI x1, zI (x2 + 1)], []) σ)))
      else
      (zX zP zK_X2_markInside (2, [zR 12 i0, zI x1, zI (x2 + 1)], []) σ)))
  else
  (some (.inl (some (zI (-1))), σ))) := (zun_eq zK_X2_markInside [2] 19 _ _).trans rfl
theorem e_X2_markInside (i0 : Nat) (x1 : Int32) (σ : zSt) : zrun zP 41 [zR 12 i0, zI x1] σ = (
  zX zP zK_X2_markInside (2, [zR 12 i0, zI x1, zI 0], []) σ) := (zrun_eq _ _ _).trans ((zun_eq zK_X2_markInside [2] 3 _ _).trans rfl)
theorem e_X2_markAround_2 (i0 : Nat) (x1 : Int32) (x2 : Int32) (x3 : Int32) (σ : zSt) : zX zP zK_X2_markAround (2, [zR 12 i0, zI x1, zI x2, zI x3], []) σ = (
  if x3 < (σ.1 12 i0 5) then
  (if x3 < 0 ∨ 40 ≤ Int32.toNatClampNeg x3 then
    (none)
    else
    (if x1 < (σ.1 20 i0 (Int32.toNatClampNeg x3)) then
      (zX zP zK_X2_markAround (2, [zR 12 i0, zI x1, zI x2, zI (x3 + 1)], []) σ)
      else
      (if x3 < 0 ∨ 40 ≤ Int32.toNatClampNeg x3 then
        (none)
        else
        (if (σ.1 21 i0 (Int32.toNatClampNeg x3)) < x2 then
          (zX zP zK_X2_markAround (2, [zR 12 i0, zI x1, zI x2, zI (x3 + 1)], []) σ)
          else
          (some (.inl (some (zI x3)), σ))))))
  else
  (some (.inl (some (zI (-1))), σ))) := (zun_eq zK_X2_markAround [2] 19 _ _).trans rfl
theorem e_X2_markAround (i0 : Nat) (x1 : Int32) (x2 : Int32) (σ : zSt) : zrun zP 42 [zR 12 i0, zI x1, zI x2] σ = (
  zX zP zK_X2_markAround (2, [zR 12 i0, zI x1, zI x2, zI 0], []) σ) := (zrun_eq _ _ _).trans ((zun_eq zK_X2_markAround [2] 3 _ _).trans rfl)
theorem e_X2_labelOf_2 (i0 : Nat) (x1 : Int32) (x2 : Int32) (x3 : Int32) (σ : zSt) : zX zP zK_X2_labelOf (2, [zR 12 i0, zI x1, zI x2, zI x3], []) σ = (
  if x3 < (σ.1 12 i0 5) then
  (if x3 < 0 ∨ 40 ≤ Int32.toNatClampNeg x3 then
    (none)
    else
    (if (σ.1 20 i0 (Int32.toNatClampNeg x3)) = x1 then
      (if x3 < 0 ∨ 40 ≤ Int32.toNatClampNeg x3 then
        (none)
        else
        (if (σ.1 21 i0 (Int32.toNatClampNeg x3)) = x2 then
          (if x3 < 0 ∨ 40 ≤ Int32.toNatClampNeg x3 then
            (none)
            else
            (some (.inl (some (zI (σ.1 22 i0 (Int32.toNatClampNeg x3)))), σ)))
          else
          (zX zP zK_X2_labelOf (2, [zR 12 i0, zI x1, zI x2, zI (x3 + 1)], []) σ)))
      else
      (zX zP zK_X2_labelOf (2, [zR 12 i0, zI x1, zI x2, zI (x3 + 1)], []) σ)))
  else
  (some (.inl (some (zI 0)), σ))) := (zun_eq zK_X2_labelOf [2] 22 _ _).trans rfl
theorem e_X2_labelOf (i0 : Nat) (x1 : Int32) (x2 : Int32) (σ : zSt) : zrun zP 43 [zR 12 i0, zI x1, zI x2] σ = (
  zX zP zK_X2_labelOf (2, [zR 12 i0, zI x1, zI x2, zI 0], []) σ) := (zrun_eq _ _ _).trans ((zun_eq zK_X2_labelOf [2] 3 _ _).trans rfl)
theorem e_X2_addTimesTo_2 (i0 : Nat) (i1 : Nat) (x2 : Int32) (σ : zSt) : zX zP zK_X2_addTimesTo (2, [zR 12 i0, zR 14 i1, zI x2], []) σ = (
  if x2 < (σ.1 12 i0 5) then
  (if x2 < 0 ∨ 40 ≤ Int32.toNatClampNeg x2 then
    (none)
    else
    (zcV (zrun zP 89 [zR 14 i1, zI (σ.1 20 i0 (Int32.toNatClampNeg x2))] σ) (fun s1 =>
      if x2 < 0 ∨ 40 ≤ Int32.toNatClampNeg x2 then
        (none)
        else
        (zcV (zrun zP 89 [zR 14 i1, zI (s1.1 21 i0 (Int32.toNatClampNeg x2))] s1) (fun s2 =>
          zX zP zK_X2_addTimesTo (2, [zR 12 i0, zR 14 i1, zI (x2 + 1)], []) s2)))))
  else
  (some (.inl none, σ))) := (zun_eq zK_X2_addTimesTo [2] 19 _ _).trans rfl
theorem e_X2_addTimesTo (i0 : Nat) (i1 : Nat) (σ : zSt) : zrun zP 44 [zR 12 i0, zR 14 i1] σ = (
  zX zP zK_X2_addTimesTo (2, [zR 12 i0, zR 14 i1, zI 0], []) σ) := (zrun_eq _ _ _).trans ((zun_eq zK_X2_addTimesTo [2] 3 _ _).trans rfl)
theorem e_X2_listTimes (i0 : Nat) (i1 : Nat) (σ : zSt) : zrun zP 45 [zR 12 i0, zR 14 i1] σ = (
  zcV (zrun zP 86 [zR 14 i1] σ) (fun s1 =>
  zcV (zrun zP 44 [zR 12 i0, zR 14 i1] s1) (fun s2 =>
    some (.inl none, s2)))) := (zrun_eq _ _ _).trans ((zun_eq zK_X2_listTimes [] 7 _ _).trans rfl)
theorem e_X2_countEnds_4 (i0 : Nat) (x1 : Int32) (x2 : Int32) (x3 : Int32) (σ : zSt) : zX zP zK_X2_countEnds (4, [zR 12 i0, zI x1, zI x2, zI x3], []) σ = (
  if x3 < (σ.1 12 i0 5) then
  (if x3 < 0 ∨ 40 ≤ Int32.toNatClampNeg x3 then
    (none)
    else
    (if (σ.1 20 i0 (Int32.toNatClampNeg x3)) = x1 then
      (if (σ.1 12 i0 1) = 3 then
        (zX zP zK_X2_countEnds (4, [zR 12 i0, zI x1, zI (x2 + 1), zI (x3 + 1)], []) σ)
        else
        (if x3 < 0 ∨ 40 ≤ Int32.toNatClampNeg x3 then
          (none)
          else
          (if (σ.1 21 i0 (Int32.toNatClampNeg x3)) = x1 then
            (zX zP zK_X2_countEnds (4, [zR 12 i0, zI x1, zI ((x2 + 1) + 1), zI (x3 + 1)], []) σ)
            else
            (zX zP zK_X2_countEnds (4, [zR 12 i0, zI x1, zI (x2 + 1), zI (x3 + 1)], []) σ))))
      else
      (if (σ.1 12 i0 1) = 3 then
        (zX zP zK_X2_countEnds (4, [zR 12 i0, zI x1, zI x2, zI (x3 + 1)], []) σ)
        else
        (if x3 < 0 ∨ 40 ≤ Int32.toNatClampNeg x3 then
          (none)
          else
          (if (σ.1 21 i0 (Int32.toNatClampNeg x3)) = x1 then
            (zX zP zK_X2_countEnds (4, [zR 12 i0, zI x1, zI (x2 + 1), zI (x3 + 1)], []) σ)
            else
            (zX zP zK_X2_countEnds (4, [zR 12 i0, zI x1, zI x2, zI (x3 + 1)], []) σ))))))
  else
  (some (.inl (some (zI x2)), σ))) := (zun_eq zK_X2_countEnds [4] 25 _ _).trans rfl
theorem e_X2_countEnds (i0 : Nat) (x1 : Int32) (σ : zSt) : zrun zP 46 [zR 12 i0, zI x1] σ = (
  zX zP zK_X2_countEnds (4, [zR 12 i0, zI x1, zI 0, zI 0], []) σ) := (zrun_eq _ _ _).trans ((zun_eq zK_X2_countEnds [4] 5 _ _).trans rfl)
theorem e_X2_shiftEnds_2 (i0 : Nat) (x1 : Int32) (x2 : Int32) (x3 : Int32) (σ : zSt) : zX zP zK_X2_shiftEnds (2, [zR 12 i0, zI x1, zI x2, zI x3], []) σ = (
  if x3 < (σ.1 12 i0 5) then
  (if x3 < 0 ∨ 40 ≤ Int32.toNatClampNeg x3 then
    (none)
    else
    (if (σ.1 20 i0 (Int32.toNatClampNeg x3)) = x1 then
      (if x3 < 0 ∨ 40 ≤ Int32.toNatClampNeg x3 then
        (none)
        else
        (if x3 < 0 ∨ 40 ≤ Int32.toNatClampNeg x3 then
          (none)
          else
          (if (σ.1 21 i0 (Int32.toNatClampNeg x3)) = x1 then
            (if x3 < 0 ∨ 40 ≤ Int32.toNatClampNeg x3 then
              (none)
              else
              (zX zP zK_X2_shiftEnds (2, [zR 12 i0, zI x1, zI x2, zI (x3 + 1)], []) (zms (zms σ.1 20 i0 (Int32.toNatClampNeg x3) x2) 21 i0 (Int32.toNatClampNeg x3) x2, σ.2)))
            else
            (zX zP zK_X2_shiftEnds (2, [zR 12 i0, zI x1, zI x2, zI (x3 + 1)], []) (zms σ.1 20 i0 (Int32.toNatClampNeg x3) x2, σ.2)))))
      else
      (if x3 < 0 ∨ 40 ≤ Int32.toNatClampNeg x3 then
        (none)
        else
        (if (σ.1 21 i0 (Int32.toNatClampNeg x3)) = x1 then
          (if x3 < 0 ∨ 40 ≤ Int32.toNatClampNeg x3 then
            (none)
            else
            (zX zP zK_X2_shiftEnds (2, [zR 12 i0, zI x1, zI x2, zI (x3 + 1)], []) (zms σ.1 21 i0 (Int32.toNatClampNeg x3) x2, σ.2)))
          else
          (zX zP zK_X2_shiftEnds (2, [zR 12 i0, zI x1, zI x2, zI (x3 + 1)], []) σ)))))
  else
  (some (.inl none, σ))) := (zun_eq zK_X2_shiftEnds [2] 29 _ _).trans rfl
theorem e_X2_shiftEnds (i0 : Nat) (x1 : Int32) (x2 : Int32) (σ : zSt) : zrun zP 47 [zR 12 i0, zI x1, zI x2] σ = (
  zX zP zK_X2_shiftEnds (2, [zR 12 i0, zI x1, zI x2, zI 0], []) σ) := (zrun_eq _ _ _).trans ((zun_eq zK_X2_shiftEnds [2] 3 _ _).trans rfl)
theorem e_X2_insertSilence_2 (i0 : Nat) (x1 : Int32) (x2 : Int32) (x3 : Int32) (σ : zSt) : zX zP zK_X2_insertSilence (2, [zR 12 i0, zI x1, zI x2, zI x3], []) σ = (
  if x3 < (σ.1 12 i0 5) then
  (if x3 < 0 ∨ 40 ≤ Int32.toNatClampNeg x3 then
    (none)
    else
    (if x1 < (σ.1 20 i0 (Int32.toNatClampNeg x3)) then
      (if x3 < 0 ∨ 40 ≤ Int32.toNatClampNeg x3 then
        (none)
        else
        (if x3 < 0 ∨ 40 ≤ Int32.toNatClampNeg x3 then
          (none)
          else
          (if x3 < 0 ∨ 40 ≤ Int32.toNatClampNeg x3 then
            (none)
            else
            (if x1 < (σ.1 21 i0 (Int32.toNatClampNeg x3)) then
              (if x3 < 0 ∨ 40 ≤ Int32.toNatClampNeg x3 then
                (none)
                else
                (if x3 < 0 ∨ 40 ≤ Int32.toNatClampNeg x3 then
                  (none)
                  else
                  (zX zP zK_X2_insertSilence (2, [zR 12 i0, zI x1, zI x2, zI (x3 + 1)], []) (zms (zms σ.1 20 i0 (Int32.toNatClampNeg x3) ((σ.1 20 i0 (Int32.toNatClampNeg x3)) + x2)) 21 i0 (Int32.toNatClampNeg x3) ((σ.1 21 i0 (Int32.toNatClampNeg x3)) + x2), σ.2))))
              else
              (zX zP zK_X2_insertSilence (2, [zR 12 i0, zI x1, zI x2, zI (x3 + 1)], []) (zms σ.1 20 i0 (Int32.toNatClampNeg x3) ((σ.1 20 i0 (Int32.toNatClampNeg x3)) + x2), σ.2))))))
      else
      (if x3 < 0 ∨ 40 ≤ Int32.toNatClampNeg x3 then
        (none)
        else
        (if x1 < (σ.1 21 i0 (Int32.toNatClampNeg x3)) then
          (if x3 < 0 ∨ 40 ≤ Int32.toNatClampNeg x3 then
            (none)
            else
            (if x3 < 0 ∨ 40 ≤ Int32.toNatClampNeg x3 then
              (none)
              else
              (zX zP zK_X2_insertSilence (2, [zR 12 i0, zI x1, zI x2, zI (x3 + 1)], []) (zms σ.1 21 i0 (Int32.toNatClampNeg x3) ((σ.1 21 i0 (Int32.toNatClampNeg x3)) + x2), σ.2))))
          else
          (zX zP zK_X2_insertSilence (2, [zR 12 i0, zI x1, zI x2, zI (x3 + 1)], []) σ)))))
  else
  (some (.inl none, σ))) := (zun_eq zK_X2_insertSilence [2] 35 _ _).trans rfl
theorem e_X2_insertSilence (i0 : Nat) (x1 : Int32) (x2 : Int32) (σ : zSt) : zrun zP 48 [zR 12 i0, zI x1, zI x2] σ = (
  zX zP zK_X2_insertSilence (2, [zR 12 i0, zI x1, zI x2, zI 0], []) σ) := (zrun_eq _ _ _).trans ((zun_eq zK_X2_insertSilence [2] 3 _ _).trans rfl)
theorem e_X3_clear (i0 : Nat) (σ : zSt) : zrun zP 49 [zR 13 i0] σ = (
  some (.inl none, (zms σ.1 13 i0 0 0, σ.2))) := (zrun_eq _ _ _).trans ((zun_eq zK_X3_clear [] 5 _ _).trans rfl)
theorem e_X3_copyFrom_10 (i0 : Nat) (i1 : Nat) (x2 : Int32) (σ : zSt) : zX zP zK_X3_copyFrom (10, [zR 13 i0, zR 13 i1, zI x2], []) σ = (
  if x2 < (σ.1 13 i0 0) then
  (if x2 < 0 ∨ 6 ≤ Int32.toNatClampNeg x2 then
    (none)
    else
    (if x2 < 0 ∨ 6 ≤ Int32.toNatClampNeg x2 then
      (none)
      else
      (zcV (zrun zP 25 [zR 12 (6 * i0 + Int32.toNatClampNeg x2), zR 12 (6 * i1 + Int32.toNatClampNeg x2)] σ) (fun s1 =>
        zX zP zK_X3_copyFrom (10, [zR 13 i0, zR 13 i1, zI (x2 + 1)], []) s1))))
  else
  (some (.inl none, σ))) := (zun_eq zK_X3_copyFrom [10] 16 _ _).trans rfl
theorem e_X3_copyFrom (i0 : Nat) (i1 : Nat) (σ : zSt) : zrun zP 50 [zR 13 i0, zR 13 i1] σ = (
  zX zP zK_X3_copyFrom (10, [zR 13 i0, zR 13 i1, zI 0], []) (zms σ.1 13 i0 0 (σ.1 13 i1 0), σ.2)) := (zrun_eq _ _ _).trans ((zun_eq zK_X3_copyFrom [10] 7 _ _).trans rfl)
theorem e_X3_hasTier (i0 : Nat) (x1 : Int32) (σ : zSt) : zrun zP 51 [zR 13 i0, zI x1] σ = (
  if x1 < 0 then
  (some (.inl (some (zI 0)), σ))
  else
  (if x1 < (σ.1 13 i0 0) then
    (some (.inl (some (zI 1)), σ))
    else
    (some (.inl (some (zI 0)), σ)))) := (zrun_eq _ _ _).trans ((zun_eq zK_X3_hasTier [] 10 _ _).trans rfl)
theorem e_X3_indexOf_2 (i0 : Nat) (x1 : Int32) (x2 : Int32) (σ : zSt) : zX zP zK_X3_indexOf (2, [zR 13 i0, zI x1, zI x2], []) σ = (
  if x2 < (σ.1 13 i0 0) then
  (if x2 < 0 ∨ 6 ≤ Int32.toNatClampNeg x2 then
    (none)
    else
    (if (σ.1 12 (6 * i0 + Int32.toNatClampNeg x2) 0) = x1 then
      (some (.inl (some (zI x2)), σ))
      else
      (zX zP zK_X3_indexOf (2, [zR 13 i0, zI x1, zI (x2 + 1)], []) σ)))
  else
  (some (.inl (some (zI (-1))), σ))) := (zun_eq zK_X3_indexOf [2] 14 _ _).trans rfl
theorem e_X3_indexOf (i0 : Nat) (x1 : Int32) (σ : zSt) : zrun zP 52 [zR 13 i0, zI x1] σ = (
  zX zP zK_X3_indexOf (2, [zR 13 i0, zI x1, zI 0], []) σ) := (zrun_eq _ _ _).trans ((zun_eq zK_X3_indexOf [2] 3 _ _).trans rfl)
theorem e_X3_countMarks_4 (i0 : Nat) (x1 : Int32) (x2 : Int32) (σ : zSt) : zX zP zK_X3_countMarks (4, [zR 13 i0, zI x1, zI x2], []) σ = (
  if x2 < (σ.1 13 i0 0) then
  (if x2 < 0 ∨ 6 ≤ Int32.toNatClampNeg x2 then
    (none)
    else
    (zX zP zK_X3_countMarks (4, [zR 13 i0, zI (x1 + (σ.1 12 (6 * i0 + Int32.toNatClampNeg x2) 5)), zI (x2 + 1)], []) σ))
  else
  (some (.inl (some (zI x1)), σ))) := (zun_eq zK_X3_countMarks [4] 15 _ _).trans rfl
theorem e_X3_countMarks (i0 : Nat) (σ : zSt) : zrun zP 53 [zR 13 i0] σ = (
  zX zP zK_X3_countMarks (4, [zR 13 i0, zI 0, zI 0], []) σ) := (zrun_eq _ _ _).trans ((zun_eq zK_X3_countMarks [4] 5 _ _).trans rfl)
theorem e_X3_countFamilies (i0 : Nat) (σ : zSt) : zrun zP 54 [zR 13 i0] σ = (
  zcI (zrun zP 55 [zR 13 i0, zI (-1)] σ) (fun r1 s1 =>
  some (.inl (some (zI r1)), s1))) := (zrun_eq _ _ _).trans ((zun_eq zK_X3_countFamilies [] 5 _ _).trans rfl)
theorem e_X3_countChildren_4 (i0 : Nat) (x1 : Int32) (x2 : Int32) (x3 : Int32) (σ : zSt) : zX zP zK_X3_countChildren (4, [zR 13 i0, zI x1, zI x2, zI x3], []) σ = (
  if x3 < (σ.1 13 i0 0) then
  (if x3 < 0 ∨ 6 ≤ Int32.toNatClampNeg x3 then
    (none)
    else
    (if (σ.1 12 (6 * i0 + Int32.toNatClampNeg x3) 2) = x1 then
      (zX zP zK_X3_countChildren (4, [zR 13 i0, zI x1, zI (x2 + 1), zI (x3 + 1)], []) σ)
      else
      (zX zP zK_X3_countChildren (4, [zR 13 i0, zI x1, zI x2, zI (x3 + 1)], []) σ)))
  else
  (some (.inl (some (zI x2)), σ))) := (zun_eq zK_X3_countChildren [4] 15 _ _).trans rfl
theorem e_X3_countChildren (i0 : Nat) (x1 : Int32) (σ : zSt) : zrun zP 55 [zR 13 i0, zI x1] σ = (
  zX zP zK_X3_countChildren (4, [zR 13 i0, zI x1, zI 0, zI 0], []) σ) := (zrun_eq _ _ _).trans ((zun_eq zK_X3_countChildren [4] 5 _ _).trans rfl)
theorem e_X3_addTier_126 (i0 : Nat) (x1 : Int32) (x2 : Int32) (x3 : Int32) (i4 : Nat) (i5 : Nat) (x6 : Int32) (σ : zSt) : zX zP zK_X3_addTier (126, [zR 13 i0, zI x1, zI x2, zI x3, zR 12 i4, zR 12 i5, zI x6], []) σ = (
  if x6 < (σ.1 12 i5 5) then
  (if x6 < 0 ∨ 40 ≤ Int32.toNatClampNeg x6 then
    (none)
    else
    (if x6 < 0 ∨ 40 ≤ Int32.toNatClampNeg x6 then
      (none)
      else
      (zcI (zrun zP 30 [zR 12 i4, zI (σ.1 20 i5 (Int32.toNatClampNeg x6)), zI (σ.1 21 i5 (Int32.toNatClampNeg x6)), zI 0] σ) (fun r1 s1 =>
        zX zP zK_X3_addTier (126, [zR 13 i0, zI x1, zI x2, zI x3, zR 12 i4, zR 12 i5, zI (x6 + 1)], []) s1))))
  else
  (some (.inl none, (zms σ.1 13 i0 0 ((σ.1 13 i0 0) + 1), σ.2)))) := (zun_eq zK_X3_addTier [126] 19 _ _).trans rfl
theorem e_X3_addTier (i0 : Nat) (x1 : Int32) (x2 : Int32) (x3 : Int32) (σ : zSt) : zrun zP 56 [zR 13 i0, zI x1, zI x2, zI x3] σ = (
  if (σ.1 13 i0 0) < 6 then
  (if (σ.1 13 i0 0) < 0 ∨ 6 ≤ Int32.toNatClampNeg (σ.1 13 i0 0) then
    (none)
    else
    (zcI (zrun zP 51 [zR 13 i0, zI x3] (zms (zms (zms σ.1 12 (6 * i0 + Int32.toNatClampNeg (σ.1 13 i0 0)) 0 x1) 12 (6 * i0 + Int32.toNatClampNeg (σ.1 13 i0 0)) 1 x2) 12 (6 * i0 + Int32.toNatClampNeg (σ.1 13 i0 0)) 2 x3, σ.2)) (fun r1 s1 =>
      if r1 = 0 then
        (zcI (zrun zP 51 [zR 13 i0, zI x3] (zms s1.1 12 (6 * i0 + Int32.toNatClampNeg (σ.1 13 i0 0)) 3 (s1.1 13 i0 0), s1.2)) (fun r2 s2 =>
          if r2 = 0 then
            (if x2 = 1 then
              (zcI (zrun zP 51 [zR 13 i0, zI x3] (zms (zms s2.1 12 (6 * i0 + Int32.toNatClampNeg (σ.1 13 i0 0)) 4 0) 12 (6 * i0 + Int32.toNatClampNeg (σ.1 13 i0 0)) 5 0, s2.2)) (fun r3 s3 =>
                if r3 = 0 then
                  (some (.inl none, (zms s3.1 13 i0 0 ((s3.1 13 i0 0) + 1), s3.2)))
                  else
                  (if x3 < 0 ∨ 6 ≤ Int32.toNatClampNeg x3 then
                    (none)
                    else
                    (zX zP zK_X3_addTier (126, [zR 13 i0, zI x1, zI x2, zI x3, zR 12 (6 * i0 + Int32.toNatClampNeg (σ.1 13 i0 0)), zR 12 (6 * i0 + Int32.toNatClampNeg x3), zI 0], []) s3))))
              else
              (some (.inl none, (zms (zms (zms s2.1 12 (6 * i0 + Int32.toNatClampNeg (σ.1 13 i0 0)) 4 0) 12 (6 * i0 + Int32.toNatClampNeg (σ.1 13 i0 0)) 5 0) 13 i0 0 ((s2.1 13 i0 0) + 1), s2.2))))
            else
            (if x3 < 0 ∨ 6 ≤ Int32.toNatClampNeg x3 then
              (none)
              else
              (if x2 = 1 then
                (zcI (zrun zP 51 [zR 13 i0, zI x3] (zms (zms s2.1 12 (6 * i0 + Int32.toNatClampNeg (σ.1 13 i0 0)) 4 ((s2.1 12 (6 * i0 + Int32.toNatClampNeg x3) 4) + 1)) 12 (6 * i0 + Int32.toNatClampNeg (σ.1 13 i0 0)) 5 0, s2.2)) (fun r4 s4 =>
                  if r4 = 0 then
                    (some (.inl none, (zms s4.1 13 i0 0 ((s4.1 13 i0 0) + 1), s4.2)))
                    else
                    (if x3 < 0 ∨ 6 ≤ Int32.toNatClampNeg x3 then
                      (none)
                      else
                      (zX zP zK_X3_addTier (126, [zR 13 i0, zI x1, zI x2, zI x3, zR 12 (6 * i0 + Int32.toNatClampNeg (σ.1 13 i0 0)), zR 12 (6 * i0 + Int32.toNatClampNeg x3), zI 0], []) s4))))
                else
                (some (.inl none, (zms (zms (zms s2.1 12 (6 * i0 + Int32.toNatClampNeg (σ.1 13 i0 0)) 4 ((s2.1 12 (6 * i0 + Int32.toNatClampNeg x3) 4) + 1)) 12 (6 * i0 + Int32.toNatClampNeg (σ.1 13 i0 0)) 5 0) 13 i0 0 ((s2.1 13 i0 0) + 1), s2.2)))))))
        else
        (if x3 < 0 ∨ 6 ≤ Int32.toNatClampNeg x3 then
          (none)
          else
          (zcI (zrun zP 51 [zR 13 i0, zI x3] (zms s1.1 12 (6 * i0 + Int32.toNatClampNeg (σ.1 13 i0 0)) 3 (s1.1 12 (6 * i0 + Int32.toNatClampNeg x3) 3), s1.2)) (fun r5 s5 =>
            if r5 = 0 then
              (if x2 = 1 then
                (zcI (zrun zP 51 [zR 13 i0, zI x3] (zms (zms s5.1 12 (6 * i0 + Int32.toNatClampNeg (σ.1 13 i0 0)) 4 0) 12 (6 * i0 + Int32.toNatClampNeg (σ.1 13 i0 0)) 5 0, s5.2)) (fun r6 s6 =>
                  if r6 = 0 then
                    (some (.inl none, (zms s6.1 13 i0 0 ((s6.1 13 i0 0) + 1), s6.2)))
                    else
                    (if x3 < 0 ∨ 6 ≤ Int32.toNatClampNeg x3 then
                      (none)
                      else
                      (zX zP zK_X3_addTier (126, [zR 13 i0, zI x1, zI x2, zI x3, zR 12 (6 * i0 + Int32.toNatClampNeg (σ.1 13 i0 0)), zR 12 (6 * i0 + Int32.toNatClampNeg x3), zI 0], []) s6))))
                else
                (some (.inl none, (zms (zms (zms s5.1 12 (6 * i0 + Int32.toNatClampNeg (σ.1 13 i0 0)) 4 0) 12 (6 * i0 + Int32.toNatClampNeg (σ.1 13 i0 0)) 5 0) 13 i0 0 ((s5.1 13 i0 0) + 1), s5.2))))
              else
              (if x3 < 0 ∨ 6 ≤ Int32.toNatClampNeg x3 then
                (none)
                else
                (if x2 = 1 then
                  (zcI (zrun zP 51 [zR 13 i0, zI x3] (zms (zms s5.1 12 (6 * i0 + Int32.toNatClampNeg (σ.1 13 i0 0)) 4 ((s5.1 12 (6 * i0 + Int32.toNatClampNeg x3) 4) + 1)) 12 (6 * i0 + Int32.toNatClampNeg (σ.1 13 i0 0)) 5 0, s5.2)) (fun r7 s7 =>
                    if r7 = 0 then
                      (some (.inl none, (zms s7.1 13 i0 0 ((s7.1 13 i0 0) + 1), s7.2)))
                      else
                      (if x3 < 0 ∨ 6 ≤ Int32.toNatClampNeg x3 then
                        (none)
                        else
                        (zX zP zK_X3_addTier (126, [zR 13 i0, zI x1, zI x2, zI x3, zR 12 (6 * i0 + Int32.toNatClampNeg (σ.1 13 i0 0)), zR 12 (6 * i0 + Int32.toNatClampNeg x3), zI 0], []) s7))))
                  else
                  (some (.inl none, (zms (zms (zms s5.1 12 (6 * i0 + Int32.toNatClampNeg (σ.1 13 i0 0)) 4 ((s5.1 12 (6 * i0 + Int32.toNatClampNeg x3) 4) + 1)) 12 (6 * i0 + Int32.toNatClampNeg (σ.1 13 i0 0)) 5 0) 13 i0 0 ((s5.1 13 i0 0) + 1), s5.2)))))))))))
  else
  (some (.inl none, σ))) := (zrun_eq _ _ _).trans ((zun_eq zK_X3_addTier [126] 63 _ _).trans rfl)
theorem e_X3_isBelow_13 (i0 : Nat) (x1 : Int32) (x2 : Int32) (x3 : Int32) (x4 : Int32) (σ : zSt) : zX zP zK_X3_isBelow (13, [zR 13 i0, zI x1, zI x2, zI x3, zI x4], []) σ = (
  if x4 < 6 then
  (if x2 < x3 then
    (if x3 < 0 ∨ 6 ≤ Int32.toNatClampNeg x3 then
      (none)
      else
      (zX zP zK_X3_isBelow (13, [zR 13 i0, zI x1, zI x2, zI (σ.1 12 (6 * i0 + Int32.toNatClampNeg x3) 2), zI (x4 + 1)], []) σ))
    else
    (if x3 = x2 then
      (some (.inl (some (zI 1)), σ))
      else
      (some (.inl (some (zI 0)), σ))))
  else
  (if x3 = x2 then
    (some (.inl (some (zI 1)), σ))
    else
    (some (.inl (some (zI 0)), σ)))) := (zun_eq zK_X3_isBelow [13] 15 _ _).trans rfl
theorem e_X3_isBelow (i0 : Nat) (x1 : Int32) (x2 : Int32) (σ : zSt) : zrun zP 57 [zR 13 i0, zI x1, zI x2] σ = (
  if x1 < 0 ∨ 6 ≤ Int32.toNatClampNeg x1 then
  (none)
  else
  (zX zP zK_X3_isBelow (13, [zR 13 i0, zI x1, zI x2, zI (σ.1 12 (6 * i0 + Int32.toNatClampNeg x1) 2), zI 0], []) σ)) := (zrun_eq _ _ _).trans ((zun_eq zK_X3_isBelow [13] 9 _ _).trans rfl)
theorem e_X3_isPieceOf_5 (i0 : Nat) (x1 : Int32) (x2 : Int32) (x3 : Int32) (x4 : Int32) (σ : zSt) : zX zP zK_X3_isPieceOf (5, [zR 13 i0, zI x1, zI x2, zI x3, zI x4], []) σ = (
  if x4 < 6 then
  (if x2 < x3 then
    (if x3 < 0 ∨ 6 ≤ Int32.toNatClampNeg x3 then
      (none)
      else
      (if (σ.1 12 (6 * i0 + Int32.toNatClampNeg x3) 1) = 1 then
        (if x3 < 0 ∨ 6 ≤ Int32.toNatClampNeg x3 then
          (none)
          else
          (zX zP zK_X3_isPieceOf (5, [zR 13 i0, zI x1, zI x2, zI (σ.1 12 (6 * i0 + Int32.toNatClampNeg x3) 2), zI (x4 + 1)], []) σ))
        else
        (if x3 = x2 then
          (some (.inl (some (zI 1)), σ))
          else
          (some (.inl (some (zI 0)), σ)))))
    else
    (if x3 = x2 then
      (some (.inl (some (zI 1)), σ))
      else
      (some (.inl (some (zI 0)), σ))))
  else
  (if x3 = x2 then
    (some (.inl (some (zI 1)), σ))
    else
    (some (.inl (some (zI 0)), σ)))) := (zun_eq zK_X3_isPieceOf [5] 22 _ _).trans rfl
theorem e_X3_isPieceOf (i0 : Nat) (x1 : Int32) (x2 : Int32) (σ : zSt) : zrun zP 58 [zR 13 i0, zI x1, zI x2] σ = (
  zX zP zK_X3_isPieceOf (5, [zR 13 i0, zI x1, zI x2, zI x1, zI 0], []) σ) := (zrun_eq _ _ _).trans ((zun_eq zK_X3_isPieceOf [5] 5 _ _).trans rfl)
theorem e_X3_parentMark (i0 : Nat) (x1 : Int32) (x2 : Int32) (σ : zSt) : zrun zP 59 [zR 13 i0, zI x1, zI x2] σ = (
  if x1 < 0 ∨ 6 ≤ Int32.toNatClampNeg x1 then
  (none)
  else
  (zcI (zrun zP 51 [zR 13 i0, zI (σ.1 12 (6 * i0 + Int32.toNatClampNeg x1) 2)] σ) (fun r1 s1 =>
    if r1 = 0 then
      (some (.inl (some (zI (-1))), s1))
      else
      (zcI (zrun zP 27 [zR 12 (6 * i0 + Int32.toNatClampNeg x1), zI x2] s1) (fun r2 s2 =>
        if r2 = 0 then
          (some (.inl (some (zI (-1))), s2))
          else
          (if (s2.1 12 (6 * i0 + Int32.toNatClampNeg x1) 2) < 0 ∨ 6 ≤ Int32.toNatClampNeg (s2.1 12 (6 * i0 + Int32.toNatClampNeg x1) 2) then
            (none)
            else
            (if x2 < 0 ∨ 40 ≤ Int32.toNatClampNeg x2 then
              (none)
              else
              (if x2 < 0 ∨ 40 ≤ Int32.toNatClampNeg x2 then
                (none)
                else
                (zcI (zrun zP 42 [zR 12 (6 * i0 + Int32.toNatClampNeg (s2.1 12 (6 * i0 + Int32.toNatClampNeg x1) 2)), zI (s2.1 20 (6 * i0 + Int32.toNatClampNeg x1) (Int32.toNatClampNeg x2)), zI (s2.1 21 (6 * i0 + Int32.toNatClampNeg x1) (Int32.toNatClampNeg x2))] s2) (fun r3 s3 =>
                  some (.inl (some (zI r3)), s3))))))))))) := (zrun_eq _ _ _).trans ((zun_eq zK_X3_parentMark [] 30 _ _).trans rfl)
theorem e_X3_haveSameParent (i0 : Nat) (x1 : Int32) (x2 : Int32) (x3 : Int32) (σ : zSt) : zrun zP 60 [zR 13 i0, zI x1, zI x2, zI x3] σ = (
  zcI (zrun zP 59 [zR 13 i0, zI x1, zI x2] σ) (fun r1 s1 =>
  zcI (zrun zP 59 [zR 13 i0, zI x1, zI x3] s1) (fun r2 s2 =>
    if r1 = r2 then
      (some (.inl (some (zI 1)), s2))
      else
      (some (.inl (some (zI 0)), s2))))) := (zrun_eq _ _ _).trans ((zun_eq zK_X3_haveSameParent [] 13 _ _).trans rfl)
theorem e_X3_countHeld_7 (i0 : Nat) (x1 : Int32) (x2 : Int32) (x3 : Int32) (x4 : Int32) (v5 : zAV) (σ : zSt) : zX zP zK_X3_countHeld (7, [zR 13 i0, zI x1, zI x2, zI x3, zI x4, v5], []) σ = (
  if x4 < (σ.1 13 i0 0) then
  (zX zP zK_X3_countHeld (19, [zR 13 i0, zI x1, zI x2, zI x3, zI x4, zI 0], []) σ)
  else
  (some (.inl (some (zI x3)), σ))) := (zun_eq zK_X3_countHeld [7, 19] 7 _ _).trans rfl
theorem e_X3_countHeld_19 (i0 : Nat) (x1 : Int32) (x2 : Int32) (x3 : Int32) (x4 : Int32) (x5 : Int32) (σ : zSt) : zX zP zK_X3_countHeld (19, [zR 13 i0, zI x1, zI x2, zI x3, zI x4, zI x5], []) σ = (
  if x4 < 0 ∨ 6 ≤ Int32.toNatClampNeg x4 then
  (none)
  else
  (if (σ.1 12 (6 * i0 + Int32.toNatClampNeg x4) 2) = x1 then
    (if x4 < 0 ∨ 6 ≤ Int32.toNatClampNeg x4 then
      (none)
      else
      (if x5 < (σ.1 12 (6 * i0 + Int32.toNatClampNeg x4) 5) then
        (zcI (zrun zP 59 [zR 13 i0, zI x4, zI x5] σ) (fun r1 s1 =>
          if r1 = x2 then
            (zX zP zK_X3_countHeld (19, [zR 13 i0, zI x1, zI x2, zI (x3 + 1), zI x4, zI (x5 + 1)], []) s1)
            else
            (zX zP zK_X3_countHeld (19, [zR 13 i0, zI x1, zI x2, zI x3, zI x4, zI (x5 + 1)], []) s1)))
        else
        (zX zP zK_X3_countHeld (7, [zR 13 i0, zI x1, zI x2, zI x3, zI (x4 + 1), zI x5], []) σ)))
    else
    (zX zP zK_X3_countHeld (7, [zR 13 i0, zI x1, zI x2, zI x3, zI (x4 + 1), zI x5], []) σ))) := (zun_eq zK_X3_countHeld [7, 19] 24 _ _).trans rfl
theorem e_X3_countHeld (i0 : Nat) (x1 : Int32) (x2 : Int32) (σ : zSt) : zrun zP 61 [zR 13 i0, zI x1, zI x2] σ = (
  zX zP zK_X3_countHeld (7, [zR 13 i0, zI x1, zI x2, zI 0, zI (x1 + 1), zJunk], []) σ) := (zrun_eq _ _ _).trans ((zun_eq zK_X3_countHeld [7, 19] 7 _ _).trans rfl)
theorem e_X3_liesInParent (i0 : Nat) (i1 : Nat) (x2 : Int32) (x3 : Int32) (σ : zSt) : zrun zP 62 [zR 13 i0, zR 12 i1, zI x2, zI x3] σ = (
  zcI (zrun zP 51 [zR 13 i0, zI (σ.1 12 i1 2)] σ) (fun r1 s1 =>
  if r1 = 0 then
    (some (.inl (some (zI 0)), s1))
    else
    (if (s1.1 12 i1 2) < 0 ∨ 6 ≤ Int32.toNatClampNeg (s1.1 12 i1 2) then
      (none)
      else
      (zcI (zrun zP 42 [zR 12 (6 * i0 + Int32.toNatClampNeg (s1.1 12 i1 2)), zI x2, zI x3] s1) (fun r2 s2 =>
        if r2 = (-1) then
          (some (.inl (some (zI 0)), s2))
          else
          (some (.inl (some (zI 1)), s2))))))) := (zrun_eq _ _ _).trans ((zun_eq zK_X3_liesInParent [] 19 _ _).trans rfl)
theorem e_X3_allowsMark (i0 : Nat) (x1 : Int32) (x2 : Int32) (x3 : Int32) (σ : zSt) : zrun zP 63 [zR 13 i0, zI x1, zI x2, zI x3] σ = (
  if x1 < 0 ∨ 6 ≤ Int32.toNatClampNeg x1 then
  (none)
  else
  (if (σ.1 12 (6 * i0 + Int32.toNatClampNeg x1) 1) = 0 then
    (zcI (zrun zP 37 [zR 12 (6 * i0 + Int32.toNatClampNeg x1), zI x2, zI x3] σ) (fun r1 s1 =>
      if r1 = 0 then
        (if (s1.1 12 (6 * i0 + Int32.toNatClampNeg x1) 1) = 0 then
          (some (.inl (some (zI 1)), s1))
          else
          (zcI (zrun zP 62 [zR 13 i0, zR 12 (6 * i0 + Int32.toNatClampNeg x1), zI x2, zI x3] s1) (fun r2 s2 =>
            if r2 = 0 then
              (some (.inl (some (zI 0)), s2))
              else
              (some (.inl (some (zI 1)), s2)))))
        else
        (some (.inl (some (zI 0)), s1))))
    else
    (if (σ.1 12 (6 * i0 + Int32.toNatClampNeg x1) 1) = 2 then
      (zcI (zrun zP 37 [zR 12 (6 * i0 + Int32.toNatClampNeg x1), zI x2, zI x3] σ) (fun r3 s3 =>
        if r3 = 0 then
          (if (s3.1 12 (6 * i0 + Int32.toNatClampNeg x1) 1) = 0 then
            (some (.inl (some (zI 1)), s3))
            else
            (zcI (zrun zP 62 [zR 13 i0, zR 12 (6 * i0 + Int32.toNatClampNeg x1), zI x2, zI x3] s3) (fun r4 s4 =>
              if r4 = 0 then
                (some (.inl (some (zI 0)), s4))
                else
                (some (.inl (some (zI 1)), s4)))))
          else
          (some (.inl (some (zI 0)), s3))))
      else
      (some (.inl (some (zI 0)), σ))))) := (zrun_eq _ _ _).trans ((zun_eq zK_X3_allowsMark [] 30 _ _).trans rfl)
theorem e_X3_hasRoomForMark_2 (i0 : Nat) (x1 : Int32) (x2 : Int32) (σ : zSt) : zX zP zK_X3_hasRoomForMark (2, [zR 13 i0, zI x1, zI x2], []) σ = (
  if x2 < (σ.1 13 i0 0) then
  (zcI (zrun zP 58 [zR 13 i0, zI x2, zI x1] σ) (fun r1 s1 =>
    if r1 = 0 then
      (zX zP zK_X3_hasRoomForMark (2, [zR 13 i0, zI x1, zI (x2 + 1)], []) s1)
      else
      (if x2 < 0 ∨ 6 ≤ Int32.toNatClampNeg x2 then
        (none)
        else
        (zcI (zrun zP 26 [zR 12 (6 * i0 + Int32.toNatClampNeg x2)] s1) (fun r2 s2 =>
          if r2 = 0 then
            (zX zP zK_X3_hasRoomForMark (2, [zR 13 i0, zI x1, zI (x2 + 1)], []) s2)
            else
            (some (.inl (some (zI 0)), s2)))))))
  else
  (some (.inl (some (zI 1)), σ))) := (zun_eq zK_X3_hasRoomForMark [2] 18 _ _).trans rfl
theorem e_X3_hasRoomForMark (i0 : Nat) (x1 : Int32) (σ : zSt) : zrun zP 64 [zR 13 i0, zI x1] σ = (
  zX zP zK_X3_hasRoomForMark (2, [zR 13 i0, zI x1, zI x1], []) σ) := (zrun_eq _ _ _).trans ((zun_eq zK_X3_hasRoomForMark [2] 3 _ _).trans rfl)
theorem e_X3_addMark_5 (i0 : Nat) (x1 : Int32) (x2 : Int32) (x3 : Int32) (x4 : Int32) (σ : zSt) : zX zP zK_X3_addMark (5, [zR 13 i0, zI x1, zI x2, zI x3, zI x4], []) σ = (
  if x4 < (σ.1 13 i0 0) then
  (zcI (zrun zP 58 [zR 13 i0, zI x4, zI x1] σ) (fun r1 s1 =>
    if r1 = 0 then
      (zX zP zK_X3_addMark (5, [zR 13 i0, zI x1, zI x2, zI x3, zI (x4 + 1)], []) s1)
      else
      (if x4 < 0 ∨ 6 ≤ Int32.toNatClampNeg x4 then
        (none)
        else
        (zcI (zrun zP 30 [zR 12 (6 * i0 + Int32.toNatClampNeg x4), zI x2, zI x3, zI 0] s1) (fun r2 s2 =>
          zX zP zK_X3_addMark (5, [zR 13 i0, zI x1, zI x2, zI x3, zI (x4 + 1)], []) s2)))))
  else
  (if x1 < 0 ∨ 6 ≤ Int32.toNatClampNeg x1 then
    (none)
    else
    (zcI (zrun zP 30 [zR 12 (6 * i0 + Int32.toNatClampNeg x1), zI x2, zI x3, zI 0] σ) (fun r3 s3 =>
      some (.inl (some (zI r3)), s3))))) := (zun_eq zK_X3_addMark [5] 21 _ _).trans rfl
theorem e_X3_addMark (i0 : Nat) (x1 : Int32) (x2 : Int32) (x3 : Int32) (σ : zSt) : zrun zP 65 [zR 13 i0, zI x1, zI x2, zI x3] σ = (
  zX zP zK_X3_addMark (5, [zR 13 i0, zI x1, zI x2, zI x3, zI (x1 + 1)], []) σ) := (zrun_eq _ _ _).trans ((zun_eq zK_X3_addMark [5] 5 _ _).trans rfl)
theorem e_X3_allowsPoint (i0 : Nat) (x1 : Int32) (x2 : Int32) (σ : zSt) : zrun zP 66 [zR 13 i0, zI x1, zI x2] σ = (
  if x1 < 0 ∨ 6 ≤ Int32.toNatClampNeg x1 then
  (none)
  else
  (if (σ.1 12 (6 * i0 + Int32.toNatClampNeg x1) 1) = 3 then
    (zcI (zrun zP 40 [zR 12 (6 * i0 + Int32.toNatClampNeg x1), zI x2] σ) (fun r1 s1 =>
      if r1 = (-1) then
        (if (s1.1 12 (6 * i0 + Int32.toNatClampNeg x1) 2) = (-1) then
          (some (.inl (some (zI 1)), s1))
          else
          (zcI (zrun zP 62 [zR 13 i0, zR 12 (6 * i0 + Int32.toNatClampNeg x1), zI x2, zI x2] s1) (fun r2 s2 =>
            if r2 = 0 then
              (some (.inl (some (zI 0)), s2))
              else
              (some (.inl (some (zI 1)), s2)))))
        else
        (some (.inl (some (zI 0)), s1))))
    else
    (some (.inl (some (zI 0)), σ)))) := (zrun_eq _ _ _).trans ((zun_eq zK_X3_allowsPoint [] 28 _ _).trans rfl)
theorem e_X3_heirOf (i0 : Nat) (x1 : Int32) (x2 : Int32) (σ : zSt) : zrun zP 67 [zR 13 i0, zI x1, zI x2] σ = (
  if x1 < 0 ∨ 6 ≤ Int32.toNatClampNeg x1 then
  (none)
  else
  (zcI (zrun zP 27 [zR 12 (6 * i0 + Int32.toNatClampNeg x1), zI (x2 - 1)] σ) (fun r1 s1 =>
    if r1 = 0 then
      (zcI (zrun zP 27 [zR 12 (6 * i0 + Int32.toNatClampNeg x1), zI (x2 + 1)] s1) (fun r2 s2 =>
        if r2 = 0 then
          (some (.inl (some (zI (-1))), s2))
          else
          (zcI (zrun zP 60 [zR 13 i0, zI x1, zI x2, zI (x2 + 1)] s2) (fun r3 s3 =>
            if r3 = 0 then
              (some (.inl (some (zI (-1))), s3))
              else
              (some (.inl (some (zI (x2 + 1))), s3))))))
      else
      (zcI (zrun zP 60 [zR 13 i0, zI x1, zI (x2 - 1), zI x2] s1) (fun r4 s4 =>
        if r4 = 0 then
          (zcI (zrun zP 27 [zR 12 (6 * i0 + Int32.toNatClampNeg x1), zI (x2 + 1)] s4) (fun r5 s5 =>
            if r5 = 0 then
              (some (.inl (some (zI (-1))), s5))
              else
              (zcI (zrun zP 60 [zR 13 i0, zI x1, zI x2, zI (x2 + 1)] s5) (fun r6 s6 =>
                if r6 = 0 then
                  (some (.inl (some (zI (-1))), s6))
                  else
                  (some (.inl (some (zI (x2 + 1))), s6))))))
          else
          (some (.inl (some (zI (x2 - 1))), s4))))))) := (zrun_eq _ _ _).trans ((zun_eq zK_X3_heirOf [] 38 _ _).trans rfl)
theorem e_X3_removePiece (i0 : Nat) (x1 : Int32) (x2 : Int32) (x3 : Int32) (σ : zSt) : zrun zP 68 [zR 13 i0, zI x1, zI x2, zI x3] σ = (
  if x1 < 0 ∨ 6 ≤ Int32.toNatClampNeg x1 then
  (none)
  else
  (if x3 < x2 then
    (if x2 < 0 ∨ 40 ≤ Int32.toNatClampNeg x2 then
      (none)
      else
      (if x3 < 0 ∨ 40 ≤ Int32.toNatClampNeg x3 then
        (none)
        else
        (zcV (zrun zP 31 [zR 12 (6 * i0 + Int32.toNatClampNeg x1), zI x2] (zms σ.1 21 (6 * i0 + Int32.toNatClampNeg x1) (Int32.toNatClampNeg x3) (σ.1 21 (6 * i0 + Int32.toNatClampNeg x1) (Int32.toNatClampNeg x2)), σ.2)) (fun s1 =>
          some (.inl none, s1)))))
    else
    (if x2 < 0 ∨ 40 ≤ Int32.toNatClampNeg x2 then
      (none)
      else
      (if x3 < 0 ∨ 40 ≤ Int32.toNatClampNeg x3 then
        (none)
        else
        (zcV (zrun zP 31 [zR 12 (6 * i0 + Int32.toNatClampNeg x1), zI x2] (zms σ.1 20 (6 * i0 + Int32.toNatClampNeg x1) (Int32.toNatClampNeg x3) (σ.1 20 (6 * i0 + Int32.toNatClampNeg x1) (Int32.toNatClampNeg x2)), σ.2)) (fun s2 =>
          some (.inl none, s2))))))) := (zrun_eq _ _ _).trans ((zun_eq zK_X3_removePiece [] 22 _ _).trans rfl)
theorem e_X3_removeWhole_44 (i0 : Nat) (x1 : Int32) (x2 : Int32) (x3 : Int32) (x4 : Int32) (x5 : Int32) (x6 : Int32) (σ : zSt) : zX zP zK_X3_removeWhole (44, [zR 13 i0, zI x1, zI x2, zI x3, zI x4, zI x5, zI x6], []) σ = (
  if x6 < (σ.1 13 i0 0) then
  (zcI (zrun zP 57 [zR 13 i0, zI x6, zI x1] σ) (fun r1 s1 =>
    if r1 = 0 then
      (zX zP zK_X3_removeWhole (44, [zR 13 i0, zI x1, zI x2, zI x3, zI x4, zI x5, zI (x6 + 1)], []) s1)
      else
      (if x6 < 0 ∨ 6 ≤ Int32.toNatClampNeg x6 then
        (none)
        else
        (if (s1.1 12 (6 * i0 + Int32.toNatClampNeg x6) 1) = 3 then
          (if x6 < 0 ∨ 6 ≤ Int32.toNatClampNeg x6 then
            (none)
            else
            (zcI (zrun zP 70 [zR 13 i0, zR 12 (6 * i0 + Int32.toNatClampNeg x6)] s1) (fun r2 s2 =>
              zX zP zK_X3_removeWhole (44, [zR 13 i0, zI x1, zI x2, zI x3, zI x4, zI (x5 + r2), zI (x6 + 1)], []) s2)))
          else
          (if x6 < 0 ∨ 6 ≤ Int32.toNatClampNeg x6 then
            (none)
            else
            (zcI (zrun zP 32 [zR 12 (6 * i0 + Int32.toNatClampNeg x6), zI x3, zI x4] s1) (fun r3 s3 =>
              zX zP zK_X3_removeWhole (44, [zR 13 i0, zI x1, zI x2, zI x3, zI x4, zI (x5 + r3), zI (x6 + 1)], []) s3)))))))
  else
  (some (.inl (some (zI x5)), σ))) := (zun_eq zK_X3_removeWhole [44] 29 _ _).trans rfl
theorem e_X3_removeWhole (i0 : Nat) (x1 : Int32) (x2 : Int32) (σ : zSt) : zrun zP 69 [zR 13 i0, zI x1, zI x2] σ = (
  if x1 < 0 ∨ 6 ≤ Int32.toNatClampNeg x1 then
  (none)
  else
  (if x2 < 0 ∨ 40 ≤ Int32.toNatClampNeg x2 then
    (none)
    else
    (if x1 < 0 ∨ 6 ≤ Int32.toNatClampNeg x1 then
      (none)
      else
      (if x2 < 0 ∨ 40 ≤ Int32.toNatClampNeg x2 then
        (none)
        else
        (if x1 < 0 ∨ 6 ≤ Int32.toNatClampNeg x1 then
          (none)
          else
          (zcI (zrun zP 32 [zR 12 (6 * i0 + Int32.toNatClampNeg x1), zI (σ.1 20 (6 * i0 + Int32.toNatClampNeg x1) (Int32.toNatClampNeg x2)), zI (σ.1 21 (6 * i0 + Int32.toNatClampNeg x1) (Int32.toNatClampNeg x2))] σ) (fun r1 s1 =>
            zX zP zK_X3_removeWhole (44, [zR 13 i0, zI x1, zI x2, zI (σ.1 20 (6 * i0 + Int32.toNatClampNeg x1) (Int32.toNatClampNeg x2)), zI (σ.1 21 (6 * i0 + Int32.toNatClampNeg x1) (Int32.toNatClampNeg x2)), zI r1, zI (x1 + 1)], []) s1))))))) := (zrun_eq _ _ _).trans ((zun_eq zK_X3_removeWhole [44] 29 _ _).trans rfl)
theorem e_X3_removeLostPoints_9 (i0 : Nat) (i1 : Nat) (x2 : Int32) (x3 : Int32) (σ : zSt) : zX zP zK_X3_removeLostPoints (9, [zR 13 i0, zR 12 i1, zI x2, zI x3], []) σ = (
  if x3 < 0 then
  (some (.inl (some (zI x2)), σ))
  else
  (if x3 < 0 ∨ 40 ≤ Int32.toNatClampNeg x3 then
    (none)
    else
    (if x3 < 0 ∨ 40 ≤ Int32.toNatClampNeg x3 then
      (none)
      else
      (zcI (zrun zP 62 [zR 13 i0, zR 12 i1, zI (σ.1 20 i1 (Int32.toNatClampNeg x3)), zI (σ.1 21 i1 (Int32.toNatClampNeg x3))] σ) (fun r1 s1 =>
        if r1 = 0 then
          (zcV (zrun zP 31 [zR 12 i1, zI x3] s1) (fun s2 =>
            zX zP zK_X3_removeLostPoints (9, [zR 13 i0, zR 12 i1, zI (x2 + 1), zI (x3 + (-1))], []) s2))
          else
          (zX zP zK_X3_removeLostPoints (9, [zR 13 i0, zR 12 i1, zI x2, zI (x3 + (-1))], []) s1)))))) := (zun_eq zK_X3_removeLostPoints [9] 21 _ _).trans rfl
theorem e_X3_removeLostPoints (i0 : Nat) (i1 : Nat) (σ : zSt) : zrun zP 70 [zR 13 i0, zR 12 i1] σ = (
  zX zP zK_X3_removeLostPoints (9, [zR 13 i0, zR 12 i1, zI 0, zI ((σ.1 12 i1 5) - 1)], []) σ) := (zrun_eq _ _ _).trans ((zun_eq zK_X3_removeLostPoints [9] 8 _ _).trans rfl)
theorem e_X3_isCutWith (i0 : Nat) (x1 : Int32) (x2 : Int32) (x3 : Int32) (σ : zSt) : zrun zP 71 [zR 13 i0, zI x1, zI x2, zI x3] σ = (
  if x1 = x2 then
  (if x1 < 0 ∨ 6 ≤ Int32.toNatClampNeg x1 then
    (none)
    else
    (zcI (zrun zP 41 [zR 12 (6 * i0 + Int32.toNatClampNeg x1), zI x3] σ) (fun r1 s1 =>
      if r1 = (-1) then
        (some (.inl (some (zI 0)), s1))
        else
        (some (.inl (some (zI 1)), s1)))))
  else
  (if x1 < 0 ∨ 6 ≤ Int32.toNatClampNeg x1 then
    (none)
    else
    (if (σ.1 12 (6 * i0 + Int32.toNatClampNeg x1) 1) = 1 then
      (zcI (zrun zP 57 [zR 13 i0, zI x1, zI x2] σ) (fun r2 s2 =>
        if r2 = 0 then
          (some (.inl (some (zI 0)), s2))
          else
          (if x1 < 0 ∨ 6 ≤ Int32.toNatClampNeg x1 then
            (none)
            else
            (zcI (zrun zP 41 [zR 12 (6 * i0 + Int32.toNatClampNeg x1), zI x3] s2) (fun r3 s3 =>
              if r3 = (-1) then
                (some (.inl (some (zI 0)), s3))
                else
                (some (.inl (some (zI 1)), s3)))))))
      else
      (some (.inl (some (zI 0)), σ))))) := (zrun_eq _ _ _).trans ((zun_eq zK_X3_isCutWith [] 27 _ _).trans rfl)
theorem e_X3_allowsCut_33 (i0 : Nat) (x1 : Int32) (x2 : Int32) (x3 : Int32) (σ : zSt) : zX zP zK_X3_allowsCut (33, [zR 13 i0, zI x1, zI x2, zI x3], []) σ = (
  if x3 < (σ.1 13 i0 0) then
  (if x3 < 0 ∨ 6 ≤ Int32.toNatClampNeg x3 then
    (none)
    else
    (if (σ.1 12 (6 * i0 + Int32.toNatClampNeg x3) 1) = 2 then
      (zcI (zrun zP 57 [zR 13 i0, zI x3, zI x1] σ) (fun r1 s1 =>
        if r1 = 0 then
          (zX zP zK_X3_allowsCut (33, [zR 13 i0, zI x1, zI x2, zI (x3 + 1)], []) s1)
          else
          (if x3 < 0 ∨ 6 ≤ Int32.toNatClampNeg x3 then
            (none)
            else
            (zcI (zrun zP 41 [zR 12 (6 * i0 + Int32.toNatClampNeg x3), zI x2] s1) (fun r2 s2 =>
              if r2 = (-1) then
                (zX zP zK_X3_allowsCut (33, [zR 13 i0, zI x1, zI x2, zI (x3 + 1)], []) s2)
                else
                (some (.inl (some (zI 0)), s2)))))))
      else
      (zX zP zK_X3_allowsCut (33, [zR 13 i0, zI x1, zI x2, zI (x3 + 1)], []) σ)))
  else
  (some (.inl (some (zI 1)), σ))) := (zun_eq zK_X3_allowsCut [33] 27 _ _).trans rfl
theorem e_X3_allowsCut (i0 : Nat) (x1 : Int32) (x2 : Int32) (σ : zSt) : zrun zP 72 [zR 13 i0, zI x1, zI x2] σ = (
  if x1 < 0 ∨ 6 ≤ Int32.toNatClampNeg x1 then
  (none)
  else
  (if (σ.1 12 (6 * i0 + Int32.toNatClampNeg x1) 1) = 3 then
    (some (.inl (some (zI 0)), σ))
    else
    (if x1 < 0 ∨ 6 ≤ Int32.toNatClampNeg x1 then
      (none)
      else
      (zcI (zrun zP 41 [zR 12 (6 * i0 + Int32.toNatClampNeg x1), zI x2] σ) (fun r1 s1 =>
        if r1 = (-1) then
          (some (.inl (some (zI 0)), s1))
          else
          (zX zP zK_X3_allowsCut (33, [zR 13 i0, zI x1, zI x2, zI (x1 + 1)], []) s1)))))) := (zrun_eq _ _ _).trans ((zun_eq zK_X3_allowsCut [33] 20 _ _).trans rfl)
theorem e_X3_hasRoomForCut_2 (i0 : Nat) (x1 : Int32) (x2 : Int32) (x3 : Int32) (σ : zSt) : zX zP zK_X3_hasRoomForCut (2, [zR 13 i0, zI x1, zI x2, zI x3], []) σ = (
  if x3 < (σ.1 13 i0 0) then
  (zcI (zrun zP 71 [zR 13 i0, zI x3, zI x1, zI x2] σ) (fun r1 s1 =>
    if r1 = 0 then
      (zX zP zK_X3_hasRoomForCut (2, [zR 13 i0, zI x1, zI x2, zI (x3 + 1)], []) s1)
      else
      (if x3 < 0 ∨ 6 ≤ Int32.toNatClampNeg x3 then
        (none)
        else
        (zcI (zrun zP 26 [zR 12 (6 * i0 + Int32.toNatClampNeg x3)] s1) (fun r2 s2 =>
          if r2 = 0 then
            (zX zP zK_X3_hasRoomForCut (2, [zR 13 i0, zI x1, zI x2, zI (x3 + 1)], []) s2)
            else
            (some (.inl (some (zI 0)), s2)))))))
  else
  (some (.inl (some (zI 1)), σ))) := (zun_eq zK_X3_hasRoomForCut [2] 19 _ _).trans rfl
theorem e_X3_hasRoomForCut (i0 : Nat) (x1 : Int32) (x2 : Int32) (σ : zSt) : zrun zP 73 [zR 13 i0, zI x1, zI x2] σ = (
  zX zP zK_X3_hasRoomForCut (2, [zR 13 i0, zI x1, zI x2, zI x1], []) σ) := (zrun_eq _ _ _).trans ((zun_eq zK_X3_hasRoomForCut [2] 3 _ _).trans rfl)
theorem e_X3_cutAt_5 (i0 : Nat) (x1 : Int32) (x2 : Int32) (x3 : Int32) (x4 : Int32) (σ : zSt) : zX zP zK_X3_cutAt (5, [zR 13 i0, zI x1, zI x2, zI x3, zI x4], []) σ = (
  if x4 < (σ.1 13 i0 0) then
  (zcI (zrun zP 71 [zR 13 i0, zI x4, zI x1, zI x2] σ) (fun r1 s1 =>
    if r1 = 0 then
      (zX zP zK_X3_cutAt (5, [zR 13 i0, zI x1, zI x2, zI x3, zI (x4 + 1)], []) s1)
      else
      (if x4 < 0 ∨ 6 ≤ Int32.toNatClampNeg x4 then
        (none)
        else
        (if x4 < 0 ∨ 6 ≤ Int32.toNatClampNeg x4 then
          (none)
          else
          (zcI (zrun zP 41 [zR 12 (6 * i0 + Int32.toNatClampNeg x4), zI x2] s1) (fun r2 s2 =>
            zcV (zrun zP 33 [zR 12 (6 * i0 + Int32.toNatClampNeg x4), zI r2, zI x2] s2) (fun s3 =>
              zX zP zK_X3_cutAt (5, [zR 13 i0, zI x1, zI x2, zI (x3 + 1), zI (x4 + 1)], []) s3)))))))
  else
  (some (.inl (some (zI x3)), σ))) := (zun_eq zK_X3_cutAt [5] 26 _ _).trans rfl
theorem e_X3_cutAt (i0 : Nat) (x1 : Int32) (x2 : Int32) (σ : zSt) : zrun zP 74 [zR 13 i0, zI x1, zI x2] σ = (
  zX zP zK_X3_cutAt (5, [zR 13 i0, zI x1, zI x2, zI 0, zI x1], []) σ) := (zrun_eq _ _ _).trans ((zun_eq zK_X3_cutAt [5] 5 _ _).trans rfl)
theorem e_X3_allowsJoin (i0 : Nat) (x1 : Int32) (x2 : Int32) (σ : zSt) : zrun zP 75 [zR 13 i0, zI x1, zI x2] σ = (
  if x1 < 0 ∨ 6 ≤ Int32.toNatClampNeg x1 then
  (none)
  else
  (if (σ.1 12 (6 * i0 + Int32.toNatClampNeg x1) 1) = 3 then
    (some (.inl (some (zI 0)), σ))
    else
    (zcI (zrun zP 27 [zR 12 (6 * i0 + Int32.toNatClampNeg x1), zI x2] σ) (fun r1 s1 =>
      if r1 = 0 then
        (some (.inl (some (zI 0)), s1))
        else
        (zcI (zrun zP 27 [zR 12 (6 * i0 + Int32.toNatClampNeg x1), zI (x2 + 1)] s1) (fun r2 s2 =>
          if r2 = 0 then
            (some (.inl (some (zI 0)), s2))
            else
            (if x2 < 0 ∨ 40 ≤ Int32.toNatClampNeg x2 then
              (none)
              else
              (if (x2 + 1) < 0 ∨ 40 ≤ Int32.toNatClampNeg (x2 + 1) then
                (none)
                else
                (if (s2.1 21 (6 * i0 + Int32.toNatClampNeg x1) (Int32.toNatClampNeg x2)) = (s2.1 20 (6 * i0 + Int32.toNatClampNeg x1) (Int32.toNatClampNeg (x2 + 1))) then
                  (zcI (zrun zP 60 [zR 13 i0, zI x1, zI x2, zI (x2 + 1)] s2) (fun r3 s3 =>
                    if r3 = 0 then
                      (some (.inl (some (zI 0)), s3))
                      else
                      (some (.inl (some (zI 1)), s3))))
                  else
                  (some (.inl (some (zI 0)), s2))))))))))) := (zrun_eq _ _ _).trans ((zun_eq zK_X3_allowsJoin [] 42 _ _).trans rfl)
theorem e_X3_gapBehind (i0 : Nat) (x1 : Int32) (x2 : Int32) (σ : zSt) : zrun zP 76 [zR 13 i0, zI x1, zI x2] σ = (
  if x1 < 0 ∨ 6 ≤ Int32.toNatClampNeg x1 then
  (none)
  else
  (if (σ.1 12 (6 * i0 + Int32.toNatClampNeg x1) 1) = 3 then
    (some (.inl (some (zI 0)), σ))
    else
    (zcI (zrun zP 27 [zR 12 (6 * i0 + Int32.toNatClampNeg x1), zI x2] σ) (fun r1 s1 =>
      if r1 = 0 then
        (some (.inl (some (zI 0)), s1))
        else
        (zcI (zrun zP 27 [zR 12 (6 * i0 + Int32.toNatClampNeg x1), zI (x2 + 1)] s1) (fun r2 s2 =>
          if r2 = 0 then
            (some (.inl (some (zI 0)), s2))
            else
            (zcI (zrun zP 60 [zR 13 i0, zI x1, zI x2, zI (x2 + 1)] s2) (fun r3 s3 =>
              if r3 = 0 then
                (some (.inl (some (zI 0)), s3))
                else
                (if (x2 + 1) < 0 ∨ 40 ≤ Int32.toNatClampNeg (x2 + 1) then
                  (none)
                  else
                  (if x2 < 0 ∨ 40 ≤ Int32.toNatClampNeg x2 then
                    (none)
                    else
                    (some (.inl (some (zI ((s3.1 20 (6 * i0 + Int32.toNatClampNeg x1) (Int32.toNatClampNeg (x2 + 1))) - (s3.1 21 (6 * i0 + Int32.toNatClampNeg x1) (Int32.toNatClampNeg x2))))), s3)))))))))))) := (zrun_eq _ _ _).trans ((zun_eq zK_X3_gapBehind [] 41 _ _).trans rfl)
theorem e_X3_listStops_6 (i0 : Nat) (x1 : Int32) (i2 : Nat) (x3 : Int32) (σ : zSt) : zX zP zK_X3_listStops (6, [zR 13 i0, zI x1, zR 14 i2, zI x3], []) σ = (
  if x3 < (σ.1 13 i0 0) then
  (if x3 < 0 ∨ 6 ≤ Int32.toNatClampNeg x3 then
    (none)
    else
    (if (σ.1 12 (6 * i0 + Int32.toNatClampNeg x3) 3) = x1 then
      (if x3 < 0 ∨ 6 ≤ Int32.toNatClampNeg x3 then
        (none)
        else
        (zcV (zrun zP 44 [zR 12 (6 * i0 + Int32.toNatClampNeg x3), zR 14 i2] σ) (fun s1 =>
          zX zP zK_X3_listStops (6, [zR 13 i0, zI x1, zR 14 i2, zI (x3 + 1)], []) s1)))
      else
      (zX zP zK_X3_listStops (6, [zR 13 i0, zI x1, zR 14 i2, zI (x3 + 1)], []) σ)))
  else
  (some (.inl none, σ))) := (zun_eq zK_X3_listStops [6] 20 _ _).trans rfl
theorem e_X3_listStops (i0 : Nat) (x1 : Int32) (i2 : Nat) (σ : zSt) : zrun zP 77 [zR 13 i0, zI x1, zR 14 i2] σ = (
  zcV (zrun zP 86 [zR 14 i2] σ) (fun s1 =>
  zX zP zK_X3_listStops (6, [zR 13 i0, zI x1, zR 14 i2, zI 0], []) s1)) := (zrun_eq _ _ _).trans ((zun_eq zK_X3_listStops [6] 5 _ _).trans rfl)
theorem e_X3_countEnds_5 (i0 : Nat) (x1 : Int32) (x2 : Int32) (x3 : Int32) (x4 : Int32) (σ : zSt) : zX zP zK_X3_countEnds (5, [zR 13 i0, zI x1, zI x2, zI x3, zI x4], []) σ = (
  if x4 < (σ.1 13 i0 0) then
  (if x4 < 0 ∨ 6 ≤ Int32.toNatClampNeg x4 then
    (none)
    else
    (if (σ.1 12 (6 * i0 + Int32.toNatClampNeg x4) 3) = x1 then
      (if x4 < 0 ∨ 6 ≤ Int32.toNatClampNeg x4 then
        (none)
        else
        (zcI (zrun zP 46 [zR 12 (6 * i0 + Int32.toNatClampNeg x4), zI x2] σ) (fun r1 s1 =>
          zX zP zK_X3_countEnds (5, [zR 13 i0, zI x1, zI x2, zI (x3 + r1), zI (x4 + 1)], []) s1)))
      else
      (zX zP zK_X3_countEnds (5, [zR 13 i0, zI x1, zI x2, zI x3, zI (x4 + 1)], []) σ)))
  else
  (some (.inl (some (zI x3)), σ))) := (zun_eq zK_X3_countEnds [5] 23 _ _).trans rfl
theorem e_X3_countEnds (i0 : Nat) (x1 : Int32) (x2 : Int32) (σ : zSt) : zrun zP 78 [zR 13 i0, zI x1, zI x2] σ = (
  zX zP zK_X3_countEnds (5, [zR 13 i0, zI x1, zI x2, zI 0, zI 0], []) σ) := (zrun_eq _ _ _).trans ((zun_eq zK_X3_countEnds [5] 5 _ _).trans rfl)
theorem e_X3_leastFor_5 (i0 : Nat) (x1 : Int32) (x2 : Int32) (x3 : Int32) (x4 : Int32) (v5 : zAV) (σ : zSt) : zX zP zK_X3_leastFor (5, [zR 13 i0, zI x1, zI x2, zI x3, zI x4, v5], []) σ = (
  if x4 < (σ.1 13 i0 0) then
  (zX zP zK_X3_leastFor (17, [zR 13 i0, zI x1, zI x2, zI x3, zI x4, zI 0], []) σ)
  else
  (some (.inl (some (zI x3)), σ))) := (zun_eq zK_X3_leastFor [5, 17] 7 _ _).trans rfl
theorem e_X3_leastFor_17 (i0 : Nat) (x1 : Int32) (x2 : Int32) (x3 : Int32) (x4 : Int32) (x5 : Int32) (σ : zSt) : zX zP zK_X3_leastFor (17, [zR 13 i0, zI x1, zI x2, zI x3, zI x4, zI x5], []) σ = (
  if x4 < 0 ∨ 6 ≤ Int32.toNatClampNeg x4 then
  (none)
  else
  (if (σ.1 12 (6 * i0 + Int32.toNatClampNeg x4) 3) = x1 then
    (if x4 < 0 ∨ 6 ≤ Int32.toNatClampNeg x4 then
      (none)
      else
      (if x5 < (σ.1 12 (6 * i0 + Int32.toNatClampNeg x4) 5) then
        (if x4 < 0 ∨ 6 ≤ Int32.toNatClampNeg x4 then
          (none)
          else
          (if x5 < 0 ∨ 40 ≤ Int32.toNatClampNeg x5 then
            (none)
            else
            (if (σ.1 20 (6 * i0 + Int32.toNatClampNeg x4) (Int32.toNatClampNeg x5)) < x2 then
              (if x4 < 0 ∨ 6 ≤ Int32.toNatClampNeg x4 then
                (none)
                else
                (if x5 < 0 ∨ 40 ≤ Int32.toNatClampNeg x5 then
                  (none)
                  else
                  (if x4 < 0 ∨ 6 ≤ Int32.toNatClampNeg x4 then
                    (none)
                    else
                    (if x5 < 0 ∨ 40 ≤ Int32.toNatClampNeg x5 then
                      (none)
                      else
                      (if (σ.1 21 (6 * i0 + Int32.toNatClampNeg x4) (Int32.toNatClampNeg x5)) < x2 then
                        (if x4 < 0 ∨ 6 ≤ Int32.toNatClampNeg x4 then
                          (none)
                          else
                          (if x5 < 0 ∨ 40 ≤ Int32.toNatClampNeg x5 then
                            (none)
                            else
                            (zX zP zK_X3_leastFor (17, [zR 13 i0, zI x1, zI x2, zI (if (if x3 < ((σ.1 20 (6 * i0 + Int32.toNatClampNeg x4) (Int32.toNatClampNeg x5)) + 1) then ((σ.1 20 (6 * i0 + Int32.toNatClampNeg x4) (Int32.toNatClampNeg x5)) + 1) else x3) < ((σ.1 21 (6 * i0 + Int32.toNatClampNeg x4) (Int32.toNatClampNeg x5)) + 1) then ((σ.1 21 (6 * i0 + Int32.toNatClampNeg x4) (Int32.toNatClampNeg x5)) + 1) else (if x3 < ((σ.1 20 (6 * i0 + Int32.toNatClampNeg x4) (Int32.toNatClampNeg x5)) + 1) then ((σ.1 20 (6 * i0 + Int32.toNatClampNeg x4) (Int32.toNatClampNeg x5)) + 1) else x3)), zI x4, zI (x5 + 1)], []) σ)))
                        else
                        (zX zP zK_X3_leastFor (17, [zR 13 i0, zI x1, zI x2, zI (if x3 < ((σ.1 20 (6 * i0 + Int32.toNatClampNeg x4) (Int32.toNatClampNeg x5)) + 1) then ((σ.1 20 (6 * i0 + Int32.toNatClampNeg x4) (Int32.toNatClampNeg x5)) + 1) else x3), zI x4, zI (x5 + 1)], []) σ))))))
              else
              (if x4 < 0 ∨ 6 ≤ Int32.toNatClampNeg x4 then
                (none)
                else
                (if x5 < 0 ∨ 40 ≤ Int32.toNatClampNeg x5 then
                  (none)
                  else
                  (if (σ.1 21 (6 * i0 + Int32.toNatClampNeg x4) (Int32.toNatClampNeg x5)) < x2 then
                    (if x4 < 0 ∨ 6 ≤ Int32.toNatClampNeg x4 then
                      (none)
                      else
                      (if x5 < 0 ∨ 40 ≤ Int32.toNatClampNeg x5 then
                        (none)
                        else
                        (zX zP zK_X3_leastFor (17, [zR 13 i0, zI x1, zI x2, zI (if x3 < ((σ.1 21 (6 * i0 + Int32.toNatClampNeg x4) (Int32.toNatClampNeg x5)) + 1) then ((σ.1 21 (6 * i0 + Int32.toNatClampNeg x4) (Int32.toNatClampNeg x5)) + 1) else x3), zI x4, zI (x5 + 1)], []) σ)))
                    else
                    (zX zP zK_X3_leastFor (17, [zR 13 i0, zI x1, zI x2, zI x3, zI x4, zI (x5 + 1)], []) σ)))))))
        else
        (zX zP zK_X3_leastFor (5, [zR 13 i0, zI x1, zI x2, zI x3, zI (x4 + 1), zI x5], []) σ)))
    else
    (zX zP zK_X3_leastFor (5, [zR 13 i0, zI x1, zI x2, zI x3, zI (x4 + 1), zI x5], []) σ))) := (zun_eq zK_X3_leastFor [5, 17] 59 _ _).trans rfl
theorem e_X3_leastFor (i0 : Nat) (x1 : Int32) (x2 : Int32) (σ : zSt) : zrun zP 79 [zR 13 i0, zI x1, zI x2] σ = (
  zX zP zK_X3_leastFor (5, [zR 13 i0, zI x1, zI x2, zI 0, zI 0, zJunk], []) σ) := (zrun_eq _ _ _).trans ((zun_eq zK_X3_leastFor [5, 17] 5 _ _).trans rfl)
theorem e_X3_greatestFor_7 (i0 : Nat) (x1 : Int32) (x2 : Int32) (x3 : Int32) (x4 : Int32) (v5 : zAV) (σ : zSt) : zX zP zK_X3_greatestFor (7, [zR 13 i0, zI x1, zI x2, zI x3, zI x4, v5], []) σ = (
  if x4 < (σ.1 13 i0 0) then
  (zX zP zK_X3_greatestFor (19, [zR 13 i0, zI x1, zI x2, zI x3, zI x4, zI 0], []) σ)
  else
  (some (.inl (some (zI x3)), σ))) := (zun_eq zK_X3_greatestFor [7, 19] 7 _ _).trans rfl
theorem e_X3_greatestFor_19 (i0 : Nat) (x1 : Int32) (x2 : Int32) (x3 : Int32) (x4 : Int32) (x5 : Int32) (σ : zSt) : zX zP zK_X3_greatestFor (19, [zR 13 i0, zI x1, zI x2, zI x3, zI x4, zI x5], []) σ = (
  if x4 < 0 ∨ 6 ≤ Int32.toNatClampNeg x4 then
  (none)
  else
  (if (σ.1 12 (6 * i0 + Int32.toNatClampNeg x4) 3) = x1 then
    (if x4 < 0 ∨ 6 ≤ Int32.toNatClampNeg x4 then
      (none)
      else
      (if x5 < (σ.1 12 (6 * i0 + Int32.toNatClampNeg x4) 5) then
        (if x4 < 0 ∨ 6 ≤ Int32.toNatClampNeg x4 then
          (none)
          else
          (if x5 < 0 ∨ 40 ≤ Int32.toNatClampNeg x5 then
            (none)
            else
            (if x2 < (σ.1 20 (6 * i0 + Int32.toNatClampNeg x4) (Int32.toNatClampNeg x5)) then
              (if x4 < 0 ∨ 6 ≤ Int32.toNatClampNeg x4 then
                (none)
                else
                (if x5 < 0 ∨ 40 ≤ Int32.toNatClampNeg x5 then
                  (none)
                  else
                  (if x4 < 0 ∨ 6 ≤ Int32.toNatClampNeg x4 then
                    (none)
                    else
                    (if x5 < 0 ∨ 40 ≤ Int32.toNatClampNeg x5 then
                      (none)
                      else
                      (if x2 < (σ.1 21 (6 * i0 + Int32.toNatClampNeg x4) (Int32.toNatClampNeg x5)) then
                        (if x4 < 0 ∨ 6 ≤ Int32.toNatClampNeg x4 then
                          (none)
                          else
                          (if x5 < 0 ∨ 40 ≤ Int32.toNatClampNeg x5 then
                            (none)
                            else
                            (zX zP zK_X3_greatestFor (19, [zR 13 i0, zI x1, zI x2, zI (if ((σ.1 21 (6 * i0 + Int32.toNatClampNeg x4) (Int32.toNatClampNeg x5)) - 1) < (if ((σ.1 20 (6 * i0 + Int32.toNatClampNeg x4) (Int32.toNatClampNeg x5)) - 1) < x3 then ((σ.1 20 (6 * i0 + Int32.toNatClampNeg x4) (Int32.toNatClampNeg x5)) - 1) else x3) then ((σ.1 21 (6 * i0 + Int32.toNatClampNeg x4) (Int32.toNatClampNeg x5)) - 1) else (if ((σ.1 20 (6 * i0 + Int32.toNatClampNeg x4) (Int32.toNatClampNeg x5)) - 1) < x3 then ((σ.1 20 (6 * i0 + Int32.toNatClampNeg x4) (Int32.toNatClampNeg x5)) - 1) else x3)), zI x4, zI (x5 + 1)], []) σ)))
                        else
                        (zX zP zK_X3_greatestFor (19, [zR 13 i0, zI x1, zI x2, zI (if ((σ.1 20 (6 * i0 + Int32.toNatClampNeg x4) (Int32.toNatClampNeg x5)) - 1) < x3 then ((σ.1 20 (6 * i0 + Int32.toNatClampNeg x4) (Int32.toNatClampNeg x5)) - 1) else x3), zI x4, zI (x5 + 1)], []) σ))))))
              else
              (if x4 < 0 ∨ 6 ≤ Int32.toNatClampNeg x4 then
                (none)
                else
                (if x5 < 0 ∨ 40 ≤ Int32.toNatClampNeg x5 then
                  (none)
                  else
                  (if x2 < (σ.1 21 (6 * i0 + Int32.toNatClampNeg x4) (Int32.toNatClampNeg x5)) then
                    (if x4 < 0 ∨ 6 ≤ Int32.toNatClampNeg x4 then
                      (none)
                      else
                      (if x5 < 0 ∨ 40 ≤ Int32.toNatClampNeg x5 then
                        (none)
                        else
                        (zX zP zK_X3_greatestFor (19, [zR 13 i0, zI x1, zI x2, zI (if ((σ.1 21 (6 * i0 + Int32.toNatClampNeg x4) (Int32.toNatClampNeg x5)) - 1) < x3 then ((σ.1 21 (6 * i0 + Int32.toNatClampNeg x4) (Int32.toNatClampNeg x5)) - 1) else x3), zI x4, zI (x5 + 1)], []) σ)))
                    else
                    (zX zP zK_X3_greatestFor (19, [zR 13 i0, zI x1, zI x2, zI x3, zI x4, zI (x5 + 1)], []) σ)))))))
        else
        (zX zP zK_X3_greatestFor (7, [zR 13 i0, zI x1, zI x2, zI x3, zI (x4 + 1), zI x5], []) σ)))
    else
    (zX zP zK_X3_greatestFor (7, [zR 13 i0, zI x1, zI x2, zI x3, zI (x4 + 1), zI x5], []) σ))) := (zun_eq zK_X3_greatestFor [7, 19] 59 _ _).trans rfl
theorem e_X3_greatestFor (i0 : Nat) (x1 : Int32) (x2 : Int32) (σ : zSt) : zrun zP 80 [zR 13 i0, zI x1, zI x2] σ = (
  zX zP zK_X3_greatestFor (7, [zR 13 i0, zI x1, zI x2, zI 999, zI 0, zJunk], []) σ) := (zrun_eq _ _ _).trans ((zun_eq zK_X3_greatestFor [7, 19] 5 _ _).trans rfl)
theorem e_X3_allowsShift (i0 : Nat) (x1 : Int32) (x2 : Int32) (x3 : Int32) (σ : zSt) : zrun zP 81 [zR 13 i0, zI x1, zI x2, zI x3] σ = (
  zcI (zrun zP 79 [zR 13 i0, zI x1, zI x2] σ) (fun r1 s1 =>
  if x3 < r1 then
    (some (.inl (some (zI 0)), s1))
    else
    (zcI (zrun zP 80 [zR 13 i0, zI x1, zI x2] s1) (fun r2 s2 =>
      if r2 < x3 then
        (some (.inl (some (zI 0)), s2))
        else
        (some (.inl (some (zI 1)), s2)))))) := (zrun_eq _ _ _).trans ((zun_eq zK_X3_allowsShift [] 16 _ _).trans rfl)
theorem e_X3_shiftStop_11 (i0 : Nat) (x1 : Int32) (x2 : Int32) (x3 : Int32) (x4 : Int32) (x5 : Int32) (σ : zSt) : zX zP zK_X3_shiftStop (11, [zR 13 i0, zI x1, zI x2, zI x3, zI x4, zI x5], []) σ = (
  if x5 < (σ.1 13 i0 0) then
  (if x5 < 0 ∨ 6 ≤ Int32.toNatClampNeg x5 then
    (none)
    else
    (if (σ.1 12 (6 * i0 + Int32.toNatClampNeg x5) 3) = x1 then
      (if x5 < 0 ∨ 6 ≤ Int32.toNatClampNeg x5 then
        (none)
        else
        (zcV (zrun zP 47 [zR 12 (6 * i0 + Int32.toNatClampNeg x5), zI x2, zI x3] σ) (fun s1 =>
          zX zP zK_X3_shiftStop (11, [zR 13 i0, zI x1, zI x2, zI x3, zI x4, zI (x5 + 1)], []) s1)))
      else
      (zX zP zK_X3_shiftStop (11, [zR 13 i0, zI x1, zI x2, zI x3, zI x4, zI (x5 + 1)], []) σ)))
  else
  (some (.inl (some (zI x4)), σ))) := (zun_eq zK_X3_shiftStop [11] 21 _ _).trans rfl
theorem e_X3_shiftStop (i0 : Nat) (x1 : Int32) (x2 : Int32) (x3 : Int32) (σ : zSt) : zrun zP 82 [zR 13 i0, zI x1, zI x2, zI x3] σ = (
  zcI (zrun zP 78 [zR 13 i0, zI x1, zI x2] σ) (fun r1 s1 =>
  zX zP zK_X3_shiftStop (11, [zR 13 i0, zI x1, zI x2, zI x3, zI r1, zI 0], []) s1)) := (zrun_eq _ _ _).trans ((zun_eq zK_X3_shiftStop [11] 8 _ _).trans rfl)
theorem e_X3_allowsSilence_2 (i0 : Nat) (x1 : Int32) (x2 : Int32) (x3 : Int32) (v4 : zAV) (v5 : zAV) (σ : zSt) : zX zP zK_X3_allowsSilence (2, [zR 13 i0, zI x1, zI x2, zI x3, v4, v5], []) σ = (
  if x3 < (σ.1 13 i0 0) then
  (if x3 < 0 ∨ 6 ≤ Int32.toNatClampNeg x3 then
    (none)
    else
    (if (σ.1 12 (6 * i0 + Int32.toNatClampNeg x3) 5) = 0 then
      (if x1 < 0 then
        (if (999 : Int32) < (0 + x2) then
          (some (.inl (some (zI 0)), σ))
          else
          (zX zP zK_X3_allowsSilence (2, [zR 13 i0, zI x1, zI x2, zI (x3 + 1), zI (σ.1 12 (6 * i0 + Int32.toNatClampNeg x3) 5), zI 0], []) σ))
        else
        (zX zP zK_X3_allowsSilence (2, [zR 13 i0, zI x1, zI x2, zI (x3 + 1), zI (σ.1 12 (6 * i0 + Int32.toNatClampNeg x3) 5), zI 0], []) σ))
      else
      (if x3 < 0 ∨ 6 ≤ Int32.toNatClampNeg x3 then
        (none)
        else
        (if ((σ.1 12 (6 * i0 + Int32.toNatClampNeg x3) 5) - 1) < 0 ∨ 40 ≤ Int32.toNatClampNeg ((σ.1 12 (6 * i0 + Int32.toNatClampNeg x3) 5) - 1) then
          (none)
          else
          (if x1 < (σ.1 21 (6 * i0 + Int32.toNatClampNeg x3) (Int32.toNatClampNeg ((σ.1 12 (6 * i0 + Int32.toNatClampNeg x3) 5) - 1))) then
            (if (999 : Int32) < ((σ.1 21 (6 * i0 + Int32.toNatClampNeg x3) (Int32.toNatClampNeg ((σ.1 12 (6 * i0 + Int32.toNatClampNeg x3) 5) - 1))) + x2) then
              (some (.inl (some (zI 0)), σ))
              else
              (zX zP zK_X3_allowsSilence (2, [zR 13 i0, zI x1, zI x2, zI (x3 + 1), zI (σ.1 12 (6 * i0 + Int32.toNatClampNeg x3) 5), zI (σ.1 21 (6 * i0 + Int32.toNatClampNeg x3) (Int32.toNatClampNeg ((σ.1 12 (6 * i0 + Int32.toNatClampNeg x3) 5) - 1)))], []) σ))
            else
            (zX zP zK_X3_allowsSilence (2, [zR 13 i0, zI x1, zI x2, zI (x3 + 1), zI (σ.1 12 (6 * i0 + Int32.toNatClampNeg x3) 5), zI (σ.1 21 (6 * i0 + Int32.toNatClampNeg x3) (Int32.toNatClampNeg ((σ.1 12 (6 * i0 + Int32.toNatClampNeg x3) 5) - 1)))], []) σ))))))
  else
  (some (.inl (some (zI 1)), σ))) := (zun_eq zK_X3_allowsSilence [2] 33 _ _).trans rfl
theorem e_X3_allowsSilence (i0 : Nat) (x1 : Int32) (x2 : Int32) (σ : zSt) : zrun zP 83 [zR 13 i0, zI x1, zI x2] σ = (
  zX zP zK_X3_allowsSilence (2, [zR 13 i0, zI x1, zI x2, zI 0, zJunk, zJunk], []) σ) := (zrun_eq _ _ _).trans ((zun_eq zK_X3_allowsSilence [2] 3 _ _).trans rfl)
theorem e_X3_countStopsBehind_5 (i0 : Nat) (x1 : Int32) (i2 : Nat) (x3 : Int32) (x4 : Int32) (σ : zSt) : zX zP zK_X3_countStopsBehind (5, [zR 13 i0, zI x1, zR 14 i2, zI x3, zI x4], []) σ = (
  if x4 < (σ.1 13 i0 0) then
  (if x4 < 0 ∨ 6 ≤ Int32.toNatClampNeg x4 then
    (none)
    else
    (if (σ.1 12 (6 * i0 + Int32.toNatClampNeg x4) 2) = (-1) then
      (zcV (zrun zP 77 [zR 13 i0, zI x4, zR 14 i2] σ) (fun s1 =>
        zcI (zrun zP 87 [zR 14 i2, zI (x1 + 1)] s1) (fun r2 s2 =>
          zX zP zK_X3_countStopsBehind (5, [zR 13 i0, zI x1, zR 14 i2, zI (x3 + ((s1.1 14 i2 1) - r2)), zI (x4 + 1)], []) s2)))
      else
      (zX zP zK_X3_countStopsBehind (5, [zR 13 i0, zI x1, zR 14 i2, zI x3, zI (x4 + 1)], []) σ)))
  else
  (some (.inl (some (zI x3)), σ))) := (zun_eq zK_X3_countStopsBehind [5] 29 _ _).trans rfl
theorem e_X3_countStopsBehind (i0 : Nat) (x1 : Int32) (i2 : Nat) (σ : zSt) : zrun zP 84 [zR 13 i0, zI x1, zR 14 i2] σ = (
  zX zP zK_X3_countStopsBehind (5, [zR 13 i0, zI x1, zR 14 i2, zI 0, zI 0], []) σ) := (zrun_eq _ _ _).trans ((zun_eq zK_X3_countStopsBehind [5] 5 _ _).trans rfl)
theorem e_X3_insertSilence_2 (i0 : Nat) (x1 : Int32) (x2 : Int32) (x3 : Int32) (σ : zSt) : zX zP zK_X3_insertSilence (2, [zR 13 i0, zI x1, zI x2, zI x3], []) σ = (
  if x3 < (σ.1 13 i0 0) then
  (if x3 < 0 ∨ 6 ≤ Int32.toNatClampNeg x3 then
    (none)
    else
    (zcV (zrun zP 48 [zR 12 (6 * i0 + Int32.toNatClampNeg x3), zI x1, zI x2] σ) (fun s1 =>
      zX zP zK_X3_insertSilence (2, [zR 13 i0, zI x1, zI x2, zI (x3 + 1)], []) s1)))
  else
  (some (.inl none, σ))) := (zun_eq zK_X3_insertSilence [2] 14 _ _).trans rfl
theorem e_X3_insertSilence (i0 : Nat) (x1 : Int32) (x2 : Int32) (σ : zSt) : zrun zP 85 [zR 13 i0, zI x1, zI x2] σ = (
  zX zP zK_X3_insertSilence (2, [zR 13 i0, zI x1, zI x2, zI 0], []) σ) := (zrun_eq _ _ _).trans ((zun_eq zK_X3_insertSilence [2] 3 _ _).trans rfl)
theorem e_X4_clear (i0 : Nat) (σ : zSt) : zrun zP 86 [zR 14 i0] σ = (
  some (.inl none, (zms σ.1 14 i0 1 0, σ.2))) := (zrun_eq _ _ _).trans ((zun_eq zK_X4_clear [] 5 _ _).trans rfl)
theorem e_X4_placeOf_10 (i0 : Nat) (x1 : Int32) (x2 : Int32) (x3 : Int32) (x4 : Int32) (v5 : zAV) (σ : zSt) : zX zP zK_X4_placeOf (10, [zR 14 i0, zI x1, zI x2, zI x3, zI x4, v5], []) σ = (
  if x4 < 480 then
  (if x2 < x3 then
    (if (2 : Int32) = 0 then
      (none)
      else
      (if ((x2 + x3) / 2) < 0 ∨ zlenI 23 i0 ≤ Int32.toNatClampNeg ((x2 + x3) / 2) then
        (none)
        else
        (if (σ.1 23 i0 (Int32.toNatClampNeg ((x2 + x3) / 2))) < x1 then
          (zX zP zK_X4_placeOf (10, [zR 14 i0, zI x1, zI (((x2 + x3) / 2) + 1), zI x3, zI (x4 + 1), zI ((x2 + x3) / 2)], []) σ)
          else
          (zX zP zK_X4_placeOf (10, [zR 14 i0, zI x1, zI x2, zI ((x2 + x3) / 2), zI (x4 + 1), zI ((x2 + x3) / 2)], []) σ))))
    else
    (some (.inl (some (zI x2)), σ)))
  else
  (some (.inl (some (zI x2)), σ))) := (zun_eq zK_X4_placeOf [10] 26 _ _).trans rfl
theorem e_X4_placeOf (i0 : Nat) (x1 : Int32) (σ : zSt) : zrun zP 87 [zR 14 i0, zI x1] σ = (
  zX zP zK_X4_placeOf (10, [zR 14 i0, zI x1, zI 0, zI (σ.1 14 i0 1), zI 0, zJunk], []) σ) := (zrun_eq _ _ _).trans ((zun_eq zK_X4_placeOf [10] 8 _ _).trans rfl)
theorem e_X4_has (i0 : Nat) (x1 : Int32) (σ : zSt) : zrun zP 88 [zR 14 i0, zI x1] σ = (
  zcI (zrun zP 87 [zR 14 i0, zI x1] σ) (fun r1 s1 =>
  if r1 < (s1.1 14 i0 1) then
    (if r1 < 0 ∨ zlenI 23 i0 ≤ Int32.toNatClampNeg r1 then
      (none)
      else
      (if (s1.1 23 i0 (Int32.toNatClampNeg r1)) = x1 then
        (some (.inl (some (zI 1)), s1))
        else
        (some (.inl (some (zI 0)), s1))))
    else
    (some (.inl (some (zI 0)), s1)))) := (zrun_eq _ _ _).trans ((zun_eq zK_X4_has [] 18 _ _).trans rfl)
theorem e_X4_add_42 (i0 : Nat) (x1 : Int32) (x2 : Int32) (x3 : Int32) (σ : zSt) : zX zP zK_X4_add (42, [zR 14 i0, zI x1, zI x2, zI x3], []) σ = (
  if x2 < x3 then
  (if (x3 - 1) < 0 ∨ zlenI 23 i0 ≤ Int32.toNatClampNeg (x3 - 1) then
    (none)
    else
    (if x3 < 0 ∨ zlenI 23 i0 ≤ Int32.toNatClampNeg x3 then
      (none)
      else
      (zX zP zK_X4_add (42, [zR 14 i0, zI x1, zI x2, zI (x3 + (-1))], []) (zms σ.1 23 i0 (Int32.toNatClampNeg x3) (σ.1 23 i0 (Int32.toNatClampNeg (x3 - 1))), σ.2))))
  else
  (if x2 < 0 ∨ zlenI 23 i0 ≤ Int32.toNatClampNeg x2 then
    (none)
    else
    (some (.inl none, (zms (zms σ.1 23 i0 (Int32.toNatClampNeg x2) x1) 14 i0 1 ((σ.1 14 i0 1) + 1), σ.2))))) := (zun_eq zK_X4_add [42] 16 _ _).trans rfl
theorem e_X4_add (i0 : Nat) (x1 : Int32) (σ : zSt) : zrun zP 89 [zR 14 i0, zI x1] σ = (
  zcI (zrun zP 87 [zR 14 i0, zI x1] σ) (fun r1 s1 =>
  if zlenI 23 i0 = 0 then
    (none)
    else
    (if (s1.1 14 i0 1) < (Int32.ofNat (zlenI 23 i0)) then
      (if r1 < (s1.1 14 i0 1) then
        (if r1 < 0 ∨ zlenI 23 i0 ≤ Int32.toNatClampNeg r1 then
          (none)
          else
          (if (s1.1 23 i0 (Int32.toNatClampNeg r1)) = x1 then
            (some (.inl none, s1))
            else
            (zX zP zK_X4_add (42, [zR 14 i0, zI x1, zI r1, zI (s1.1 14 i0 1)], []) s1)))
        else
        (zX zP zK_X4_add (42, [zR 14 i0, zI x1, zI r1, zI (s1.1 14 i0 1)], []) s1))
      else
      (some (.inl none, s1))))) := (zrun_eq _ _ _).trans ((zun_eq zK_X4_add [42] 24 _ _).trans rfl)
theorem e_X4_nearest (i0 : Nat) (x1 : Int32) (σ : zSt) : zrun zP 90 [zR 14 i0, zI x1] σ = (
  if (σ.1 14 i0 1) = 0 then
  (some (.inl (some (zI (-1))), σ))
  else
  (zcI (zrun zP 87 [zR 14 i0, zI x1] σ) (fun r1 s1 =>
    if r1 = 0 then
      (if (0 : Int32) < 0 ∨ zlenI 23 i0 ≤ Int32.toNatClampNeg 0 then
        (none)
        else
        (some (.inl (some (zI (s1.1 23 i0 (Int32.toNatClampNeg 0)))), s1)))
      else
      (if (r1 - 1) < 0 ∨ zlenI 23 i0 ≤ Int32.toNatClampNeg (r1 - 1) then
        (none)
        else
        (if r1 = (s1.1 14 i0 1) then
          (some (.inl (some (zI (s1.1 23 i0 (Int32.toNatClampNeg (r1 - 1))))), s1))
          else
          (if r1 < 0 ∨ zlenI 23 i0 ≤ Int32.toNatClampNeg r1 then
            (none)
            else
            (if ((s1.1 23 i0 (Int32.toNatClampNeg r1)) - x1) < (x1 - (s1.1 23 i0 (Int32.toNatClampNeg (r1 - 1)))) then
              (if r1 < 0 ∨ zlenI 23 i0 ≤ Int32.toNatClampNeg r1 then
                (none)
                else
                (some (.inl (some (zI (s1.1 23 i0 (Int32.toNatClampNeg r1)))), s1)))
              else
              (some (.inl (some (zI (s1.1 23 i0 (Int32.toNatClampNeg (r1 - 1))))), s1))))))))) := (zrun_eq _ _ _).trans ((zun_eq zK_X4_nearest [] 36 _ _).trans rfl)
end
section
theorem e_X6_thrown (i0 : Nat) (σ : zSt) : zrun zP 135 [zR 16 i0] σ = (
  some (.inl (some (zI (σ.1 16 i0 0))), σ)) := (zrun_eq _ _ _).trans ((zun_eq zK_X6_thrown [] 4 _ _).trans rfl)
theorem e_X6_isFine (i0 : Nat) (x1 : Int32) (x2 : Int32) (x3 : Int32) (σ : zSt) : zrun zP 136 [zR 16 i0, zI x1, zI x2, zI x3] σ = (
  if x1 = 0 then
  (if (σ.1 16 i0 0) = 0 then
    (if x3 < 0 ∨ 3 ≤ Int32.toNatClampNeg x3 then
      (none)
      else
      (if x3 < 0 ∨ 3 ≤ Int32.toNatClampNeg x3 then
        (none)
        else
        (if ((zms σ.1 16 i0 0 x2) 16 i0 0) = 0 then
          (some (.inl (some (zI 1)), (zms (zms σ.1 16 i0 0 x2) 30 0 (Int32.toNatClampNeg x3) ((σ.1 30 0 (Int32.toNatClampNeg x3)) + 1), σ.2)))
          else
          (some (.inl (some (zI 0)), (zms (zms σ.1 16 i0 0 x2) 30 0 (Int32.toNatClampNeg x3) ((σ.1 30 0 (Int32.toNatClampNeg x3)) + 1), σ.2))))))
    else
    (if (σ.1 16 i0 0) = 0 then
      (some (.inl (some (zI 1)), σ))
      else
      (some (.inl (some (zI 0)), σ))))
  else
  (if (σ.1 16 i0 0) = 0 then
    (some (.inl (some (zI 1)), σ))
    else
    (some (.inl (some (zI 0)), σ)))) := (zrun_eq _ _ _).trans ((zun_eq zK_X6_isFine [] 23 _ _).trans rfl)
theorem e_X6_isIn (x0 : Int32) (x1 : Int32) (x2 : Int32) (σ : zSt) : zrun zP 137 [zI x0, zI x1, zI x2] σ = (
  if x0 < x1 then
  (some (.inl (some (zI 0)), σ))
  else
  (if x2 < x0 then
    (some (.inl (some (zI 0)), σ))
    else
    (some (.inl (some (zI 1)), σ)))) := (zrun_eq _ _ _).trans ((zun_eq zK_X6_isIn [] 10 _ _).trans rfl)
theorem e_X6_tiers (i0 : Nat) (σ : zSt) : zrun zP 138 [zR 16 i0] σ = (
  if (0 : Int32) < 0 ∨ 745 ≤ Int32.toNatClampNeg 0 then
  (none)
  else
  (some (.inl (some (zI (σ.1 31 0 (Int32.toNatClampNeg 0)))), σ))) := (zrun_eq _ _ _).trans ((zun_eq zK_X6_tiers [] 6 _ _).trans rfl)
theorem e_X6_pos (x0 : Int32) (x1 : Int32) (σ : zSt) : zrun zP 139 [zI x0, zI x1] σ = (
  some (.inl (some (zI ((1 + (124 * x0)) + x1))), σ)) := (zrun_eq _ _ _).trans ((zun_eq zK_X6_pos [] 9 _ _).trans rfl)
theorem e_X6_kind (i0 : Nat) (x1 : Int32) (σ : zSt) : zrun zP 140 [zR 16 i0, zI x1] σ = (
  zcI (zrun zP 139 [zI x1, zI 0] σ) (fun r1 s1 =>
  if r1 < 0 ∨ 745 ≤ Int32.toNatClampNeg r1 then
    (none)
    else
    (some (.inl (some (zI (s1.1 31 0 (Int32.toNatClampNeg r1)))), s1)))) := (zrun_eq _ _ _).trans ((zun_eq zK_X6_kind [] 8 _ _).trans rfl)
theorem e_X6_parent (i0 : Nat) (x1 : Int32) (σ : zSt) : zrun zP 141 [zR 16 i0, zI x1] σ = (
  zcI (zrun zP 139 [zI x1, zI 1] σ) (fun r1 s1 =>
  if r1 < 0 ∨ 745 ≤ Int32.toNatClampNeg r1 then
    (none)
    else
    (some (.inl (some (zI (s1.1 31 0 (Int32.toNatClampNeg r1)))), s1)))) := (zrun_eq _ _ _).trans ((zun_eq zK_X6_parent [] 8 _ _).trans rfl)
theorem e_X6_many (i0 : Nat) (x1 : Int32) (σ : zSt) : zrun zP 142 [zR 16 i0, zI x1] σ = (
  zcI (zrun zP 139 [zI x1, zI 2] σ) (fun r1 s1 =>
  if r1 < 0 ∨ 745 ≤ Int32.toNatClampNeg r1 then
    (none)
    else
    (some (.inl (some (zI (s1.1 31 0 (Int32.toNatClampNeg r1)))), s1)))) := (zrun_eq _ _ _).trans ((zun_eq zK_X6_many [] 8 _ _).trans rfl)
theorem e_X6_cell (x0 : Int32) (x1 : Int32) (x2 : Int32) (σ : zSt) : zrun zP 143 [zI x0, zI x1, zI x2] σ = (
  some (.inl (some (zI ((((1 + (124 * x0)) + 4) + (3 * x1)) + x2))), σ)) := (zrun_eq _ _ _).trans ((zun_eq zK_X6_cell [] 15 _ _).trans rfl)
theorem e_X6_from (i0 : Nat) (x1 : Int32) (x2 : Int32) (σ : zSt) : zrun zP 144 [zR 16 i0, zI x1, zI x2] σ = (
  zcI (zrun zP 143 [zI x1, zI x2, zI 0] σ) (fun r1 s1 =>
  if r1 < 0 ∨ 745 ≤ Int32.toNatClampNeg r1 then
    (none)
    else
    (some (.inl (some (zI (s1.1 31 0 (Int32.toNatClampNeg r1)))), s1)))) := (zrun_eq _ _ _).trans ((zun_eq zK_X6_from [] 9 _ _).trans rfl)
theorem e_X6_to (i0 : Nat) (x1 : Int32) (x2 : Int32) (σ : zSt) : zrun zP 145 [zR 16 i0, zI x1, zI x2] σ = (
  zcI (zrun zP 143 [zI x1, zI x2, zI 1] σ) (fun r1 s1 =>
  if r1 < 0 ∨ 745 ≤ Int32.toNatClampNeg r1 then
    (none)
    else
    (some (.inl (some (zI (s1.1 31 0 (Int32.toNatClampNeg r1)))), s1)))) := (zrun_eq _ _ _).trans ((zun_eq zK_X6_to [] 9 _ _).trans rfl)
theorem e_X6_labelOf (i0 : Nat) (x1 : Int32) (x2 : Int32) (σ : zSt) : zrun zP 146 [zR 16 i0, zI x1, zI x2] σ = (
  zcI (zrun zP 143 [zI x1, zI x2, zI 2] σ) (fun r1 s1 =>
  if r1 < 0 ∨ 745 ≤ Int32.toNatClampNeg r1 then
    (none)
    else
    (some (.inl (some (zI (s1.1 31 0 (Int32.toNatClampNeg r1)))), s1)))) := (zrun_eq _ _ _).trans ((zun_eq zK_X6_labelOf [] 9 _ _).trans rfl)
theorem e_X6_copies_2 (k0 i0 : Nat) (k1 i1 : Nat) (x2 : Int32) (σ : zSt) : zX zP zK_X6_copies (2, [zR (k0 + 1) i0, zR (k1 + 1) i1, zI x2], []) σ = (
  if x2 < 745 then
  (if x2 < 0 ∨ zlenI (k0 + 1) i0 ≤ Int32.toNatClampNeg x2 then
    (none)
    else
    (if x2 < 0 ∨ zlenI (k1 + 1) i1 ≤ Int32.toNatClampNeg x2 then
      (none)
      else
      (zX zP zK_X6_copies (2, [zR (k0 + 1) i0, zR (k1 + 1) i1, zI (x2 + 1)], []) (zms σ.1 (k1 + 1) i1 (Int32.toNatClampNeg x2) (σ.1 (k0 + 1) i0 (Int32.toNatClampNeg x2)), σ.2))))
  else
  (some (.inl none, σ))) := (zun_eq zK_X6_copies [2] 12 _ _).trans rfl
theorem e_X6_copies (k0 i0 : Nat) (k1 i1 : Nat) (σ : zSt) : zrun zP 147 [zR (k0 + 1) i0, zR (k1 + 1) i1] σ = (
  zX zP zK_X6_copies (2, [zR (k0 + 1) i0, zR (k1 + 1) i1, zI 0], []) σ) := (zrun_eq _ _ _).trans ((zun_eq zK_X6_copies [2] 3 _ _).trans rfl)
theorem e_X6_topOf_2 (i0 : Nat) (x1 : Int32) (x2 : Int32) (σ : zSt) : zX zP zK_X6_topOf (2, [zR 16 i0, zI x1, zI x2], []) σ = (
  zcI (zrun zP 141 [zR 16 i0, zI x2] σ) (fun r1 s1 =>
  if r1 = (-1) then
    (some (.inl (some (zI x2)), s1))
    else
    (zcI (zrun zP 141 [zR 16 i0, zI x2] s1) (fun r2 s2 =>
      zX zP zK_X6_topOf (2, [zR 16 i0, zI x1, zI r2], []) s2)))) := (zun_eq zK_X6_topOf [2] 11 _ _).trans rfl
theorem e_X6_topOf (i0 : Nat) (x1 : Int32) (σ : zSt) : zrun zP 148 [zR 16 i0, zI x1] σ = (
  zX zP zK_X6_topOf (2, [zR 16 i0, zI x1, zI x1], []) σ) := (zrun_eq _ _ _).trans ((zun_eq zK_X6_topOf [2] 3 _ _).trans rfl)
theorem e_X6_depthOf_4 (i0 : Nat) (x1 : Int32) (x2 : Int32) (x3 : Int32) (σ : zSt) : zX zP zK_X6_depthOf (4, [zR 16 i0, zI x1, zI x2, zI x3], []) σ = (
  zcI (zrun zP 141 [zR 16 i0, zI x3] σ) (fun r1 s1 =>
  if r1 = (-1) then
    (some (.inl (some (zI x2)), s1))
    else
    (zcI (zrun zP 141 [zR 16 i0, zI x3] s1) (fun r2 s2 =>
      zX zP zK_X6_depthOf (4, [zR 16 i0, zI x1, zI (x2 + 1), zI r2], []) s2)))) := (zun_eq zK_X6_depthOf [4] 12 _ _).trans rfl
theorem e_X6_depthOf (i0 : Nat) (x1 : Int32) (σ : zSt) : zrun zP 149 [zR 16 i0, zI x1] σ = (
  zX zP zK_X6_depthOf (4, [zR 16 i0, zI x1, zI 0, zI x1], []) σ) := (zrun_eq _ _ _).trans ((zun_eq zK_X6_depthOf [4] 5 _ _).trans rfl)
theorem e_X6_isBelow_6 (i0 : Nat) (x1 : Int32) (x2 : Int32) (x3 : Int32) (σ : zSt) : zX zP zK_X6_isBelow (6, [zR 16 i0, zI x1, zI x2, zI x3], []) σ = (
  if x3 = (-1) then
  (some (.inl (some (zI 0)), σ))
  else
  (if x3 = x2 then
    (some (.inl (some (zI 1)), σ))
    else
    (zcI (zrun zP 141 [zR 16 i0, zI x3] σ) (fun r1 s1 =>
      zX zP zK_X6_isBelow (6, [zR 16 i0, zI x1, zI x2, zI r1], []) s1)))) := (zun_eq zK_X6_isBelow [6] 12 _ _).trans rfl
theorem e_X6_isBelow (i0 : Nat) (x1 : Int32) (x2 : Int32) (σ : zSt) : zrun zP 150 [zR 16 i0, zI x1, zI x2] σ = (
  zcI (zrun zP 141 [zR 16 i0, zI x1] σ) (fun r1 s1 =>
  zX zP zK_X6_isBelow (6, [zR 16 i0, zI x1, zI x2, zI r1], []) s1)) := (zrun_eq _ _ _).trans ((zun_eq zK_X6_isBelow [6] 5 _ _).trans rfl)
theorem e_X6_isStop_2 (i0 : Nat) (x1 : Int32) (x2 : Int32) (x3 : Int32) (v4 : zAV) (σ : zSt) : zX zP zK_X6_isStop (2, [zR 16 i0, zI x1, zI x2, zI x3, v4], []) σ = (
  zcI (zrun zP 138 [zR 16 i0] σ) (fun r1 s1 =>
  if x3 < r1 then
    (zcI (zrun zP 148 [zR 16 i0, zI x3] s1) (fun r2 s2 =>
      if r2 = x1 then
        (zX zP zK_X6_isStop (25, [zR 16 i0, zI x1, zI x2, zI x3, zI 0], []) s2)
        else
        (zX zP zK_X6_isStop (2, [zR 16 i0, zI x1, zI x2, zI (x3 + 1), v4], []) s2)))
    else
    (some (.inl (some (zI 0)), s1)))) := (zun_eq zK_X6_isStop [2, 25] 13 _ _).trans rfl
theorem e_X6_isStop_25 (i0 : Nat) (x1 : Int32) (x2 : Int32) (x3 : Int32) (x4 : Int32) (σ : zSt) : zX zP zK_X6_isStop (25, [zR 16 i0, zI x1, zI x2, zI x3, zI x4], []) σ = (
  zcI (zrun zP 142 [zR 16 i0, zI x3] σ) (fun r1 s1 =>
  if x4 < r1 then
    (zcI (zrun zP 144 [zR 16 i0, zI x3, zI x4] s1) (fun r2 s2 =>
      if r2 = x2 then
        (some (.inl (some (zI 1)), s2))
        else
        (zcI (zrun zP 145 [zR 16 i0, zI x3, zI x4] s2) (fun r3 s3 =>
          if r3 = x2 then
            (some (.inl (some (zI 1)), s3))
            else
            (zX zP zK_X6_isStop (25, [zR 16 i0, zI x1, zI x2, zI x3, zI (x4 + 1)], []) s3)))))
    else
    (zX zP zK_X6_isStop (2, [zR 16 i0, zI x1, zI x2, zI (x3 + 1), zI x4], []) s1))) := (zun_eq zK_X6_isStop [2, 25] 20 _ _).trans rfl
theorem e_X6_isStop (i0 : Nat) (x1 : Int32) (x2 : Int32) (σ : zSt) : zrun zP 151 [zR 16 i0, zI x1, zI x2] σ = (
  zX zP zK_X6_isStop (2, [zR 16 i0, zI x1, zI x2, zI 0, zJunk], []) σ) := (zrun_eq _ _ _).trans ((zun_eq zK_X6_isStop [2, 25] 3 _ _).trans rfl)
theorem e_X6_around_3 (i0 : Nat) (x1 : Int32) (x2 : Int32) (x3 : Int32) (x4 : Int32) (σ : zSt) : zX zP zK_X6_around (3, [zR 16 i0, zI x1, zI x2, zI x3, zI x4], []) σ = (
  zcI (zrun zP 142 [zR 16 i0, zI x1] σ) (fun r1 s1 =>
  if x4 < r1 then
    (zcI (zrun zP 144 [zR 16 i0, zI x1, zI x4] s1) (fun r2 s2 =>
      if x2 < r2 then
        (zX zP zK_X6_around (3, [zR 16 i0, zI x1, zI x2, zI x3, zI (x4 + 1)], []) s2)
        else
        (zcI (zrun zP 145 [zR 16 i0, zI x1, zI x4] s2) (fun r3 s3 =>
          if r3 < x3 then
            (zX zP zK_X6_around (3, [zR 16 i0, zI x1, zI x2, zI x3, zI (x4 + 1)], []) s3)
            else
            (some (.inl (some (zI x4)), s3))))))
    else
    (some (.inl (some (zI (-1))), s1)))) := (zun_eq zK_X6_around [3] 20 _ _).trans rfl
theorem e_X6_around (i0 : Nat) (x1 : Int32) (x2 : Int32) (x3 : Int32) (σ : zSt) : zrun zP 152 [zR 16 i0, zI x1, zI x2, zI x3] σ = (
  zX zP zK_X6_around (3, [zR 16 i0, zI x1, zI x2, zI x3, zI 0], []) σ) := (zrun_eq _ _ _).trans ((zun_eq zK_X6_around [3] 3 _ _).trans rfl)
theorem e_X6_inserts_7 (i0 : Nat) (x1 : Int32) (x2 : Int32) (x3 : Int32) (x4 : Int32) (x5 : Int32) (v6 : zAV) (σ : zSt) : zX zP zK_X6_inserts (7, [zR 16 i0, zI x1, zI x2, zI x3, zI x4, zI x5, v6], []) σ = (
  if (0 : Int32) < x5 then
  (zcI (zrun zP 144 [zR 16 i0, zI x1, zI (x5 - 1)] σ) (fun r1 s1 =>
    if x2 < r1 then
      (zX zP zK_X6_inserts (28, [zR 16 i0, zI x1, zI x2, zI x3, zI x4, zI x5, zI 0], []) s1)
      else
      (zcI (zrun zP 143 [zI x1, zI x5, zI 0] s1) (fun r2 s2 =>
        if r2 < 0 ∨ 745 ≤ Int32.toNatClampNeg r2 then
          (none)
          else
          (zcI (zrun zP 143 [zI x1, zI x5, zI 1] (zms s2.1 31 0 (Int32.toNatClampNeg r2) x2, s2.2)) (fun r3 s3 =>
            if r3 < 0 ∨ 745 ≤ Int32.toNatClampNeg r3 then
              (none)
              else
              (zcI (zrun zP 143 [zI x1, zI x5, zI 2] (zms s3.1 31 0 (Int32.toNatClampNeg r3) x3, s3.2)) (fun r4 s4 =>
                if r4 < 0 ∨ 745 ≤ Int32.toNatClampNeg r4 then
                  (none)
                  else
                  (zcI (zrun zP 139 [zI x1, zI 2] (zms s4.1 31 0 (Int32.toNatClampNeg r4) x4, s4.2)) (fun r5 s5 =>
                    if r5 < 0 ∨ 745 ≤ Int32.toNatClampNeg r5 then
                      (none)
                      else
                      (if r5 < 0 ∨ 745 ≤ Int32.toNatClampNeg r5 then
                        (none)
                        else
                        (some (.inl (some (zI x5)), (zms s5.1 31 0 (Int32.toNatClampNeg r5) ((s5.1 31 0 (Int32.toNatClampNeg r5)) + 1), s5.2))))))))))))))
  else
  (zcI (zrun zP 143 [zI x1, zI x5, zI 0] σ) (fun r6 s6 =>
    if r6 < 0 ∨ 745 ≤ Int32.toNatClampNeg r6 then
      (none)
      else
      (zcI (zrun zP 143 [zI x1, zI x5, zI 1] (zms s6.1 31 0 (Int32.toNatClampNeg r6) x2, s6.2)) (fun r7 s7 =>
        if r7 < 0 ∨ 745 ≤ Int32.toNatClampNeg r7 then
          (none)
          else
          (zcI (zrun zP 143 [zI x1, zI x5, zI 2] (zms s7.1 31 0 (Int32.toNatClampNeg r7) x3, s7.2)) (fun r8 s8 =>
            if r8 < 0 ∨ 745 ≤ Int32.toNatClampNeg r8 then
              (none)
              else
              (zcI (zrun zP 139 [zI x1, zI 2] (zms s8.1 31 0 (Int32.toNatClampNeg r8) x4, s8.2)) (fun r9 s9 =>
                if r9 < 0 ∨ 745 ≤ Int32.toNatClampNeg r9 then
                  (none)
                  else
                  (if r9 < 0 ∨ 745 ≤ Int32.toNatClampNeg r9 then
                    (none)
                    else
                    (some (.inl (some (zI x5)), (zms s9.1 31 0 (Int32.toNatClampNeg r9) ((s9.1 31 0 (Int32.toNatClampNeg r9)) + 1), s9.2))))))))))))) := (zun_eq zK_X6_inserts [7, 28] 47 _ _).trans rfl
theorem e_X6_inserts_28 (i0 : Nat) (x1 : Int32) (x2 : Int32) (x3 : Int32) (x4 : Int32) (x5 : Int32) (x6 : Int32) (σ : zSt) : zX zP zK_X6_inserts (28, [zR 16 i0, zI x1, zI x2, zI x3, zI x4, zI x5, zI x6], []) σ = (
  if x6 < 3 then
  (zcI (zrun zP 143 [zI x1, zI x5, zI x6] σ) (fun r1 s1 =>
    zcI (zrun zP 143 [zI x1, zI (x5 - 1), zI x6] s1) (fun r2 s2 =>
      if r2 < 0 ∨ 745 ≤ Int32.toNatClampNeg r2 then
        (none)
        else
        (if r1 < 0 ∨ 745 ≤ Int32.toNatClampNeg r1 then
          (none)
          else
          (zX zP zK_X6_inserts (28, [zR 16 i0, zI x1, zI x2, zI x3, zI x4, zI x5, zI (x6 + 1)], []) (zms s2.1 31 0 (Int32.toNatClampNeg r1) (s2.1 31 0 (Int32.toNatClampNeg r2)), s2.2))))))
  else
  (zX zP zK_X6_inserts (7, [zR 16 i0, zI x1, zI x2, zI x3, zI x4, zI (x5 + (-1)), zI x6], []) σ)) := (zun_eq zK_X6_inserts [7, 28] 22 _ _).trans rfl
theorem e_X6_inserts (i0 : Nat) (x1 : Int32) (x2 : Int32) (x3 : Int32) (x4 : Int32) (σ : zSt) : zrun zP 153 [zR 16 i0, zI x1, zI x2, zI x3, zI x4] σ = (
  zcI (zrun zP 142 [zR 16 i0, zI x1] σ) (fun r1 s1 =>
  zX zP zK_X6_inserts (7, [zR 16 i0, zI x1, zI x2, zI x3, zI x4, zI r1, zJunk], []) s1)) := (zrun_eq _ _ _).trans ((zun_eq zK_X6_inserts [7, 28] 5 _ _).trans rfl)
theorem e_X6_removes_7 (i0 : Nat) (x1 : Int32) (x2 : Int32) (x3 : Int32) (σ : zSt) : zX zP zK_X6_removes (7, [zR 16 i0, zI x1, zI x2, zI x3], []) σ = (
  zcI (zrun zP 142 [zR 16 i0, zI x1] σ) (fun r1 s1 =>
  zcI (zrun zP 143 [zI x1, zI (r1 - 1), zI 0] s1) (fun r2 s2 =>
    if x3 < r2 then
      (if (x3 + 3) < 0 ∨ 745 ≤ Int32.toNatClampNeg (x3 + 3) then
        (none)
        else
        (if x3 < 0 ∨ 745 ≤ Int32.toNatClampNeg x3 then
          (none)
          else
          (zX zP zK_X6_removes (7, [zR 16 i0, zI x1, zI x2, zI (x3 + 1)], []) (zms s2.1 31 0 (Int32.toNatClampNeg x3) (s2.1 31 0 (Int32.toNatClampNeg (x3 + 3))), s2.2))))
      else
      (zcI (zrun zP 139 [zI x1, zI 2] s2) (fun r3 s3 =>
        if r3 < 0 ∨ 745 ≤ Int32.toNatClampNeg r3 then
          (none)
          else
          (if r3 < 0 ∨ 745 ≤ Int32.toNatClampNeg r3 then
            (none)
            else
            (some (.inl none, (zms s3.1 31 0 (Int32.toNatClampNeg r3) ((s3.1 31 0 (Int32.toNatClampNeg r3)) - 1), s3.2))))))))) := (zun_eq zK_X6_removes [7] 23 _ _).trans rfl
theorem e_X6_removes (i0 : Nat) (x1 : Int32) (x2 : Int32) (σ : zSt) : zrun zP 154 [zR 16 i0, zI x1, zI x2] σ = (
  zcI (zrun zP 143 [zI x1, zI x2, zI 0] σ) (fun r1 s1 =>
  zX zP zK_X6_removes (7, [zR 16 i0, zI x1, zI x2, zI r1], []) s1)) := (zrun_eq _ _ _).trans ((zun_eq zK_X6_removes [7] 6 _ _).trans rfl)
theorem e_X6_isClear_3 (i0 : Nat) (x1 : Int32) (x2 : Int32) (x3 : Int32) (x4 : Int32) (σ : zSt) : zX zP zK_X6_isClear (3, [zR 16 i0, zI x1, zI x2, zI x3, zI x4], []) σ = (
  zcI (zrun zP 142 [zR 16 i0, zI x1] σ) (fun r1 s1 =>
  if x4 < r1 then
    (zcI (zrun zP 144 [zR 16 i0, zI x1, zI x4] s1) (fun r2 s2 =>
      if r2 < x3 then
        (zcI (zrun zP 145 [zR 16 i0, zI x1, zI x4] s2) (fun r3 s3 =>
          if x2 < r3 then
            (some (.inl (some (zI 0)), s3))
            else
            (zX zP zK_X6_isClear (3, [zR 16 i0, zI x1, zI x2, zI x3, zI (x4 + 1)], []) s3)))
        else
        (zX zP zK_X6_isClear (3, [zR 16 i0, zI x1, zI x2, zI x3, zI (x4 + 1)], []) s2)))
    else
    (some (.inl (some (zI 1)), s1)))) := (zun_eq zK_X6_isClear [3] 20 _ _).trans rfl
theorem e_X6_isClear (i0 : Nat) (x1 : Int32) (x2 : Int32) (x3 : Int32) (σ : zSt) : zrun zP 155 [zR 16 i0, zI x1, zI x2, zI x3] σ = (
  zX zP zK_X6_isClear (3, [zR 16 i0, zI x1, zI x2, zI x3, zI 0], []) σ) := (zrun_eq _ _ _).trans ((zun_eq zK_X6_isClear [3] 3 _ _).trans rfl)
theorem e_X6_mayPut (i0 : Nat) (x1 : Int32) (x2 : Int32) (x3 : Int32) (σ : zSt) : zrun zP 156 [zR 16 i0, zI x1, zI x2, zI x3] σ = (
  zcI (zrun zP 140 [zR 16 i0, zI x1] σ) (fun r1 s1 =>
  if r1 = 0 then
    (zcI (zrun zP 155 [zR 16 i0, zI x1, zI x2, zI x3] s1) (fun r2 s2 =>
      if r2 = 0 then
        (some (.inl (some (zI 0)), s2))
        else
        (zcI (zrun zP 140 [zR 16 i0, zI x1] s2) (fun r3 s3 =>
          if r3 = 0 then
            (some (.inl (some (zI 1)), s3))
            else
            (zcI (zrun zP 141 [zR 16 i0, zI x1] s3) (fun r4 s4 =>
              zcI (zrun zP 152 [zR 16 i0, zI r4, zI x2, zI x3] s4) (fun r5 s5 =>
                if r5 = (-1) then
                  (some (.inl (some (zI 0)), s5))
                  else
                  (some (.inl (some (zI 1)), s5)))))))))
    else
    (zcI (zrun zP 140 [zR 16 i0, zI x1] s1) (fun r6 s6 =>
      if r6 = 2 then
        (zcI (zrun zP 155 [zR 16 i0, zI x1, zI x2, zI x3] s6) (fun r7 s7 =>
          if r7 = 0 then
            (some (.inl (some (zI 0)), s7))
            else
            (zcI (zrun zP 140 [zR 16 i0, zI x1] s7) (fun r8 s8 =>
              if r8 = 0 then
                (some (.inl (some (zI 1)), s8))
                else
                (zcI (zrun zP 141 [zR 16 i0, zI x1] s8) (fun r9 s9 =>
                  zcI (zrun zP 152 [zR 16 i0, zI r9, zI x2, zI x3] s9) (fun r10 s10 =>
                    if r10 = (-1) then
                      (some (.inl (some (zI 0)), s10))
                      else
                      (some (.inl (some (zI 1)), s10)))))))))
        else
        (some (.inl (some (zI 0)), s6)))))) := (zrun_eq _ _ _).trans ((zun_eq zK_X6_mayPut [] 32 _ _).trans rfl)
theorem e_X6_isCutFrom_2 (i0 : Nat) (x1 : Int32) (x2 : Int32) (x3 : Int32) (σ : zSt) : zX zP zK_X6_isCutFrom (2, [zR 16 i0, zI x1, zI x2, zI x3], []) σ = (
  if x3 = x2 then
  (if x3 = x2 then
    (some (.inl (some (zI 1)), σ))
    else
    (some (.inl (some (zI 0)), σ)))
  else
  (if x3 = (-1) then
    (if x3 = x2 then
      (some (.inl (some (zI 1)), σ))
      else
      (some (.inl (some (zI 0)), σ)))
    else
    (zcI (zrun zP 140 [zR 16 i0, zI x3] σ) (fun r1 s1 =>
      if r1 = 1 then
        (zcI (zrun zP 141 [zR 16 i0, zI x3] s1) (fun r2 s2 =>
          zX zP zK_X6_isCutFrom (2, [zR 16 i0, zI x1, zI x2, zI r2], []) s2))
        else
        (if x3 = x2 then
          (some (.inl (some (zI 1)), s1))
          else
          (some (.inl (some (zI 0)), s1))))))) := (zun_eq zK_X6_isCutFrom [2] 18 _ _).trans rfl
theorem e_X6_isCutFrom (i0 : Nat) (x1 : Int32) (x2 : Int32) (σ : zSt) : zrun zP 157 [zR 16 i0, zI x1, zI x2] σ = (
  zX zP zK_X6_isCutFrom (2, [zR 16 i0, zI x1, zI x2, zI x1], []) σ) := (zrun_eq _ _ _).trans ((zun_eq zK_X6_isCutFrom [2] 3 _ _).trans rfl)
theorem e_X6_hasRoom_2 (i0 : Nat) (x1 : Int32) (x2 : Int32) (σ : zSt) : zX zP zK_X6_hasRoom (2, [zR 16 i0, zI x1, zI x2], []) σ = (
  zcI (zrun zP 138 [zR 16 i0] σ) (fun r1 s1 =>
  if x2 < r1 then
    (zcI (zrun zP 157 [zR 16 i0, zI x2, zI x1] s1) (fun r2 s2 =>
      if r2 = 0 then
        (zX zP zK_X6_hasRoom (2, [zR 16 i0, zI x1, zI (x2 + 1)], []) s2)
        else
        (zcI (zrun zP 142 [zR 16 i0, zI x2] s2) (fun r3 s3 =>
          if r3 = 40 then
            (some (.inl (some (zI 0)), s3))
            else
            (zX zP zK_X6_hasRoom (2, [zR 16 i0, zI x1, zI (x2 + 1)], []) s3)))))
    else
    (some (.inl (some (zI 1)), s1)))) := (zun_eq zK_X6_hasRoom [2] 17 _ _).trans rfl
theorem e_X6_hasRoom (i0 : Nat) (x1 : Int32) (σ : zSt) : zrun zP 158 [zR 16 i0, zI x1] σ = (
  zX zP zK_X6_hasRoom (2, [zR 16 i0, zI x1, zI 0], []) σ) := (zrun_eq _ _ _).trans ((zun_eq zK_X6_hasRoom [2] 3 _ _).trans rfl)
theorem e_X6_puts_14 (i0 : Nat) (x1 : Int32) (x2 : Int32) (x3 : Int32) (x4 : Int32) (x5 : Int32) (x6 : Int32) (σ : zSt) : zX zP zK_X6_puts (14, [zR 16 i0, zI x1, zI x2, zI x3, zI x4, zI x5, zI x6], []) σ = (
  zcI (zrun zP 138 [zR 16 i0] σ) (fun r1 s1 =>
  if x6 < r1 then
    (if x6 = x1 then
      (zX zP zK_X6_puts (14, [zR 16 i0, zI x1, zI x2, zI x3, zI x4, zI x5, zI (x6 + 1)], []) s1)
      else
      (zcI (zrun zP 157 [zR 16 i0, zI x6, zI x1] s1) (fun r2 s2 =>
        if r2 = 0 then
          (zX zP zK_X6_puts (14, [zR 16 i0, zI x1, zI x2, zI x3, zI x4, zI x5, zI (x6 + 1)], []) s2)
          else
          (zcI (zrun zP 153 [zR 16 i0, zI x6, zI x2, zI x3, zI 0] s2) (fun r3 s3 =>
            zX zP zK_X6_puts (14, [zR 16 i0, zI x1, zI x2, zI x3, zI x4, zI x5, zI (x6 + 1)], []) s3)))))
    else
    (some (.inl (some (zI x5)), s1)))) := (zun_eq zK_X6_puts [14] 22 _ _).trans rfl
theorem e_X6_puts (i0 : Nat) (x1 : Int32) (x2 : Int32) (x3 : Int32) (x4 : Int32) (σ : zSt) : zrun zP 159 [zR 16 i0, zI x1, zI x2, zI x3, zI x4] σ = (
  zcI (zrun zP 153 [zR 16 i0, zI x1, zI x2, zI x3, zI x4] σ) (fun r1 s1 =>
  zX zP zK_X6_puts (14, [zR 16 i0, zI x1, zI x2, zI x3, zI x4, zI r1, zI 0], []) s1)) := (zrun_eq _ _ _).trans ((zun_eq zK_X6_puts [14] 10 _ _).trans rfl)
theorem e_X6_mayPoint_13 (i0 : Nat) (x1 : Int32) (x2 : Int32) (x3 : Int32) (σ : zSt) : zX zP zK_X6_mayPoint (13, [zR 16 i0, zI x1, zI x2, zI x3], []) σ = (
  zcI (zrun zP 142 [zR 16 i0, zI x1] σ) (fun r1 s1 =>
  if x3 < r1 then
    (zcI (zrun zP 144 [zR 16 i0, zI x1, zI x3] s1) (fun r2 s2 =>
      if r2 = x2 then
        (some (.inl (some (zI 0)), s2))
        else
        (zX zP zK_X6_mayPoint (13, [zR 16 i0, zI x1, zI x2, zI (x3 + 1)], []) s2)))
    else
    (zcI (zrun zP 141 [zR 16 i0, zI x1] s1) (fun r3 s3 =>
      if r3 = (-1) then
        (some (.inl (some (zI 1)), s3))
        else
        (zcI (zrun zP 141 [zR 16 i0, zI x1] s3) (fun r4 s4 =>
          zcI (zrun zP 152 [zR 16 i0, zI r4, zI x2, zI x2] s4) (fun r5 s5 =>
            if r5 = (-1) then
              (some (.inl (some (zI 0)), s5))
              else
              (some (.inl (some (zI 1)), s5))))))))) := (zun_eq zK_X6_mayPoint [13] 23 _ _).trans rfl
theorem e_X6_mayPoint (i0 : Nat) (x1 : Int32) (x2 : Int32) (σ : zSt) : zrun zP 160 [zR 16 i0, zI x1, zI x2] σ = (
  zcI (zrun zP 140 [zR 16 i0, zI x1] σ) (fun r1 s1 =>
  if r1 = 3 then
    (zX zP zK_X6_mayPoint (13, [zR 16 i0, zI x1, zI x2, zI 0], []) s1)
    else
    (some (.inl (some (zI 0)), s1)))) := (zrun_eq _ _ _).trans ((zun_eq zK_X6_mayPoint [13] 8 _ _).trans rfl)
theorem e_X6_maySplit_2 (i0 : Nat) (x1 : Int32) (x2 : Int32) (x3 : Int32) (v4 : zAV) (σ : zSt) : zX zP zK_X6_maySplit (2, [zR 16 i0, zI x1, zI x2, zI x3, v4], []) σ = (
  zcI (zrun zP 138 [zR 16 i0] σ) (fun r1 s1 =>
  if x3 < r1 then
    (zcI (zrun zP 140 [zR 16 i0, zI x3] s1) (fun r2 s2 =>
      if r2 = 2 then
        (zcI (zrun zP 150 [zR 16 i0, zI x3, zI x1] s2) (fun r3 s3 =>
          if r3 = 0 then
            (zX zP zK_X6_maySplit (2, [zR 16 i0, zI x1, zI x2, zI (x3 + 1), v4], []) s3)
            else
            (zX zP zK_X6_maySplit (34, [zR 16 i0, zI x1, zI x2, zI x3, zI 0], []) s3)))
        else
        (zX zP zK_X6_maySplit (2, [zR 16 i0, zI x1, zI x2, zI (x3 + 1), v4], []) s2)))
    else
    (some (.inl (some (zI 1)), s1)))) := (zun_eq zK_X6_maySplit [2, 34] 18 _ _).trans rfl
theorem e_X6_maySplit_34 (i0 : Nat) (x1 : Int32) (x2 : Int32) (x3 : Int32) (x4 : Int32) (σ : zSt) : zX zP zK_X6_maySplit (34, [zR 16 i0, zI x1, zI x2, zI x3, zI x4], []) σ = (
  zcI (zrun zP 142 [zR 16 i0, zI x3] σ) (fun r1 s1 =>
  if x4 < r1 then
    (zcI (zrun zP 144 [zR 16 i0, zI x3, zI x4] s1) (fun r2 s2 =>
      if r2 < x2 then
        (zcI (zrun zP 145 [zR 16 i0, zI x3, zI x4] s2) (fun r3 s3 =>
          if x2 < r3 then
            (some (.inl (some (zI 0)), s3))
            else
            (zX zP zK_X6_maySplit (34, [zR 16 i0, zI x1, zI x2, zI x3, zI (x4 + 1)], []) s3)))
        else
        (zX zP zK_X6_maySplit (34, [zR 16 i0, zI x1, zI x2, zI x3, zI (x4 + 1)], []) s2)))
    else
    (zX zP zK_X6_maySplit (2, [zR 16 i0, zI x1, zI x2, zI (x3 + 1), zI x4], []) s1))) := (zun_eq zK_X6_maySplit [2, 34] 20 _ _).trans rfl
theorem e_X6_maySplit (i0 : Nat) (x1 : Int32) (x2 : Int32) (σ : zSt) : zrun zP 161 [zR 16 i0, zI x1, zI x2] σ = (
  zX zP zK_X6_maySplit (2, [zR 16 i0, zI x1, zI x2, zI 0, zJunk], []) σ) := (zrun_eq _ _ _).trans ((zun_eq zK_X6_maySplit [2, 34] 3 _ _).trans rfl)
theorem e_X6_markWith_2 (i0 : Nat) (x1 : Int32) (x2 : Int32) (x3 : Int32) (σ : zSt) : zX zP zK_X6_markWith (2, [zR 16 i0, zI x1, zI x2, zI x3], []) σ = (
  zcI (zrun zP 142 [zR 16 i0, zI x1] σ) (fun r1 s1 =>
  if x3 < r1 then
    (zcI (zrun zP 144 [zR 16 i0, zI x1, zI x3] s1) (fun r2 s2 =>
      if r2 < x2 then
        (zcI (zrun zP 145 [zR 16 i0, zI x1, zI x3] s2) (fun r3 s3 =>
          if x2 < r3 then
            (some (.inl (some (zI x3)), s3))
            else
            (zX zP zK_X6_markWith (2, [zR 16 i0, zI x1, zI x2, zI (x3 + 1)], []) s3)))
        else
        (zX zP zK_X6_markWith (2, [zR 16 i0, zI x1, zI x2, zI (x3 + 1)], []) s2)))
    else
    (some (.inl (some (zI (-1))), s1)))) := (zun_eq zK_X6_markWith [2] 20 _ _).trans rfl
theorem e_X6_markWith (i0 : Nat) (x1 : Int32) (x2 : Int32) (σ : zSt) : zrun zP 162 [zR 16 i0, zI x1, zI x2] σ = (
  zX zP zK_X6_markWith (2, [zR 16 i0, zI x1, zI x2, zI 0], []) σ) := (zrun_eq _ _ _).trans ((zun_eq zK_X6_markWith [2] 3 _ _).trans rfl)
theorem e_X6_hasRoomToSplit_2 (i0 : Nat) (x1 : Int32) (x2 : Int32) (x3 : Int32) (σ : zSt) : zX zP zK_X6_hasRoomToSplit (2, [zR 16 i0, zI x1, zI x2, zI x3], []) σ = (
  zcI (zrun zP 138 [zR 16 i0] σ) (fun r1 s1 =>
  if x3 < r1 then
    (if x3 = x1 then
      (zcI (zrun zP 162 [zR 16 i0, zI x3, zI x2] s1) (fun r2 s2 =>
        if r2 = (-1) then
          (zX zP zK_X6_hasRoomToSplit (2, [zR 16 i0, zI x1, zI x2, zI (x3 + 1)], []) s2)
          else
          (zcI (zrun zP 142 [zR 16 i0, zI x3] s2) (fun r3 s3 =>
            if r3 = 40 then
              (some (.inl (some (zI 0)), s3))
              else
              (zX zP zK_X6_hasRoomToSplit (2, [zR 16 i0, zI x1, zI x2, zI (x3 + 1)], []) s3)))))
      else
      (zcI (zrun zP 140 [zR 16 i0, zI x3] s1) (fun r4 s4 =>
        if r4 = 1 then
          (zcI (zrun zP 150 [zR 16 i0, zI x3, zI x1] s4) (fun r5 s5 =>
            if r5 = 0 then
              (zX zP zK_X6_hasRoomToSplit (2, [zR 16 i0, zI x1, zI x2, zI (x3 + 1)], []) s5)
              else
              (zcI (zrun zP 162 [zR 16 i0, zI x3, zI x2] s5) (fun r6 s6 =>
                if r6 = (-1) then
                  (zX zP zK_X6_hasRoomToSplit (2, [zR 16 i0, zI x1, zI x2, zI (x3 + 1)], []) s6)
                  else
                  (zcI (zrun zP 142 [zR 16 i0, zI x3] s6) (fun r7 s7 =>
                    if r7 = 40 then
                      (some (.inl (some (zI 0)), s7))
                      else
                      (zX zP zK_X6_hasRoomToSplit (2, [zR 16 i0, zI x1, zI x2, zI (x3 + 1)], []) s7)))))))
          else
          (zX zP zK_X6_hasRoomToSplit (2, [zR 16 i0, zI x1, zI x2, zI (x3 + 1)], []) s4))))
    else
    (some (.inl (some (zI 1)), s1)))) := (zun_eq zK_X6_hasRoomToSplit [2] 31 _ _).trans rfl
theorem e_X6_hasRoomToSplit (i0 : Nat) (x1 : Int32) (x2 : Int32) (σ : zSt) : zrun zP 163 [zR 16 i0, zI x1, zI x2] σ = (
  zX zP zK_X6_hasRoomToSplit (2, [zR 16 i0, zI x1, zI x2, zI 0], []) σ) := (zrun_eq _ _ _).trans ((zun_eq zK_X6_hasRoomToSplit [2] 3 _ _).trans rfl)
theorem e_X6_splitsOne (i0 : Nat) (x1 : Int32) (x2 : Int32) (σ : zSt) : zrun zP 164 [zR 16 i0, zI x1, zI x2] σ = (
  zcI (zrun zP 162 [zR 16 i0, zI x1, zI x2] σ) (fun r1 s1 =>
  if r1 = (-1) then
    (some (.inl (some (zI 0)), s1))
    else
    (zcI (zrun zP 145 [zR 16 i0, zI x1, zI r1] s1) (fun r2 s2 =>
      zcI (zrun zP 143 [zI x1, zI r1, zI 1] s2) (fun r3 s3 =>
        if r3 < 0 ∨ 745 ≤ Int32.toNatClampNeg r3 then
          (none)
          else
          (zcI (zrun zP 146 [zR 16 i0, zI x1, zI r1] (zms s3.1 31 0 (Int32.toNatClampNeg r3) x2, s3.2)) (fun r4 s4 =>
            zcI (zrun zP 153 [zR 16 i0, zI x1, zI x2, zI r2, zI r4] s4) (fun r5 s5 =>
              some (.inl (some (zI 1)), s5))))))))) := (zrun_eq _ _ _).trans ((zun_eq zK_X6_splitsOne [] 34 _ _).trans rfl)
theorem e_X6_splits_10 (i0 : Nat) (x1 : Int32) (x2 : Int32) (x3 : Int32) (x4 : Int32) (σ : zSt) : zX zP zK_X6_splits (10, [zR 16 i0, zI x1, zI x2, zI x3, zI x4], []) σ = (
  zcI (zrun zP 138 [zR 16 i0] σ) (fun r1 s1 =>
  if x4 < r1 then
    (zcI (zrun zP 140 [zR 16 i0, zI x4] s1) (fun r2 s2 =>
      if r2 = 1 then
        (zcI (zrun zP 150 [zR 16 i0, zI x4, zI x1] s2) (fun r3 s3 =>
          if r3 = 0 then
            (zX zP zK_X6_splits (10, [zR 16 i0, zI x1, zI x2, zI x3, zI (x4 + 1)], []) s3)
            else
            (zcI (zrun zP 164 [zR 16 i0, zI x4, zI x2] s3) (fun r4 s4 =>
              zX zP zK_X6_splits (10, [zR 16 i0, zI x1, zI x2, zI (x3 + r4), zI (x4 + 1)], []) s4))))
        else
        (zX zP zK_X6_splits (10, [zR 16 i0, zI x1, zI x2, zI x3, zI (x4 + 1)], []) s2)))
    else
    (some (.inl (some (zI x3)), s1)))) := (zun_eq zK_X6_splits [10] 24 _ _).trans rfl
theorem e_X6_splits (i0 : Nat) (x1 : Int32) (x2 : Int32) (σ : zSt) : zrun zP 165 [zR 16 i0, zI x1, zI x2] σ = (
  zcI (zrun zP 164 [zR 16 i0, zI x1, zI x2] σ) (fun r1 s1 =>
  zX zP zK_X6_splits (10, [zR 16 i0, zI x1, zI x2, zI r1, zI 0], []) s1)) := (zrun_eq _ _ _).trans ((zun_eq zK_X6_splits [10] 8 _ _).trans rfl)
theorem e_X6_feed (i0 : Nat) (x1 : Int32) (x2 : Int32) (x3 : Int32) (x4 : Int32) (x5 : Int32) (σ : zSt) : zrun zP 166 [zR 16 i0, zI x1, zI x2, zI x3, zI x4, zI x5] σ = (
  if (400 : Int32) < (((zms σ.1 16 i0 0 0) 16 i0 10) + 20) then
  (some (.inl (some (zI (-1))), (zms σ.1 16 i0 0 0, σ.2)))
  else
  (zcV (zrun zP 167 [zR 16 i0, zI x1] (zms σ.1 16 i0 0 0, σ.2)) (fun s1 =>
    zcV (zrun zP 167 [zR 16 i0, zI x2] s1) (fun s2 =>
      zcV (zrun zP 167 [zR 16 i0, zI x3] s2) (fun s3 =>
        zcV (zrun zP 167 [zR 16 i0, zI x4] s3) (fun s4 =>
          zcV (zrun zP 167 [zR 16 i0, zI x5] s4) (fun s5 =>
            some (.inl (some (zI (s5.1 16 i0 10))), s5)))))))) := (zrun_eq _ _ _).trans ((zun_eq zK_X6_feed [] 28 _ _).trans rfl)
theorem e_X6_puts__3 (i0 : Nat) (x1 : Int32) (x2 : Int32) (σ : zSt) : zX zP zK_X6_puts_ (3, [zR 16 i0, zI x1, zI x2], []) σ = (
  if x2 < 0 then
  (some (.inl none, σ))
  else
  (if (σ.1 16 i0 10) < 0 ∨ 400 ≤ Int32.toNatClampNeg (σ.1 16 i0 10) then
    (none)
    else
    (zX zP zK_X6_puts_ (3, [zR 16 i0, zI x1, zI (x2 + (-8))], []) (zms (zms σ.1 35 0 (Int32.toNatClampNeg (σ.1 16 i0 10)) (Int8.toInt32 (Int32.toInt8 (Int8.toInt32 (Int32.toInt8 (x1 >>> (x2 &&& 31))))))) 16 i0 10 ((σ.1 16 i0 10) + 1), σ.2)))) := (zun_eq zK_X6_puts_ [3] 20 _ _).trans rfl
theorem e_X6_puts_ (i0 : Nat) (x1 : Int32) (σ : zSt) : zrun zP 167 [zR 16 i0, zI x1] σ = (
  zX zP zK_X6_puts_ (3, [zR 16 i0, zI x1, zI 24], []) σ) := (zrun_eq _ _ _).trans ((zun_eq zK_X6_puts_ [3] 3 _ _).trans rfl)
theorem e_X6_wrong (i0 : Nat) (x1 : Int32) (x2 : Int32) (σ : zSt) : zrun zP 168 [zR 16 i0, zI x1, zI x2] σ = (
  if (0 : Int32) < (σ.1 16 i0 14) then
  (some (.inl none, σ))
  else
  (some (.inl none, (zms (zms σ.1 16 i0 14 x1) 16 i0 15 x2, σ.2)))) := (zrun_eq _ _ _).trans ((zun_eq zK_X6_wrong [] 11 _ _).trans rfl)
theorem e_X6_sign_0 (i0 : Nat) (σ : zSt) : zX zP zK_X6_sign (0, [zR 16 i0], []) σ = (
  if (σ.1 16 i0 12) < (σ.1 16 i0 11) then
  (if (σ.1 16 i0 12) < 0 ∨ 400 ≤ Int32.toNatClampNeg (σ.1 16 i0 12) then
    (none)
    else
    (if (σ.1 36 0 (Int32.toNatClampNeg (σ.1 16 i0 12))) = 32 then
      (zX zP zK_X6_sign (0, [zR 16 i0], []) (zms σ.1 16 i0 12 ((σ.1 16 i0 12) + 1), σ.2))
      else
      (if (σ.1 16 i0 12) < (σ.1 16 i0 11) then
        (if (σ.1 16 i0 12) < 0 ∨ 400 ≤ Int32.toNatClampNeg (σ.1 16 i0 12) then
          (none)
          else
          (some (.inl (some (zI (σ.1 36 0 (Int32.toNatClampNeg (σ.1 16 i0 12))))), σ)))
        else
        (some (.inl (some (zI 0)), σ)))))
  else
  (if (σ.1 16 i0 12) < (σ.1 16 i0 11) then
    (if (σ.1 16 i0 12) < 0 ∨ 400 ≤ Int32.toNatClampNeg (σ.1 16 i0 12) then
      (none)
      else
      (some (.inl (some (zI (σ.1 36 0 (Int32.toNatClampNeg (σ.1 16 i0 12))))), σ)))
    else
    (some (.inl (some (zI 0)), σ)))) := (zun_eq zK_X6_sign [0] 25 _ _).trans rfl
theorem e_X6_sign (i0 : Nat) (σ : zSt) : zrun zP 169 [zR 16 i0] σ = (
  if (σ.1 16 i0 12) < (σ.1 16 i0 11) then
  (if (σ.1 16 i0 12) < 0 ∨ 400 ≤ Int32.toNatClampNeg (σ.1 16 i0 12) then
    (none)
    else
    (if (σ.1 36 0 (Int32.toNatClampNeg (σ.1 16 i0 12))) = 32 then
      (zX zP zK_X6_sign (0, [zR 16 i0], []) (zms σ.1 16 i0 12 ((σ.1 16 i0 12) + 1), σ.2))
      else
      (if (σ.1 16 i0 12) < (σ.1 16 i0 11) then
        (if (σ.1 16 i0 12) < 0 ∨ 400 ≤ Int32.toNatClampNeg (σ.1 16 i0 12) then
          (none)
          else
          (some (.inl (some (zI (σ.1 36 0 (Int32.toNatClampNeg (σ.1 16 i0 12))))), σ)))
        else
        (some (.inl (some (zI 0)), σ)))))
  else
  (if (σ.1 16 i0 12) < (σ.1 16 i0 11) then
    (if (σ.1 16 i0 12) < 0 ∨ 400 ≤ Int32.toNatClampNeg (σ.1 16 i0 12) then
      (none)
      else
      (some (.inl (some (zI (σ.1 36 0 (Int32.toNatClampNeg (σ.1 16 i0 12))))), σ)))
    else
    (some (.inl (some (zI 0)), σ)))) := (zrun_eq _ _ _).trans ((zun_eq zK_X6_sign [0] 25 _ _).trans rfl)
theorem e_X6_isSmall (i0 : Nat) (x1 : Int32) (σ : zSt) : zrun zP 170 [zR 16 i0, zI x1] σ = (
  if x1 < (σ.1 16 i0 11) then
  (if x1 < 0 ∨ 400 ≤ Int32.toNatClampNeg x1 then
    (none)
    else
    (if (σ.1 36 0 (Int32.toNatClampNeg x1)) < 97 then
      (some (.inl (some (zI 0)), σ))
      else
      (if x1 < 0 ∨ 400 ≤ Int32.toNatClampNeg x1 then
        (none)
        else
        (if (122 : Int32) < (σ.1 36 0 (Int32.toNatClampNeg x1)) then
          (some (.inl (some (zI 0)), σ))
          else
          (some (.inl (some (zI 1)), σ))))))
  else
  (some (.inl (some (zI 0)), σ))) := (zrun_eq _ _ _).trans ((zun_eq zK_X6_isSmall [] 20 _ _).trans rfl)
theorem e_X6_passes_7 (i0 : Nat) (i1 : Nat) (x2 : Int32) (σ : zSt) : zX zP zK_X6_passes (7, [zR 16 i0, zR 1 i1, zI x2], []) σ = (
  if x2 < (Int32.ofNat (zstr i1).length) then
  (zcI (zrun zP 170 [zR 16 i0, zI ((σ.1 16 i0 12) + x2)] σ) (fun r1 s1 =>
    if r1 = 0 then
      (some (.inl (some (zI 0)), s1))
      else
      (if ((s1.1 16 i0 12) + x2) < 0 ∨ 400 ≤ Int32.toNatClampNeg ((s1.1 16 i0 12) + x2) then
        (none)
        else
        (if x2 < 0 ∨ (zstr i1).length ≤ Int32.toNatClampNeg x2 then
          (none)
          else
          (if (s1.1 36 0 (Int32.toNatClampNeg ((s1.1 16 i0 12) + x2))) = ((zstr i1).getD (Int32.toNatClampNeg x2) 0) then
            (zX zP zK_X6_passes (7, [zR 16 i0, zR 1 i1, zI (x2 + 1)], []) s1)
            else
            (some (.inl (some (zI 0)), s1)))))))
  else
  (zcI (zrun zP 170 [zR 16 i0, zI ((σ.1 16 i0 12) + (Int32.ofNat (zstr i1).length))] σ) (fun r2 s2 =>
    if r2 = 0 then
      (some (.inl (some (zI 1)), (zms (zms s2.1 16 i0 13 (s2.1 16 i0 12)) 16 i0 12 (((zms s2.1 16 i0 13 (s2.1 16 i0 12)) 16 i0 12) + (Int32.ofNat (zstr i1).length)), s2.2)))
      else
      (some (.inl (some (zI 0)), s2))))) := (zun_eq zK_X6_passes [7] 26 _ _).trans rfl
theorem e_X6_passes (i0 : Nat) (i1 : Nat) (σ : zSt) : zrun zP 171 [zR 16 i0, zR 1 i1] σ = (
  zcI (zrun zP 169 [zR 16 i0] σ) (fun r1 s1 =>
  zX zP zK_X6_passes (7, [zR 16 i0, zR 1 i1, zI 0], []) s1)) := (zrun_eq _ _ _).trans ((zun_eq zK_X6_passes [7] 6 _ _).trans rfl)
theorem e_X6_word_18 (i0 : Nat) (x1 : Int32) (x2 : Int32) (x3 : Int32) (x4 : Int32) (v5 : zAV) (σ : zSt) : zX zP zK_X6_word (18, [zR 16 i0, zI x1, zI x2, zI x3, zI x4, v5], []) σ = (
  zcI (zrun zP 170 [zR 16 i0, zI ((σ.1 16 i0 12) + x3)] σ) (fun r1 s1 =>
  if r1 = 0 then
    (if x3 = 0 then
      (zcV (zrun zP 168 [zR 16 i0, zI 1, zI (s1.1 16 i0 13)] s1) (fun s2 =>
        zX zP zK_X6_word (102, [zR 16 i0, zI x1, zI x2, zI x3, zI x4, zI x3], []) (zms s2.1 16 i0 12 ((s2.1 16 i0 12) + x3), s2.2)))
      else
      (if x1 < x3 then
        (zcV (zrun zP 168 [zR 16 i0, zI 1, zI (s1.1 16 i0 13)] s1) (fun s3 =>
          zX zP zK_X6_word (102, [zR 16 i0, zI x1, zI x2, zI x3, zI x4, zI x3], []) (zms s3.1 16 i0 12 ((s3.1 16 i0 12) + x3), s3.2)))
        else
        (zX zP zK_X6_word (102, [zR 16 i0, zI x1, zI x2, zI x3, zI x4, zI x3], []) (zms s1.1 16 i0 12 ((s1.1 16 i0 12) + x3), s1.2))))
    else
    (if x3 < x1 then
      (if ((s1.1 16 i0 12) + x3) < 0 ∨ 400 ≤ Int32.toNatClampNeg ((s1.1 16 i0 12) + x3) then
        (none)
        else
        (zX zP zK_X6_word (18, [zR 16 i0, zI x1, zI x2, zI (x3 + 1), zI ((((32 * x4) + (s1.1 36 0 (Int32.toNatClampNeg ((s1.1 16 i0 12) + x3)))) - 97) + 1), v5], []) s1))
      else
      (zX zP zK_X6_word (18, [zR 16 i0, zI x1, zI x2, zI (x3 + 1), zI x4, v5], []) s1)))) := (zun_eq zK_X6_word [18, 102] 30 _ _).trans rfl
theorem e_X6_word_102 (i0 : Nat) (x1 : Int32) (x2 : Int32) (x3 : Int32) (x4 : Int32) (x5 : Int32) (σ : zSt) : zX zP zK_X6_word (102, [zR 16 i0, zI x1, zI x2, zI x3, zI x4, zI x5], []) σ = (
  if x2 = 0 then
  (some (.inl (some (zI x4)), σ))
  else
  (if x5 < x1 then
    (zX zP zK_X6_word (102, [zR 16 i0, zI x1, zI x2, zI x3, zI (x4 * 32), zI (x5 + 1)], []) σ)
    else
    (some (.inl (some (zI x4)), σ)))) := (zun_eq zK_X6_word [18, 102] 12 _ _).trans rfl
theorem e_X6_word (i0 : Nat) (x1 : Int32) (x2 : Int32) (σ : zSt) : zrun zP 172 [zR 16 i0, zI x1, zI x2] σ = (
  zcI (zrun zP 169 [zR 16 i0] σ) (fun r1 s1 =>
  zX zP zK_X6_word (18, [zR 16 i0, zI x1, zI x2, zI 0, zI 0, zJunk], []) (zms s1.1 16 i0 13 (s1.1 16 i0 12), s1.2))) := (zrun_eq _ _ _).trans ((zun_eq zK_X6_word [18, 102] 12 _ _).trans rfl)
theorem e_X6_isWordHere (i0 : Nat) (σ : zSt) : zrun zP 173 [zR 16 i0] σ = (
  zcI (zrun zP 169 [zR 16 i0] σ) (fun r1 s1 =>
  if (s1.1 16 i0 14) = 0 then
    (zcI (zrun zP 170 [zR 16 i0, zI (s1.1 16 i0 12)] s1) (fun r2 s2 =>
      if r2 = 0 then
        (some (.inl (some (zI 0)), s2))
        else
        (some (.inl (some (zI 1)), s2))))
    else
    (some (.inl (some (zI 0)), s1)))) := (zrun_eq _ _ _).trans ((zun_eq zK_X6_isWordHere [] 15 _ _).trans rfl)
theorem e_X6_number_50 (i0 : Nat) (x1 : Int32) (x2 : Int32) (x3 : Int32) (x4 : Int32) (σ : zSt) : zX zP zK_X6_number (50, [zR 16 i0, zI x1, zI x2, zI x3, zI x4], []) σ = (
  if (σ.1 16 i0 12) < (σ.1 16 i0 11) then
  (if (σ.1 16 i0 12) < 0 ∨ 400 ≤ Int32.toNatClampNeg (σ.1 16 i0 12) then
    (none)
    else
    (if (σ.1 36 0 (Int32.toNatClampNeg (σ.1 16 i0 12))) < 48 then
      (zcI (zrun zP 137 [zI x4, zI x1, zI 999] σ) (fun r1 s1 =>
        if r1 = 0 then
          (zcV (zrun zP 168 [zR 16 i0, zI 2, zI x3] s1) (fun s2 =>
            some (.inl (some (zI x4)), s2)))
          else
          (some (.inl (some (zI x4)), s1))))
      else
      (if (σ.1 16 i0 12) < 0 ∨ 400 ≤ Int32.toNatClampNeg (σ.1 16 i0 12) then
        (none)
        else
        (if (57 : Int32) < (σ.1 36 0 (Int32.toNatClampNeg (σ.1 16 i0 12))) then
          (zcI (zrun zP 137 [zI x4, zI x1, zI 999] σ) (fun r3 s3 =>
            if r3 = 0 then
              (zcV (zrun zP 168 [zR 16 i0, zI 2, zI x3] s3) (fun s4 =>
                some (.inl (some (zI x4)), s4)))
              else
              (some (.inl (some (zI x4)), s3))))
          else
          (if (σ.1 16 i0 12) < 0 ∨ 400 ≤ Int32.toNatClampNeg (σ.1 16 i0 12) then
            (none)
            else
            (zX zP zK_X6_number (50, [zR 16 i0, zI x1, zI x2, zI x3, zI (if 100000 < (((10 * x4) + (σ.1 36 0 (Int32.toNatClampNeg (σ.1 16 i0 12)))) - 48) then 100000 else (((10 * x4) + (σ.1 36 0 (Int32.toNatClampNeg (σ.1 16 i0 12)))) - 48))], []) (zms σ.1 16 i0 12 ((σ.1 16 i0 12) + 1), σ.2)))))))
  else
  (zcI (zrun zP 137 [zI x4, zI x1, zI 999] σ) (fun r5 s5 =>
    if r5 = 0 then
      (zcV (zrun zP 168 [zR 16 i0, zI 2, zI x3] s5) (fun s6 =>
        some (.inl (some (zI x4)), s6)))
      else
      (some (.inl (some (zI x4)), s5))))) := (zun_eq zK_X6_number [50] 41 _ _).trans rfl
theorem e_X6_number (i0 : Nat) (x1 : Int32) (σ : zSt) : zrun zP 174 [zR 16 i0, zI x1] σ = (
  zcI (zrun zP 169 [zR 16 i0] σ) (fun r1 s1 =>
  if (s1.1 16 i0 14) = 0 then
    (if r1 < 48 then
      (zcV (zrun zP 168 [zR 16 i0, zI 1, zI (s1.1 16 i0 12)] s1) (fun s2 =>
        if (0 : Int32) < (s2.1 16 i0 14) then
          (some (.inl (some (zI 0)), s2))
          else
          (zX zP zK_X6_number (50, [zR 16 i0, zI x1, zI r1, zI (s2.1 16 i0 12), zI 0], []) s2)))
      else
      (if (57 : Int32) < r1 then
        (zcV (zrun zP 168 [zR 16 i0, zI 1, zI (s1.1 16 i0 12)] s1) (fun s3 =>
          if (0 : Int32) < (s3.1 16 i0 14) then
            (some (.inl (some (zI 0)), s3))
            else
            (zX zP zK_X6_number (50, [zR 16 i0, zI x1, zI r1, zI (s3.1 16 i0 12), zI 0], []) s3)))
        else
        (if (0 : Int32) < (s1.1 16 i0 14) then
          (some (.inl (some (zI 0)), s1))
          else
          (zX zP zK_X6_number (50, [zR 16 i0, zI x1, zI r1, zI (s1.1 16 i0 12), zI 0], []) s1))))
    else
    (if (0 : Int32) < (s1.1 16 i0 14) then
      (some (.inl (some (zI 0)), s1))
      else
      (zX zP zK_X6_number (50, [zR 16 i0, zI x1, zI r1, zI (s1.1 16 i0 12), zI 0], []) s1)))) := (zrun_eq _ _ _).trans ((zun_eq zK_X6_number [50] 26 _ _).trans rfl)
theorem e_X6_tierNamed_2 (i0 : Nat) (k1 i1 : Nat) (x2 : Int32) (x3 : Int32) (σ : zSt) : zX zP zK_X6_tierNamed (2, [zR 16 i0, zR (k1 + 1) i1, zI x2, zI x3], []) σ = (
  if (0 : Int32) < 0 ∨ zlenI (k1 + 1) i1 ≤ Int32.toNatClampNeg 0 then
  (none)
  else
  (if x3 < (σ.1 (k1 + 1) i1 (Int32.toNatClampNeg 0)) then
    (zcI (zrun zP 139 [zI x3, zI 3] σ) (fun r1 s1 =>
      if r1 < 0 ∨ zlenI (k1 + 1) i1 ≤ Int32.toNatClampNeg r1 then
        (none)
        else
        (if (s1.1 (k1 + 1) i1 (Int32.toNatClampNeg r1)) = x2 then
          (some (.inl (some (zI x3)), s1))
          else
          (zX zP zK_X6_tierNamed (2, [zR 16 i0, zR (k1 + 1) i1, zI x2, zI (x3 + 1)], []) s1))))
    else
    (some (.inl (some (zI (-1))), σ)))) := (zun_eq zK_X6_tierNamed [2] 15 _ _).trans rfl
theorem e_X6_tierNamed (i0 : Nat) (k1 i1 : Nat) (x2 : Int32) (σ : zSt) : zrun zP 175 [zR 16 i0, zR (k1 + 1) i1, zI x2] σ = (
  zX zP zK_X6_tierNamed (2, [zR 16 i0, zR (k1 + 1) i1, zI x2, zI 0], []) σ) := (zrun_eq _ _ _).trans ((zun_eq zK_X6_tierNamed [2] 3 _ _).trans rfl)
theorem e_X6_known (i0 : Nat) (σ : zSt) : zrun zP 176 [zR 16 i0] σ = (
  zcI (zrun zP 172 [zR 16 i0, zI 6, zI 1] σ) (fun r1 s1 =>
  if (s1.1 16 i0 14) = 0 then
    (zcI (zrun zP 175 [zR 16 i0, zR 31 0, zI r1] s1) (fun r2 s2 =>
      if r2 = (-1) then
        (zcV (zrun zP 168 [zR 16 i0, zI 5, zI (s2.1 16 i0 13)] s2) (fun s3 =>
          if (s3.1 16 i0 14) = 0 then
            (some (.inl (some (zI r2)), s3))
            else
            (some (.inl (some (zI 0)), s3))))
        else
        (if (s2.1 16 i0 14) = 0 then
          (some (.inl (some (zI r2)), s2))
          else
          (some (.inl (some (zI 0)), s2)))))
    else
    (if (0 : Int32) = (-1) then
      (zcV (zrun zP 168 [zR 16 i0, zI 5, zI (s1.1 16 i0 13)] s1) (fun s4 =>
        if (s4.1 16 i0 14) = 0 then
          (some (.inl (some (zI 0)), s4))
          else
          (some (.inl (some (zI 0)), s4))))
      else
      (if (s1.1 16 i0 14) = 0 then
        (some (.inl (some (zI 0)), s1))
        else
        (some (.inl (some (zI 0)), s1)))))) := (zrun_eq _ _ _).trans ((zun_eq zK_X6_known [] 30 _ _).trans rfl)
theorem e_X6_labelHere (i0 : Nat) (σ : zSt) : zrun zP 178 [zR 16 i0] σ = (
  zcI (zrun zP 173 [zR 16 i0] σ) (fun r1 s1 =>
  if r1 = 0 then
    (some (.inl (some (zI 0)), s1))
    else
    (zcI (zrun zP 172 [zR 16 i0, zI 4, zI 0] s1) (fun r2 s2 =>
      some (.inl (some (zI r2)), s2))))) := (zrun_eq _ _ _).trans ((zun_eq zK_X6_labelHere [] 10 _ _).trans rfl)
theorem e_X6_markTold (i0 : Nat) (σ : zSt) : zrun zP 179 [zR 16 i0] σ = (
  zcI (zrun zP 176 [zR 16 i0] σ) (fun r1 s1 =>
  zcI (zrun zP 174 [zR 16 i0, zI 0] s1) (fun r2 s2 =>
    if (s2.1 16 i0 14) = 0 then
      (zcI (zrun zP 174 [zR 16 i0, zI (r2 + 1)] s2) (fun r3 s3 =>
        if (s3.1 16 i0 14) = 0 then
          (zcI (zrun zP 156 [zR 16 i0, zI r1, zI r2, zI r3] s3) (fun r4 s4 =>
            if r4 = 0 then
              (zcV (zrun zP 168 [zR 16 i0, zI 6, zI (s1.1 16 i0 13)] s4) (fun s5 =>
                if (s5.1 16 i0 14) = 0 then
                  (zcI (zrun zP 158 [zR 16 i0, zI r1] s5) (fun r6 s6 =>
                    if r6 = 0 then
                      (zcV (zrun zP 168 [zR 16 i0, zI 3, zI (s1.1 16 i0 13)] s6) (fun s7 =>
                        zcI (zrun zP 178 [zR 16 i0] s7) (fun r8 s8 =>
                          if (s8.1 16 i0 14) = 0 then
                            (zcI (zrun zP 159 [zR 16 i0, zI r1, zI r2, zI r3, zI r8] s8) (fun r9 s9 =>
                              some (.inl none, s9)))
                            else
                            (some (.inl none, s8)))))
                      else
                      (zcI (zrun zP 178 [zR 16 i0] s6) (fun r10 s10 =>
                        if (s10.1 16 i0 14) = 0 then
                          (zcI (zrun zP 159 [zR 16 i0, zI r1, zI r2, zI r3, zI r10] s10) (fun r11 s11 =>
                            some (.inl none, s11)))
                          else
                          (some (.inl none, s10))))))
                  else
                  (zcI (zrun zP 178 [zR 16 i0] s5) (fun r12 s12 =>
                    if (s12.1 16 i0 14) = 0 then
                      (zcI (zrun zP 159 [zR 16 i0, zI r1, zI r2, zI r3, zI r12] s12) (fun r13 s13 =>
                        some (.inl none, s13)))
                      else
                      (some (.inl none, s12))))))
              else
              (if (s4.1 16 i0 14) = 0 then
                (zcI (zrun zP 158 [zR 16 i0, zI r1] s4) (fun r14 s14 =>
                  if r14 = 0 then
                    (zcV (zrun zP 168 [zR 16 i0, zI 3, zI (s1.1 16 i0 13)] s14) (fun s15 =>
                      zcI (zrun zP 178 [zR 16 i0] s15) (fun r16 s16 =>
                        if (s16.1 16 i0 14) = 0 then
                          (zcI (zrun zP 159 [zR 16 i0, zI r1, zI r2, zI r3, zI r16] s16) (fun r17 s17 =>
                            some (.inl none, s17)))
                          else
                          (some (.inl none, s16)))))
                    else
                    (zcI (zrun zP 178 [zR 16 i0] s14) (fun r18 s18 =>
                      if (s18.1 16 i0 14) = 0 then
                        (zcI (zrun zP 159 [zR 16 i0, zI r1, zI r2, zI r3, zI r18] s18) (fun r19 s19 =>
                          some (.inl none, s19)))
                        else
                        (some (.inl none, s18))))))
                else
                (zcI (zrun zP 178 [zR 16 i0] s4) (fun r20 s20 =>
                  if (s20.1 16 i0 14) = 0 then
                    (zcI (zrun zP 159 [zR 16 i0, zI r1, zI r2, zI r3, zI r20] s20) (fun r21 s21 =>
                      some (.inl none, s21)))
                    else
                    (some (.inl none, s20)))))))
          else
          (if (s3.1 16 i0 14) = 0 then
            (zcI (zrun zP 158 [zR 16 i0, zI r1] s3) (fun r22 s22 =>
              if r22 = 0 then
                (zcV (zrun zP 168 [zR 16 i0, zI 3, zI (s1.1 16 i0 13)] s22) (fun s23 =>
                  zcI (zrun zP 178 [zR 16 i0] s23) (fun r24 s24 =>
                    if (s24.1 16 i0 14) = 0 then
                      (zcI (zrun zP 159 [zR 16 i0, zI r1, zI r2, zI r3, zI r24] s24) (fun r25 s25 =>
                        some (.inl none, s25)))
                      else
                      (some (.inl none, s24)))))
                else
                (zcI (zrun zP 178 [zR 16 i0] s22) (fun r26 s26 =>
                  if (s26.1 16 i0 14) = 0 then
                    (zcI (zrun zP 159 [zR 16 i0, zI r1, zI r2, zI r3, zI r26] s26) (fun r27 s27 =>
                      some (.inl none, s27)))
                    else
                    (some (.inl none, s26))))))
            else
            (zcI (zrun zP 178 [zR 16 i0] s3) (fun r28 s28 =>
              if (s28.1 16 i0 14) = 0 then
                (zcI (zrun zP 159 [zR 16 i0, zI r1, zI r2, zI r3, zI r28] s28) (fun r29 s29 =>
                  some (.inl none, s29)))
                else
                (some (.inl none, s28)))))))
      else
      (zcI (zrun zP 174 [zR 16 i0, zI 0] s2) (fun r30 s30 =>
        if (s30.1 16 i0 14) = 0 then
          (zcI (zrun zP 156 [zR 16 i0, zI r1, zI r2, zI r30] s30) (fun r31 s31 =>
            if r31 = 0 then
              (zcV (zrun zP 168 [zR 16 i0, zI 6, zI (s1.1 16 i0 13)] s31) (fun s32 =>
                if (s32.1 16 i0 14) = 0 then
                  (zcI (zrun zP 158 [zR 16 i0, zI r1] s32) (fun r33 s33 =>
                    if r33 = 0 then
                      (zcV (zrun zP 168 [zR 16 i0, zI 3, zI (s1.1 16 i0 13)] s33) (fun s34 =>
                        zcI (zrun zP 178 [zR 16 i0] s34) (fun r35 s35 =>
                          if (s35.1 16 i0 14) = 0 then
                            (zcI (zrun zP 159 [zR 16 i0, zI r1, zI r2, zI r30, zI r35] s35) (fun r36 s36 =>
                              some (.inl none, s36)))
                            else
                            (some (.inl none, s35)))))
                      else
                      (zcI (zrun zP 178 [zR 16 i0] s33) (fun r37 s37 =>
                        if (s37.1 16 i0 14) = 0 then
                          (zcI (zrun zP 159 [zR 16 i0, zI r1, zI r2, zI r30, zI r37] s37) (fun r38 s38 =>
                            some (.inl none, s38)))
                          else
                          (some (.inl none, s37))))))
                  else
                  (zcI (zrun zP 178 [zR 16 i0] s32) (fun r39 s39 =>
                    if (s39.1 16 i0 14) = 0 then
                      (zcI (zrun zP 159 [zR 16 i0, zI r1, zI r2, zI r30, zI r39] s39) (fun r40 s40 =>
                        some (.inl none, s40)))
                      else
                      (some (.inl none, s39))))))
              else
              (if (s31.1 16 i0 14) = 0 then
                (zcI (zrun zP 158 [zR 16 i0, zI r1] s31) (fun r41 s41 =>
                  if r41 = 0 then
                    (zcV (zrun zP 168 [zR 16 i0, zI 3, zI (s1.1 16 i0 13)] s41) (fun s42 =>
                      zcI (zrun zP 178 [zR 16 i0] s42) (fun r43 s43 =>
                        if (s43.1 16 i0 14) = 0 then
                          (zcI (zrun zP 159 [zR 16 i0, zI r1, zI r2, zI r30, zI r43] s43) (fun r44 s44 =>
                            some (.inl none, s44)))
                          else
                          (some (.inl none, s43)))))
                    else
                    (zcI (zrun zP 178 [zR 16 i0] s41) (fun r45 s45 =>
                      if (s45.1 16 i0 14) = 0 then
                        (zcI (zrun zP 159 [zR 16 i0, zI r1, zI r2, zI r30, zI r45] s45) (fun r46 s46 =>
                          some (.inl none, s46)))
                        else
                        (some (.inl none, s45))))))
                else
                (zcI (zrun zP 178 [zR 16 i0] s31) (fun r47 s47 =>
                  if (s47.1 16 i0 14) = 0 then
                    (zcI (zrun zP 159 [zR 16 i0, zI r1, zI r2, zI r30, zI r47] s47) (fun r48 s48 =>
                      some (.inl none, s48)))
                    else
                    (some (.inl none, s47)))))))
          else
          (if (s30.1 16 i0 14) = 0 then
            (zcI (zrun zP 158 [zR 16 i0, zI r1] s30) (fun r49 s49 =>
              if r49 = 0 then
                (zcV (zrun zP 168 [zR 16 i0, zI 3, zI (s1.1 16 i0 13)] s49) (fun s50 =>
                  zcI (zrun zP 178 [zR 16 i0] s50) (fun r51 s51 =>
                    if (s51.1 16 i0 14) = 0 then
                      (zcI (zrun zP 159 [zR 16 i0, zI r1, zI r2, zI r30, zI r51] s51) (fun r52 s52 =>
                        some (.inl none, s52)))
                      else
                      (some (.inl none, s51)))))
                else
                (zcI (zrun zP 178 [zR 16 i0] s49) (fun r53 s53 =>
                  if (s53.1 16 i0 14) = 0 then
                    (zcI (zrun zP 159 [zR 16 i0, zI r1, zI r2, zI r30, zI r53] s53) (fun r54 s54 =>
                      some (.inl none, s54)))
                    else
                    (some (.inl none, s53))))))
            else
            (zcI (zrun zP 178 [zR 16 i0] s30) (fun r55 s55 =>
              if (s55.1 16 i0 14) = 0 then
                (zcI (zrun zP 159 [zR 16 i0, zI r1, zI r2, zI r30, zI r55] s55) (fun r56 s56 =>
                  some (.inl none, s56)))
                else
                (some (.inl none, s55)))))))))) := (zrun_eq _ _ _).trans ((zun_eq zK_X6_markTold [] 59 _ _).trans rfl)
theorem e_X6_pointTold (i0 : Nat) (σ : zSt) : zrun zP 180 [zR 16 i0] σ = (
  zcI (zrun zP 176 [zR 16 i0] σ) (fun r1 s1 =>
  zcI (zrun zP 174 [zR 16 i0, zI 0] s1) (fun r2 s2 =>
    if (s2.1 16 i0 14) = 0 then
      (zcI (zrun zP 160 [zR 16 i0, zI r1, zI r2] s2) (fun r3 s3 =>
        if r3 = 0 then
          (zcV (zrun zP 168 [zR 16 i0, zI 6, zI (s1.1 16 i0 13)] s3) (fun s4 =>
            if (s4.1 16 i0 14) = 0 then
              (zcI (zrun zP 142 [zR 16 i0, zI r1] s4) (fun r5 s5 =>
                if r5 = 40 then
                  (zcV (zrun zP 168 [zR 16 i0, zI 3, zI (s1.1 16 i0 13)] s5) (fun s6 =>
                    zcI (zrun zP 178 [zR 16 i0] s6) (fun r7 s7 =>
                      if (s7.1 16 i0 14) = 0 then
                        (zcI (zrun zP 153 [zR 16 i0, zI r1, zI r2, zI r2, zI r7] s7) (fun r8 s8 =>
                          some (.inl none, s8)))
                        else
                        (some (.inl none, s7)))))
                  else
                  (zcI (zrun zP 178 [zR 16 i0] s5) (fun r9 s9 =>
                    if (s9.1 16 i0 14) = 0 then
                      (zcI (zrun zP 153 [zR 16 i0, zI r1, zI r2, zI r2, zI r9] s9) (fun r10 s10 =>
                        some (.inl none, s10)))
                      else
                      (some (.inl none, s9))))))
              else
              (zcI (zrun zP 178 [zR 16 i0] s4) (fun r11 s11 =>
                if (s11.1 16 i0 14) = 0 then
                  (zcI (zrun zP 153 [zR 16 i0, zI r1, zI r2, zI r2, zI r11] s11) (fun r12 s12 =>
                    some (.inl none, s12)))
                  else
                  (some (.inl none, s11))))))
          else
          (if (s3.1 16 i0 14) = 0 then
            (zcI (zrun zP 142 [zR 16 i0, zI r1] s3) (fun r13 s13 =>
              if r13 = 40 then
                (zcV (zrun zP 168 [zR 16 i0, zI 3, zI (s1.1 16 i0 13)] s13) (fun s14 =>
                  zcI (zrun zP 178 [zR 16 i0] s14) (fun r15 s15 =>
                    if (s15.1 16 i0 14) = 0 then
                      (zcI (zrun zP 153 [zR 16 i0, zI r1, zI r2, zI r2, zI r15] s15) (fun r16 s16 =>
                        some (.inl none, s16)))
                      else
                      (some (.inl none, s15)))))
                else
                (zcI (zrun zP 178 [zR 16 i0] s13) (fun r17 s17 =>
                  if (s17.1 16 i0 14) = 0 then
                    (zcI (zrun zP 153 [zR 16 i0, zI r1, zI r2, zI r2, zI r17] s17) (fun r18 s18 =>
                      some (.inl none, s18)))
                    else
                    (some (.inl none, s17))))))
            else
            (zcI (zrun zP 178 [zR 16 i0] s3) (fun r19 s19 =>
              if (s19.1 16 i0 14) = 0 then
                (zcI (zrun zP 153 [zR 16 i0, zI r1, zI r2, zI r2, zI r19] s19) (fun r20 s20 =>
                  some (.inl none, s20)))
                else
                (some (.inl none, s19)))))))
      else
      (if (s2.1 16 i0 14) = 0 then
        (zcI (zrun zP 142 [zR 16 i0, zI r1] s2) (fun r21 s21 =>
          if r21 = 40 then
            (zcV (zrun zP 168 [zR 16 i0, zI 3, zI (s1.1 16 i0 13)] s21) (fun s22 =>
              zcI (zrun zP 178 [zR 16 i0] s22) (fun r23 s23 =>
                if (s23.1 16 i0 14) = 0 then
                  (zcI (zrun zP 153 [zR 16 i0, zI r1, zI r2, zI r2, zI r23] s23) (fun r24 s24 =>
                    some (.inl none, s24)))
                  else
                  (some (.inl none, s23)))))
            else
            (zcI (zrun zP 178 [zR 16 i0] s21) (fun r25 s25 =>
              if (s25.1 16 i0 14) = 0 then
                (zcI (zrun zP 153 [zR 16 i0, zI r1, zI r2, zI r2, zI r25] s25) (fun r26 s26 =>
                  some (.inl none, s26)))
                else
                (some (.inl none, s25))))))
        else
        (zcI (zrun zP 178 [zR 16 i0] s2) (fun r27 s27 =>
          if (s27.1 16 i0 14) = 0 then
            (zcI (zrun zP 153 [zR 16 i0, zI r1, zI r2, zI r2, zI r27] s27) (fun r28 s28 =>
              some (.inl none, s28)))
            else
            (some (.inl none, s27)))))))) := (zrun_eq _ _ _).trans ((zun_eq zK_X6_pointTold [] 49 _ _).trans rfl)
theorem e_X6_splitTold (i0 : Nat) (σ : zSt) : zrun zP 181 [zR 16 i0] σ = (
  zcI (zrun zP 176 [zR 16 i0] σ) (fun r1 s1 =>
  zcI (zrun zP 174 [zR 16 i0, zI 0] s1) (fun r2 s2 =>
    if (s2.1 16 i0 14) = 0 then
      (zcI (zrun zP 140 [zR 16 i0, zI r1] s2) (fun r3 s3 =>
        if r3 = 3 then
          (zcV (zrun zP 168 [zR 16 i0, zI 6, zI (s1.1 16 i0 13)] s3) (fun s4 =>
            if (s4.1 16 i0 14) = 0 then
              (zcI (zrun zP 163 [zR 16 i0, zI r1, zI r2] s4) (fun r5 s5 =>
                if r5 = 0 then
                  (zcV (zrun zP 168 [zR 16 i0, zI 3, zI (s1.1 16 i0 13)] s5) (fun s6 =>
                    zcI (zrun zP 173 [zR 16 i0] s6) (fun r7 s7 =>
                      zcI (zrun zP 178 [zR 16 i0] s7) (fun r8 s8 =>
                        if (0 : Int32) < (s8.1 16 i0 14) then
                          (some (.inl none, s8))
                          else
                          (zcI (zrun zP 162 [zR 16 i0, zI r1, zI r2] s8) (fun r9 s9 =>
                            zcI (zrun zP 165 [zR 16 i0, zI r1, zI r2] s9) (fun r10 s10 =>
                              if r7 = 0 then
                                (some (.inl none, s10))
                                else
                                (zcI (zrun zP 143 [zI r1, zI (r9 + 1), zI 2] s10) (fun r11 s11 =>
                                  if r11 < 0 ∨ 745 ≤ Int32.toNatClampNeg r11 then
                                    (none)
                                    else
                                    (some (.inl none, (zms s11.1 31 0 (Int32.toNatClampNeg r11) r8, s11.2))))))))))))
                  else
                  (zcI (zrun zP 173 [zR 16 i0] s5) (fun r12 s12 =>
                    zcI (zrun zP 178 [zR 16 i0] s12) (fun r13 s13 =>
                      if (0 : Int32) < (s13.1 16 i0 14) then
                        (some (.inl none, s13))
                        else
                        (zcI (zrun zP 162 [zR 16 i0, zI r1, zI r2] s13) (fun r14 s14 =>
                          zcI (zrun zP 165 [zR 16 i0, zI r1, zI r2] s14) (fun r15 s15 =>
                            if r12 = 0 then
                              (some (.inl none, s15))
                              else
                              (zcI (zrun zP 143 [zI r1, zI (r14 + 1), zI 2] s15) (fun r16 s16 =>
                                if r16 < 0 ∨ 745 ≤ Int32.toNatClampNeg r16 then
                                  (none)
                                  else
                                  (some (.inl none, (zms s16.1 31 0 (Int32.toNatClampNeg r16) r13, s16.2)))))))))))))
              else
              (zcI (zrun zP 173 [zR 16 i0] s4) (fun r17 s17 =>
                zcI (zrun zP 178 [zR 16 i0] s17) (fun r18 s18 =>
                  if (0 : Int32) < (s18.1 16 i0 14) then
                    (some (.inl none, s18))
                    else
                    (zcI (zrun zP 162 [zR 16 i0, zI r1, zI r2] s18) (fun r19 s19 =>
                      zcI (zrun zP 165 [zR 16 i0, zI r1, zI r2] s19) (fun r20 s20 =>
                        if r17 = 0 then
                          (some (.inl none, s20))
                          else
                          (zcI (zrun zP 143 [zI r1, zI (r19 + 1), zI 2] s20) (fun r21 s21 =>
                            if r21 < 0 ∨ 745 ≤ Int32.toNatClampNeg r21 then
                              (none)
                              else
                              (some (.inl none, (zms s21.1 31 0 (Int32.toNatClampNeg r21) r18, s21.2)))))))))))))
          else
          (zcI (zrun zP 162 [zR 16 i0, zI r1, zI r2] s3) (fun r22 s22 =>
            if r22 = (-1) then
              (zcV (zrun zP 168 [zR 16 i0, zI 6, zI (s1.1 16 i0 13)] s22) (fun s23 =>
                if (s23.1 16 i0 14) = 0 then
                  (zcI (zrun zP 163 [zR 16 i0, zI r1, zI r2] s23) (fun r24 s24 =>
                    if r24 = 0 then
                      (zcV (zrun zP 168 [zR 16 i0, zI 3, zI (s1.1 16 i0 13)] s24) (fun s25 =>
                        zcI (zrun zP 173 [zR 16 i0] s25) (fun r26 s26 =>
                          zcI (zrun zP 178 [zR 16 i0] s26) (fun r27 s27 =>
                            if (0 : Int32) < (s27.1 16 i0 14) then
                              (some (.inl none, s27))
                              else
                              (zcI (zrun zP 162 [zR 16 i0, zI r1, zI r2] s27) (fun r28 s28 =>
                                zcI (zrun zP 165 [zR 16 i0, zI r1, zI r2] s28) (fun r29 s29 =>
                                  if r26 = 0 then
                                    (some (.inl none, s29))
                                    else
                                    (zcI (zrun zP 143 [zI r1, zI (r28 + 1), zI 2] s29) (fun r30 s30 =>
                                      if r30 < 0 ∨ 745 ≤ Int32.toNatClampNeg r30 then
                                        (none)
                                        else
                                        (some (.inl none, (zms s30.1 31 0 (Int32.toNatClampNeg r30) r27, s30.2))))))))))))
                      else
                      (zcI (zrun zP 173 [zR 16 i0] s24) (fun r31 s31 =>
                        zcI (zrun zP 178 [zR 16 i0] s31) (fun r32 s32 =>
                          if (0 : Int32) < (s32.1 16 i0 14) then
                            (some (.inl none, s32))
                            else
                            (zcI (zrun zP 162 [zR 16 i0, zI r1, zI r2] s32) (fun r33 s33 =>
                              zcI (zrun zP 165 [zR 16 i0, zI r1, zI r2] s33) (fun r34 s34 =>
                                if r31 = 0 then
                                  (some (.inl none, s34))
                                  else
                                  (zcI (zrun zP 143 [zI r1, zI (r33 + 1), zI 2] s34) (fun r35 s35 =>
                                    if r35 < 0 ∨ 745 ≤ Int32.toNatClampNeg r35 then
                                      (none)
                                      else
                                      (some (.inl none, (zms s35.1 31 0 (Int32.toNatClampNeg r35) r32, s35.2)))))))))))))
                  else
                  (zcI (zrun zP 173 [zR 16 i0] s23) (fun r36 s36 =>
                    zcI (zrun zP 178 [zR 16 i0] s36) (fun r37 s37 =>
                      if (0 : Int32) < (s37.1 16 i0 14) then
                        (some (.inl none, s37))
                        else
                        (zcI (zrun zP 162 [zR 16 i0, zI r1, zI r2] s37) (fun r38 s38 =>
                          zcI (zrun zP 165 [zR 16 i0, zI r1, zI r2] s38) (fun r39 s39 =>
                            if r36 = 0 then
                              (some (.inl none, s39))
                              else
                              (zcI (zrun zP 143 [zI r1, zI (r38 + 1), zI 2] s39) (fun r40 s40 =>
                                if r40 < 0 ∨ 745 ≤ Int32.toNatClampNeg r40 then
                                  (none)
                                  else
                                  (some (.inl none, (zms s40.1 31 0 (Int32.toNatClampNeg r40) r37, s40.2)))))))))))))
              else
              (zcI (zrun zP 161 [zR 16 i0, zI r1, zI r2] s22) (fun r41 s41 =>
                if r41 = 0 then
                  (zcV (zrun zP 168 [zR 16 i0, zI 6, zI (s1.1 16 i0 13)] s41) (fun s42 =>
                    if (s42.1 16 i0 14) = 0 then
                      (zcI (zrun zP 163 [zR 16 i0, zI r1, zI r2] s42) (fun r43 s43 =>
                        if r43 = 0 then
                          (zcV (zrun zP 168 [zR 16 i0, zI 3, zI (s1.1 16 i0 13)] s43) (fun s44 =>
                            zcI (zrun zP 173 [zR 16 i0] s44) (fun r45 s45 =>
                              zcI (zrun zP 178 [zR 16 i0] s45) (fun r46 s46 =>
                                if (0 : Int32) < (s46.1 16 i0 14) then
                                  (some (.inl none, s46))
                                  else
                                  (zcI (zrun zP 162 [zR 16 i0, zI r1, zI r2] s46) (fun r47 s47 =>
                                    zcI (zrun zP 165 [zR 16 i0, zI r1, zI r2] s47) (fun r48 s48 =>
                                      if r45 = 0 then
                                        (some (.inl none, s48))
                                        else
                                        (zcI (zrun zP 143 [zI r1, zI (r47 + 1), zI 2] s48) (fun r49 s49 =>
                                          if r49 < 0 ∨ 745 ≤ Int32.toNatClampNeg r49 then
                                            (none)
                                            else
                                            (some (.inl none, (zms s49.1 31 0 (Int32.toNatClampNeg r49) r46, s49.2))))))))))))
                          else
                          (zcI (zrun zP 173 [zR 16 i0] s43) (fun r50 s50 =>
                            zcI (zrun zP 178 [zR 16 i0] s50) (fun r51 s51 =>
                              if (0 : Int32) < (s51.1 16 i0 14) then
                                (some (.inl none, s51))
                                else
                                (zcI (zrun zP 162 [zR 16 i0, zI r1, zI r2] s51) (fun r52 s52 =>
                                  zcI (zrun zP 165 [zR 16 i0, zI r1, zI r2] s52) (fun r53 s53 =>
                                    if r50 = 0 then
                                      (some (.inl none, s53))
                                      else
                                      (zcI (zrun zP 143 [zI r1, zI (r52 + 1), zI 2] s53) (fun r54 s54 =>
                                        if r54 < 0 ∨ 745 ≤ Int32.toNatClampNeg r54 then
                                          (none)
                                          else
                                          (some (.inl none, (zms s54.1 31 0 (Int32.toNatClampNeg r54) r51, s54.2)))))))))))))
                      else
                      (zcI (zrun zP 173 [zR 16 i0] s42) (fun r55 s55 =>
                        zcI (zrun zP 178 [zR 16 i0] s55) (fun r56 s56 =>
                          if (0 : Int32) < (s56.1 16 i0 14) then
                            (some (.inl none, s56))
                            else
                            (zcI (zrun zP 162 [zR 16 i0, zI r1, zI r2] s56) (fun r57 s57 =>
                              zcI (zrun zP 165 [zR 16 i0, zI r1, zI r2] s57) (fun r58 s58 =>
                                if r55 = 0 then
                                  (some (.inl none, s58))
                                  else
                                  (zcI (zrun zP 143 [zI r1, zI (r57 + 1), zI 2] s58) (fun r59 s59 =>
                                    if r59 < 0 ∨ 745 ≤ Int32.toNatClampNeg r59 then
                                      (none)
                                      else
                                      (some (.inl none, (zms s59.1 31 0 (Int32.toNatClampNeg r59) r56, s59.2)))))))))))))
                  else
                  (if (s41.1 16 i0 14) = 0 then
                    (zcI (zrun zP 163 [zR 16 i0, zI r1, zI r2] s41) (fun r60 s60 =>
                      if r60 = 0 then
                        (zcV (zrun zP 168 [zR 16 i0, zI 3, zI (s1.1 16 i0 13)] s60) (fun s61 =>
                          zcI (zrun zP 173 [zR 16 i0] s61) (fun r62 s62 =>
                            zcI (zrun zP 178 [zR 16 i0] s62) (fun r63 s63 =>
                              if (0 : Int32) < (s63.1 16 i0 14) then
                                (some (.inl none, s63))
                                else
                                (zcI (zrun zP 162 [zR 16 i0, zI r1, zI r2] s63) (fun r64 s64 =>
                                  zcI (zrun zP 165 [zR 16 i0, zI r1, zI r2] s64) (fun r65 s65 =>
                                    if r62 = 0 then
                                      (some (.inl none, s65))
                                      else
                                      (zcI (zrun zP 143 [zI r1, zI (r64 + 1), zI 2] s65) (fun r66 s66 =>
                                        if r66 < 0 ∨ 745 ≤ Int32.toNatClampNeg r66 then
                                          (none)
                                          else
                                          (some (.inl none, (zms s66.1 31 0 (Int32.toNatClampNeg r66) r63, s66.2))))))))))))
                        else
                        (zcI (zrun zP 173 [zR 16 i0] s60) (fun r67 s67 =>
                          zcI (zrun zP 178 [zR 16 i0] s67) (fun r68 s68 =>
                            if (0 : Int32) < (s68.1 16 i0 14) then
                              (some (.inl none, s68))
                              else
                              (zcI (zrun zP 162 [zR 16 i0, zI r1, zI r2] s68) (fun r69 s69 =>
                                zcI (zrun zP 165 [zR 16 i0, zI r1, zI r2] s69) (fun r70 s70 =>
                                  if r67 = 0 then
                                    (some (.inl none, s70))
                                    else
                                    (zcI (zrun zP 143 [zI r1, zI (r69 + 1), zI 2] s70) (fun r71 s71 =>
                                      if r71 < 0 ∨ 745 ≤ Int32.toNatClampNeg r71 then
                                        (none)
                                        else
                                        (some (.inl none, (zms s71.1 31 0 (Int32.toNatClampNeg r71) r68, s71.2)))))))))))))
                    else
                    (zcI (zrun zP 173 [zR 16 i0] s41) (fun r72 s72 =>
                      zcI (zrun zP 178 [zR 16 i0] s72) (fun r73 s73 =>
                        if (0 : Int32) < (s73.1 16 i0 14) then
                          (some (.inl none, s73))
                          else
                          (zcI (zrun zP 162 [zR 16 i0, zI r1, zI r2] s73) (fun r74 s74 =>
                            zcI (zrun zP 165 [zR 16 i0, zI r1, zI r2] s74) (fun r75 s75 =>
                              if r72 = 0 then
                                (some (.inl none, s75))
                                else
                                (zcI (zrun zP 143 [zI r1, zI (r74 + 1), zI 2] s75) (fun r76 s76 =>
                                  if r76 < 0 ∨ 745 ≤ Int32.toNatClampNeg r76 then
                                    (none)
                                    else
                                    (some (.inl none, (zms s76.1 31 0 (Int32.toNatClampNeg r76) r73, s76.2))))))))))))))))))
      else
      (if (s2.1 16 i0 14) = 0 then
        (zcI (zrun zP 163 [zR 16 i0, zI r1, zI r2] s2) (fun r77 s77 =>
          if r77 = 0 then
            (zcV (zrun zP 168 [zR 16 i0, zI 3, zI (s1.1 16 i0 13)] s77) (fun s78 =>
              zcI (zrun zP 173 [zR 16 i0] s78) (fun r79 s79 =>
                zcI (zrun zP 178 [zR 16 i0] s79) (fun r80 s80 =>
                  if (0 : Int32) < (s80.1 16 i0 14) then
                    (some (.inl none, s80))
                    else
                    (zcI (zrun zP 162 [zR 16 i0, zI r1, zI r2] s80) (fun r81 s81 =>
                      zcI (zrun zP 165 [zR 16 i0, zI r1, zI r2] s81) (fun r82 s82 =>
                        if r79 = 0 then
                          (some (.inl none, s82))
                          else
                          (zcI (zrun zP 143 [zI r1, zI (r81 + 1), zI 2] s82) (fun r83 s83 =>
                            if r83 < 0 ∨ 745 ≤ Int32.toNatClampNeg r83 then
                              (none)
                              else
                              (some (.inl none, (zms s83.1 31 0 (Int32.toNatClampNeg r83) r80, s83.2))))))))))))
            else
            (zcI (zrun zP 173 [zR 16 i0] s77) (fun r84 s84 =>
              zcI (zrun zP 178 [zR 16 i0] s84) (fun r85 s85 =>
                if (0 : Int32) < (s85.1 16 i0 14) then
                  (some (.inl none, s85))
                  else
                  (zcI (zrun zP 162 [zR 16 i0, zI r1, zI r2] s85) (fun r86 s86 =>
                    zcI (zrun zP 165 [zR 16 i0, zI r1, zI r2] s86) (fun r87 s87 =>
                      if r84 = 0 then
                        (some (.inl none, s87))
                        else
                        (zcI (zrun zP 143 [zI r1, zI (r86 + 1), zI 2] s87) (fun r88 s88 =>
                          if r88 < 0 ∨ 745 ≤ Int32.toNatClampNeg r88 then
                            (none)
                            else
                            (some (.inl none, (zms s88.1 31 0 (Int32.toNatClampNeg r88) r85, s88.2)))))))))))))
        else
        (zcI (zrun zP 173 [zR 16 i0] s2) (fun r89 s89 =>
          zcI (zrun zP 178 [zR 16 i0] s89) (fun r90 s90 =>
            if (0 : Int32) < (s90.1 16 i0 14) then
              (some (.inl none, s90))
              else
              (zcI (zrun zP 162 [zR 16 i0, zI r1, zI r2] s90) (fun r91 s91 =>
                zcI (zrun zP 165 [zR 16 i0, zI r1, zI r2] s91) (fun r92 s92 =>
                  if r89 = 0 then
                    (some (.inl none, s92))
                    else
                    (zcI (zrun zP 143 [zI r1, zI (r91 + 1), zI 2] s92) (fun r93 s93 =>
                      if r93 < 0 ∨ 745 ≤ Int32.toNatClampNeg r93 then
                        (none)
                        else
                        (some (.inl none, (zms s93.1 31 0 (Int32.toNatClampNeg r93) r90, s93.2))))))))))))))) := (zrun_eq _ _ _).trans ((zun_eq zK_X6_splitTold [] 78 _ _).trans rfl)
theorem e_X6_markAt_2 (i0 : Nat) (x1 : Int32) (x2 : Int32) (x3 : Int32) (σ : zSt) : zX zP zK_X6_markAt (2, [zR 16 i0, zI x1, zI x2, zI x3], []) σ = (
  zcI (zrun zP 142 [zR 16 i0, zI x1] σ) (fun r1 s1 =>
  if x3 < r1 then
    (zcI (zrun zP 144 [zR 16 i0, zI x1, zI x3] s1) (fun r2 s2 =>
      if r2 = x2 then
        (some (.inl (some (zI x3)), s2))
        else
        (zcI (zrun zP 144 [zR 16 i0, zI x1, zI x3] s2) (fun r3 s3 =>
          if r3 < x2 then
            (zcI (zrun zP 145 [zR 16 i0, zI x1, zI x3] s3) (fun r4 s4 =>
              if x2 < r4 then
                (some (.inl (some (zI x3)), s4))
                else
                (zX zP zK_X6_markAt (2, [zR 16 i0, zI x1, zI x2, zI (x3 + 1)], []) s4)))
            else
            (zX zP zK_X6_markAt (2, [zR 16 i0, zI x1, zI x2, zI (x3 + 1)], []) s3)))))
    else
    (some (.inl (some (zI (-1))), s1)))) := (zun_eq zK_X6_markAt [2] 26 _ _).trans rfl
theorem e_X6_markAt (i0 : Nat) (x1 : Int32) (x2 : Int32) (σ : zSt) : zrun zP 182 [zR 16 i0, zI x1, zI x2] σ = (
  zX zP zK_X6_markAt (2, [zR 16 i0, zI x1, zI x2, zI 0], []) σ) := (zrun_eq _ _ _).trans ((zun_eq zK_X6_markAt [2] 3 _ _).trans rfl)
theorem e_X6_labelTold (i0 : Nat) (σ : zSt) : zrun zP 183 [zR 16 i0] σ = (
  zcI (zrun zP 176 [zR 16 i0] σ) (fun r1 s1 =>
  zcI (zrun zP 174 [zR 16 i0, zI 0] s1) (fun r2 s2 =>
    if (s2.1 16 i0 14) = 0 then
      (zcI (zrun zP 182 [zR 16 i0, zI r1, zI r2] s2) (fun r3 s3 =>
        if r3 = (-1) then
          (zcV (zrun zP 168 [zR 16 i0, zI 6, zI (s1.1 16 i0 13)] s3) (fun s4 =>
            if (s4.1 16 i0 14) = 0 then
              (zcI (zrun zP 172 [zR 16 i0, zI 4, zI 0] s4) (fun r5 s5 =>
                if (s5.1 16 i0 14) = 0 then
                  (zcI (zrun zP 182 [zR 16 i0, zI r1, zI r2] s5) (fun r6 s6 =>
                    zcI (zrun zP 143 [zI r1, zI r6, zI 2] s6) (fun r7 s7 =>
                      if r7 < 0 ∨ 745 ≤ Int32.toNatClampNeg r7 then
                        (none)
                        else
                        (some (.inl none, (zms s7.1 31 0 (Int32.toNatClampNeg r7) r5, s7.2))))))
                  else
                  (some (.inl none, s5))))
              else
              (if (s4.1 16 i0 14) = 0 then
                (zcI (zrun zP 182 [zR 16 i0, zI r1, zI r2] s4) (fun r8 s8 =>
                  zcI (zrun zP 143 [zI r1, zI r8, zI 2] s8) (fun r9 s9 =>
                    if r9 < 0 ∨ 745 ≤ Int32.toNatClampNeg r9 then
                      (none)
                      else
                      (some (.inl none, (zms s9.1 31 0 (Int32.toNatClampNeg r9) 0, s9.2))))))
                else
                (some (.inl none, s4)))))
          else
          (if (s3.1 16 i0 14) = 0 then
            (zcI (zrun zP 172 [zR 16 i0, zI 4, zI 0] s3) (fun r10 s10 =>
              if (s10.1 16 i0 14) = 0 then
                (zcI (zrun zP 182 [zR 16 i0, zI r1, zI r2] s10) (fun r11 s11 =>
                  zcI (zrun zP 143 [zI r1, zI r11, zI 2] s11) (fun r12 s12 =>
                    if r12 < 0 ∨ 745 ≤ Int32.toNatClampNeg r12 then
                      (none)
                      else
                      (some (.inl none, (zms s12.1 31 0 (Int32.toNatClampNeg r12) r10, s12.2))))))
                else
                (some (.inl none, s10))))
            else
            (if (s3.1 16 i0 14) = 0 then
              (zcI (zrun zP 182 [zR 16 i0, zI r1, zI r2] s3) (fun r13 s13 =>
                zcI (zrun zP 143 [zI r1, zI r13, zI 2] s13) (fun r14 s14 =>
                  if r14 < 0 ∨ 745 ≤ Int32.toNatClampNeg r14 then
                    (none)
                    else
                    (some (.inl none, (zms s14.1 31 0 (Int32.toNatClampNeg r14) 0, s14.2))))))
              else
              (some (.inl none, s3))))))
      else
      (if (s2.1 16 i0 14) = 0 then
        (zcI (zrun zP 172 [zR 16 i0, zI 4, zI 0] s2) (fun r15 s15 =>
          if (s15.1 16 i0 14) = 0 then
            (zcI (zrun zP 182 [zR 16 i0, zI r1, zI r2] s15) (fun r16 s16 =>
              zcI (zrun zP 143 [zI r1, zI r16, zI 2] s16) (fun r17 s17 =>
                if r17 < 0 ∨ 745 ≤ Int32.toNatClampNeg r17 then
                  (none)
                  else
                  (some (.inl none, (zms s17.1 31 0 (Int32.toNatClampNeg r17) r15, s17.2))))))
            else
            (some (.inl none, s15))))
        else
        (if (s2.1 16 i0 14) = 0 then
          (zcI (zrun zP 182 [zR 16 i0, zI r1, zI r2] s2) (fun r18 s18 =>
            zcI (zrun zP 143 [zI r1, zI r18, zI 2] s18) (fun r19 s19 =>
              if r19 < 0 ∨ 745 ≤ Int32.toNatClampNeg r19 then
                (none)
                else
                (some (.inl none, (zms s19.1 31 0 (Int32.toNatClampNeg r19) 0, s19.2))))))
          else
          (some (.inl none, s2))))))) := (zrun_eq _ _ _).trans ((zun_eq zK_X6_labelTold [] 48 _ _).trans rfl)
theorem e_X6_oneLine (i0 : Nat) (σ : zSt) : zrun zP 184 [zR 16 i0] σ = (
  zcI (zrun zP 171 [zR 16 i0, zR 1 0] σ) (fun r1 s1 =>
  if r1 = 0 then
    (zcI (zrun zP 171 [zR 16 i0, zR 1 5] s1) (fun r2 s2 =>
      if r2 = 0 then
        (zcI (zrun zP 171 [zR 16 i0, zR 1 6] s2) (fun r3 s3 =>
          if r3 = 0 then
            (zcI (zrun zP 171 [zR 16 i0, zR 1 7] s3) (fun r4 s4 =>
              if r4 = 0 then
                (zcI (zrun zP 171 [zR 16 i0, zR 1 8] s4) (fun r5 s5 =>
                  if r5 = 0 then
                    (zcV (zrun zP 168 [zR 16 i0, zI 1, zI (s5.1 16 i0 12)] s5) (fun s6 =>
                      if (s6.1 16 i0 14) = 0 then
                        (zcI (zrun zP 169 [zR 16 i0] s6) (fun r7 s7 =>
                          if r7 = 59 then
                            (if (s7.1 16 i0 12) = (s7.1 16 i0 11) then
                              (zcV (zrun zP 168 [zR 16 i0, zI 1, zI (s7.1 16 i0 12)] s7) (fun s8 =>
                                some (.inl none, (zms s8.1 16 i0 12 ((s8.1 16 i0 12) + 1), s8.2))))
                              else
                              (some (.inl none, (zms s7.1 16 i0 12 ((s7.1 16 i0 12) + 1), s7.2))))
                            else
                            (zcV (zrun zP 168 [zR 16 i0, zI 1, zI (s7.1 16 i0 12)] s7) (fun s9 =>
                              some (.inl none, (zms s9.1 16 i0 12 ((s9.1 16 i0 12) + 1), s9.2))))))
                        else
                        (some (.inl none, (zms s6.1 16 i0 12 ((s6.1 16 i0 12) + 1), s6.2)))))
                    else
                    (zcV (zrun zP 183 [zR 16 i0] s5) (fun s10 =>
                      if (s10.1 16 i0 14) = 0 then
                        (zcI (zrun zP 169 [zR 16 i0] s10) (fun r11 s11 =>
                          if r11 = 59 then
                            (if (s11.1 16 i0 12) = (s11.1 16 i0 11) then
                              (zcV (zrun zP 168 [zR 16 i0, zI 1, zI (s11.1 16 i0 12)] s11) (fun s12 =>
                                some (.inl none, (zms s12.1 16 i0 12 ((s12.1 16 i0 12) + 1), s12.2))))
                              else
                              (some (.inl none, (zms s11.1 16 i0 12 ((s11.1 16 i0 12) + 1), s11.2))))
                            else
                            (zcV (zrun zP 168 [zR 16 i0, zI 1, zI (s11.1 16 i0 12)] s11) (fun s13 =>
                              some (.inl none, (zms s13.1 16 i0 12 ((s13.1 16 i0 12) + 1), s13.2))))))
                        else
                        (some (.inl none, (zms s10.1 16 i0 12 ((s10.1 16 i0 12) + 1), s10.2)))))))
                else
                (zcV (zrun zP 181 [zR 16 i0] s4) (fun s14 =>
                  if (s14.1 16 i0 14) = 0 then
                    (zcI (zrun zP 169 [zR 16 i0] s14) (fun r15 s15 =>
                      if r15 = 59 then
                        (if (s15.1 16 i0 12) = (s15.1 16 i0 11) then
                          (zcV (zrun zP 168 [zR 16 i0, zI 1, zI (s15.1 16 i0 12)] s15) (fun s16 =>
                            some (.inl none, (zms s16.1 16 i0 12 ((s16.1 16 i0 12) + 1), s16.2))))
                          else
                          (some (.inl none, (zms s15.1 16 i0 12 ((s15.1 16 i0 12) + 1), s15.2))))
                        else
                        (zcV (zrun zP 168 [zR 16 i0, zI 1, zI (s15.1 16 i0 12)] s15) (fun s17 =>
                          some (.inl none, (zms s17.1 16 i0 12 ((s17.1 16 i0 12) + 1), s17.2))))))
                    else
                    (some (.inl none, (zms s14.1 16 i0 12 ((s14.1 16 i0 12) + 1), s14.2)))))))
            else
            (zcV (zrun zP 180 [zR 16 i0] s3) (fun s18 =>
              if (s18.1 16 i0 14) = 0 then
                (zcI (zrun zP 169 [zR 16 i0] s18) (fun r19 s19 =>
                  if r19 = 59 then
                    (if (s19.1 16 i0 12) = (s19.1 16 i0 11) then
                      (zcV (zrun zP 168 [zR 16 i0, zI 1, zI (s19.1 16 i0 12)] s19) (fun s20 =>
                        some (.inl none, (zms s20.1 16 i0 12 ((s20.1 16 i0 12) + 1), s20.2))))
                      else
                      (some (.inl none, (zms s19.1 16 i0 12 ((s19.1 16 i0 12) + 1), s19.2))))
                    else
                    (zcV (zrun zP 168 [zR 16 i0, zI 1, zI (s19.1 16 i0 12)] s19) (fun s21 =>
                      some (.inl none, (zms s21.1 16 i0 12 ((s21.1 16 i0 12) + 1), s21.2))))))
                else
                (some (.inl none, (zms s18.1 16 i0 12 ((s18.1 16 i0 12) + 1), s18.2)))))))
        else
        (zcV (zrun zP 179 [zR 16 i0] s2) (fun s22 =>
          if (s22.1 16 i0 14) = 0 then
            (zcI (zrun zP 169 [zR 16 i0] s22) (fun r23 s23 =>
              if r23 = 59 then
                (if (s23.1 16 i0 12) = (s23.1 16 i0 11) then
                  (zcV (zrun zP 168 [zR 16 i0, zI 1, zI (s23.1 16 i0 12)] s23) (fun s24 =>
                    some (.inl none, (zms s24.1 16 i0 12 ((s24.1 16 i0 12) + 1), s24.2))))
                  else
                  (some (.inl none, (zms s23.1 16 i0 12 ((s23.1 16 i0 12) + 1), s23.2))))
                else
                (zcV (zrun zP 168 [zR 16 i0, zI 1, zI (s23.1 16 i0 12)] s23) (fun s25 =>
                  some (.inl none, (zms s25.1 16 i0 12 ((s25.1 16 i0 12) + 1), s25.2))))))
            else
            (some (.inl none, (zms s22.1 16 i0 12 ((s22.1 16 i0 12) + 1), s22.2)))))))
    else
    (zcV (zrun zP 177 [zR 16 i0, zI (s1.1 16 i0 13)] s1) (fun s26 =>
      if (s26.1 16 i0 14) = 0 then
        (zcI (zrun zP 169 [zR 16 i0] s26) (fun r27 s27 =>
          if r27 = 59 then
            (if (s27.1 16 i0 12) = (s27.1 16 i0 11) then
              (zcV (zrun zP 168 [zR 16 i0, zI 1, zI (s27.1 16 i0 12)] s27) (fun s28 =>
                some (.inl none, (zms s28.1 16 i0 12 ((s28.1 16 i0 12) + 1), s28.2))))
              else
              (some (.inl none, (zms s27.1 16 i0 12 ((s27.1 16 i0 12) + 1), s27.2))))
            else
            (zcV (zrun zP 168 [zR 16 i0, zI 1, zI (s27.1 16 i0 12)] s27) (fun s29 =>
              some (.inl none, (zms s29.1 16 i0 12 ((s29.1 16 i0 12) + 1), s29.2))))))
        else
        (some (.inl none, (zms s26.1 16 i0 12 ((s26.1 16 i0 12) + 1), s26.2))))))) := (zrun_eq _ _ _).trans ((zun_eq zK_X6_oneLine [] 50 _ _).trans rfl)
theorem e_X6_allMarks_4 (i0 : Nat) (k1 i1 : Nat) (x2 : Int32) (x3 : Int32) (σ : zSt) : zX zP zK_X6_allMarks (4, [zR 16 i0, zR (k1 + 1) i1, zI x2, zI x3], []) σ = (
  if (0 : Int32) < 0 ∨ zlenI (k1 + 1) i1 ≤ Int32.toNatClampNeg 0 then
  (none)
  else
  (if x3 < (σ.1 (k1 + 1) i1 (Int32.toNatClampNeg 0)) then
    (zcI (zrun zP 139 [zI x3, zI 2] σ) (fun r1 s1 =>
      if r1 < 0 ∨ zlenI (k1 + 1) i1 ≤ Int32.toNatClampNeg r1 then
        (none)
        else
        (zX zP zK_X6_allMarks (4, [zR 16 i0, zR (k1 + 1) i1, zI (x2 + (s1.1 (k1 + 1) i1 (Int32.toNatClampNeg r1))), zI (x3 + 1)], []) s1)))
    else
    (some (.inl (some (zI x2)), σ)))) := (zun_eq zK_X6_allMarks [4] 16 _ _).trans rfl
theorem e_X6_allMarks (i0 : Nat) (k1 i1 : Nat) (σ : zSt) : zrun zP 185 [zR 16 i0, zR (k1 + 1) i1] σ = (
  zX zP zK_X6_allMarks (4, [zR 16 i0, zR (k1 + 1) i1, zI 0, zI 0], []) σ) := (zrun_eq _ _ _).trans ((zun_eq zK_X6_allMarks [4] 5 _ _).trans rfl)
theorem e_X6_text_27 (i0 : Nat) (x1 : Int32) (x2 : Int32) (σ : zSt) : zX zP zK_X6_text (27, [zR 16 i0, zI x1, zI x2], []) σ = (
  if x2 < x1 then
  (if x2 < 0 ∨ 400 ≤ Int32.toNatClampNeg x2 then
    (none)
    else
    (if x2 < 0 ∨ 400 ≤ Int32.toNatClampNeg x2 then
      (none)
      else
      (zX zP zK_X6_text (27, [zR 16 i0, zI x1, zI (x2 + 1)], []) (zms σ.1 36 0 (Int32.toNatClampNeg x2) (Int8.toInt32 (Int32.toInt8 (σ.1 35 0 (Int32.toNatClampNeg x2)))), σ.2))))
  else
  (zcV (zrun zP 147 [zR 31 0, zR 33 0] (zms (zms (zms (zms σ.1 16 i0 10 0) 16 i0 11 x1) 16 i0 12 0) 16 i0 14 0, σ.2)) (fun s1 =>
    zX zP zK_X6_text (83, [zR 16 i0, zI x1, zI 0], []) s1))) := (zun_eq zK_X6_text [27, 83, 103] 23 _ _).trans rfl
theorem e_X6_text_83 (i0 : Nat) (x1 : Int32) (x2 : Int32) (σ : zSt) : zX zP zK_X6_text (83, [zR 16 i0, zI x1, zI x2], []) σ = (
  if x2 < 745 then
  (if x2 < 0 ∨ 745 ≤ Int32.toNatClampNeg x2 then
    (none)
    else
    (zX zP zK_X6_text (83, [zR 16 i0, zI x1, zI (x2 + 1)], []) (zms σ.1 31 0 (Int32.toNatClampNeg x2) 0, σ.2)))
  else
  (zX zP zK_X6_text (103, [zR 16 i0, zI x1, zI x2], []) σ)) := (zun_eq zK_X6_text [27, 83, 103] 11 _ _).trans rfl
theorem e_X6_text_103 (i0 : Nat) (x1 : Int32) (x2 : Int32) (σ : zSt) : zX zP zK_X6_text (103, [zR 16 i0, zI x1, zI x2], []) σ = (
  if (σ.1 16 i0 14) = 0 then
  (zcI (zrun zP 169 [zR 16 i0] σ) (fun r1 s1 =>
    if r1 = 0 then
      (if (s1.1 16 i0 12) < (s1.1 16 i0 11) then
        (zcV (zrun zP 184 [zR 16 i0] s1) (fun s2 =>
          zX zP zK_X6_text (103, [zR 16 i0, zI x1, zI x2], []) s2))
        else
        (if (0 : Int32) < (s1.1 16 i0 14) then
          (if (0 : Int32) < ((zms s1.1 16 i0 16 (s1.1 16 i0 15)) 16 i0 14) then
            (zcV (zrun zP 147 [zR 33 0, zR 31 0] (zms s1.1 16 i0 16 (s1.1 16 i0 15), s1.2)) (fun s3 =>
              some (.inl (some (zI ((s3.1 16 i0 14) - 10))), s3)))
            else
            (zcI (zrun zP 185 [zR 16 i0, zR 31 0] (zms (zms s1.1 16 i0 16 (s1.1 16 i0 15)) 16 i0 6 0, s1.2)) (fun r4 s4 =>
              some (.inl (some (zI r4)), s4))))
          else
          (if (0 : Int32) < ((zms s1.1 16 i0 16 (-1)) 16 i0 14) then
            (zcV (zrun zP 147 [zR 33 0, zR 31 0] (zms s1.1 16 i0 16 (-1), s1.2)) (fun s5 =>
              some (.inl (some (zI ((s5.1 16 i0 14) - 10))), s5)))
            else
            (zcI (zrun zP 185 [zR 16 i0, zR 31 0] (zms (zms s1.1 16 i0 16 (-1)) 16 i0 6 0, s1.2)) (fun r6 s6 =>
              some (.inl (some (zI r6)), s6))))))
      else
      (zcV (zrun zP 184 [zR 16 i0] s1) (fun s7 =>
        zX zP zK_X6_text (103, [zR 16 i0, zI x1, zI x2], []) s7))))
  else
  (if (0 : Int32) < (σ.1 16 i0 14) then
    (if (0 : Int32) < ((zms σ.1 16 i0 16 (σ.1 16 i0 15)) 16 i0 14) then
      (zcV (zrun zP 147 [zR 33 0, zR 31 0] (zms σ.1 16 i0 16 (σ.1 16 i0 15), σ.2)) (fun s8 =>
        some (.inl (some (zI ((s8.1 16 i0 14) - 10))), s8)))
      else
      (zcI (zrun zP 185 [zR 16 i0, zR 31 0] (zms (zms σ.1 16 i0 16 (σ.1 16 i0 15)) 16 i0 6 0, σ.2)) (fun r9 s9 =>
        some (.inl (some (zI r9)), s9))))
    else
    (if (0 : Int32) < ((zms σ.1 16 i0 16 (-1)) 16 i0 14) then
      (zcV (zrun zP 147 [zR 33 0, zR 31 0] (zms σ.1 16 i0 16 (-1), σ.2)) (fun s10 =>
        some (.inl (some (zI ((s10.1 16 i0 14) - 10))), s10)))
      else
      (zcI (zrun zP 185 [zR 16 i0, zR 31 0] (zms (zms σ.1 16 i0 16 (-1)) 16 i0 6 0, σ.2)) (fun r11 s11 =>
        some (.inl (some (zI r11)), s11)))))) := (zun_eq zK_X6_text [27, 83, 103] 33 _ _).trans rfl
theorem e_X6_text (i0 : Nat) (x1 : Int32) (σ : zSt) : zrun zP 186 [zR 16 i0, zI x1] σ = (
  zcI (zrun zP 137 [zI x1, zI 0, zI ((zms σ.1 16 i0 0 0) 16 i0 10)] (zms σ.1 16 i0 0 0, σ.2)) (fun r1 s1 =>
  zcI (zrun zP 136 [zR 16 i0, zI r1, zI 1, zI 1] s1) (fun r2 s2 =>
    if r2 = 0 then
      (some (.inl (some (zI 0)), s2))
      else
      (zX zP zK_X6_text (27, [zR 16 i0, zI x1, zI 0], []) s2)))) := (zrun_eq _ _ _).trans ((zun_eq zK_X6_text [27, 83, 103] 16 _ _).trans rfl)
theorem e_X6_fault (i0 : Nat) (σ : zSt) : zrun zP 187 [zR 16 i0] σ = (
  some (.inl (some (zI ((zms σ.1 16 i0 0 0) 16 i0 16))), (zms σ.1 16 i0 0 0, σ.2))) := (zrun_eq _ _ _).trans ((zun_eq zK_X6_fault [] 7 _ _).trans rfl)
theorem e_X6_keeps_11 (i0 : Nat) (x1 : Int32) (σ : zSt) : zX zP zK_X6_keeps (11, [zR 16 i0, zI x1], []) σ = (
  if x1 < 8195 then
  (if (x1 + 745) < 0 ∨ 8940 ≤ Int32.toNatClampNeg (x1 + 745) then
    (none)
    else
    (if x1 < 0 ∨ 8940 ≤ Int32.toNatClampNeg x1 then
      (none)
      else
      (zX zP zK_X6_keeps (11, [zR 16 i0, zI (x1 + 1)], []) (zms σ.1 34 0 (Int32.toNatClampNeg x1) (σ.1 34 0 (Int32.toNatClampNeg (x1 + 745))), σ.2))))
  else
  (zX zP zK_X6_keeps (52, [zR 16 i0, zI 0], []) (zms σ.1 16 i0 6 ((σ.1 16 i0 6) - 1), σ.2))) := (zun_eq zK_X6_keeps [11, 52] 16 _ _).trans rfl
theorem e_X6_keeps_52 (i0 : Nat) (x1 : Int32) (σ : zSt) : zX zP zK_X6_keeps (52, [zR 16 i0, zI x1], []) σ = (
  if x1 < 745 then
  (if x1 < 0 ∨ 745 ≤ Int32.toNatClampNeg x1 then
    (none)
    else
    (if ((745 * (σ.1 16 i0 6)) + x1) < 0 ∨ 8940 ≤ Int32.toNatClampNeg ((745 * (σ.1 16 i0 6)) + x1) then
      (none)
      else
      (zX zP zK_X6_keeps (52, [zR 16 i0, zI (x1 + 1)], []) (zms σ.1 34 0 (Int32.toNatClampNeg ((745 * (σ.1 16 i0 6)) + x1)) (σ.1 31 0 (Int32.toNatClampNeg x1)), σ.2))))
  else
  (some (.inl none, (zms σ.1 16 i0 6 ((σ.1 16 i0 6) + 1), σ.2)))) := (zun_eq zK_X6_keeps [11, 52] 19 _ _).trans rfl
theorem e_X6_keeps (i0 : Nat) (σ : zSt) : zrun zP 188 [zR 16 i0] σ = (
  if (σ.1 16 i0 6) = 12 then
  (zX zP zK_X6_keeps (11, [zR 16 i0, zI 0], []) σ)
  else
  (zX zP zK_X6_keeps (52, [zR 16 i0, zI 0], []) σ)) := (zrun_eq _ _ _).trans ((zun_eq zK_X6_keeps [11, 52] 7 _ _).trans rfl)
theorem e_X6_isTier (i0 : Nat) (x1 : Int32) (σ : zSt) : zrun zP 189 [zR 16 i0, zI x1] σ = (
  zcI (zrun zP 138 [zR 16 i0] σ) (fun r1 s1 =>
  zcI (zrun zP 137 [zI x1, zI 0, zI (r1 - 1)] s1) (fun r2 s2 =>
    zcI (zrun zP 136 [zR 16 i0, zI r2, zI 1, zI 0] s2) (fun r3 s3 =>
      some (.inl (some (zI r3)), s3))))) := (zrun_eq _ _ _).trans ((zun_eq zK_X6_isTier [] 13 _ _).trans rfl)
theorem e_X6_isMark (i0 : Nat) (x1 : Int32) (x2 : Int32) (σ : zSt) : zrun zP 190 [zR 16 i0, zI x1, zI x2] σ = (
  zcI (zrun zP 138 [zR 16 i0] σ) (fun r1 s1 =>
  zcI (zrun zP 137 [zI x1, zI 0, zI (r1 - 1)] s1) (fun r2 s2 =>
    if r2 = 0 then
      (zcI (zrun zP 136 [zR 16 i0, zI 0, zI 1, zI 0] s2) (fun r3 s3 =>
        some (.inl (some (zI r3)), s3)))
      else
      (zcI (zrun zP 142 [zR 16 i0, zI x1] s2) (fun r4 s4 =>
        zcI (zrun zP 137 [zI x2, zI 0, zI (r4 - 1)] s4) (fun r5 s5 =>
          if r5 = 0 then
            (zcI (zrun zP 136 [zR 16 i0, zI 0, zI 1, zI 0] s5) (fun r6 s6 =>
              some (.inl (some (zI r6)), s6)))
            else
            (zcI (zrun zP 136 [zR 16 i0, zI 1, zI 1, zI 0] s5) (fun r7 s7 =>
              some (.inl (some (zI r7)), s7))))))))) := (zrun_eq _ _ _).trans ((zun_eq zK_X6_isMark [] 25 _ _).trans rfl)
theorem e_X6_put (i0 : Nat) (x1 : Int32) (x2 : Int32) (x3 : Int32) (σ : zSt) : zrun zP 191 [zR 16 i0, zI x1, zI x2, zI x3] σ = (
  zcI (zrun zP 189 [zR 16 i0, zI x1] (zms σ.1 16 i0 0 0, σ.2)) (fun r1 s1 =>
  if r1 = 0 then
    (some (.inl (some (zI 0)), s1))
    else
    (zcI (zrun zP 137 [zI x2, zI 0, zI 999] s1) (fun r2 s2 =>
      if r2 = 0 then
        (zcI (zrun zP 136 [zR 16 i0, zI 0, zI 2, zI 1] s2) (fun r3 s3 =>
          if r3 = 0 then
            (some (.inl (some (zI 0)), s3))
            else
            (zcI (zrun zP 156 [zR 16 i0, zI x1, zI x2, zI x3] s3) (fun r4 s4 =>
              if r4 = 0 then
                (zcI (zrun zP 136 [zR 16 i0, zI 0, zI 3, zI 2] s4) (fun r5 s5 =>
                  if r5 = 0 then
                    (some (.inl (some (zI 0)), s5))
                    else
                    (zcV (zrun zP 188 [zR 16 i0] s5) (fun s6 =>
                      zcI (zrun zP 159 [zR 16 i0, zI x1, zI x2, zI x3, zI 0] s6) (fun r7 s7 =>
                        some (.inl (some (zI r7)), s7))))))
                else
                (zcI (zrun zP 158 [zR 16 i0, zI x1] s4) (fun r8 s8 =>
                  if r8 = 0 then
                    (zcI (zrun zP 136 [zR 16 i0, zI 0, zI 3, zI 2] s8) (fun r9 s9 =>
                      if r9 = 0 then
                        (some (.inl (some (zI 0)), s9))
                        else
                        (zcV (zrun zP 188 [zR 16 i0] s9) (fun s10 =>
                          zcI (zrun zP 159 [zR 16 i0, zI x1, zI x2, zI x3, zI 0] s10) (fun r11 s11 =>
                            some (.inl (some (zI r11)), s11))))))
                    else
                    (zcI (zrun zP 136 [zR 16 i0, zI 1, zI 3, zI 2] s8) (fun r12 s12 =>
                      if r12 = 0 then
                        (some (.inl (some (zI 0)), s12))
                        else
                        (zcV (zrun zP 188 [zR 16 i0] s12) (fun s13 =>
                          zcI (zrun zP 159 [zR 16 i0, zI x1, zI x2, zI x3, zI 0] s13) (fun r14 s14 =>
                            some (.inl (some (zI r14)), s14))))))))))))
        else
        (zcI (zrun zP 137 [zI x3, zI (x2 + 1), zI 999] s2) (fun r15 s15 =>
          if r15 = 0 then
            (zcI (zrun zP 136 [zR 16 i0, zI 0, zI 2, zI 1] s15) (fun r16 s16 =>
              if r16 = 0 then
                (some (.inl (some (zI 0)), s16))
                else
                (zcI (zrun zP 156 [zR 16 i0, zI x1, zI x2, zI x3] s16) (fun r17 s17 =>
                  if r17 = 0 then
                    (zcI (zrun zP 136 [zR 16 i0, zI 0, zI 3, zI 2] s17) (fun r18 s18 =>
                      if r18 = 0 then
                        (some (.inl (some (zI 0)), s18))
                        else
                        (zcV (zrun zP 188 [zR 16 i0] s18) (fun s19 =>
                          zcI (zrun zP 159 [zR 16 i0, zI x1, zI x2, zI x3, zI 0] s19) (fun r20 s20 =>
                            some (.inl (some (zI r20)), s20))))))
                    else
                    (zcI (zrun zP 158 [zR 16 i0, zI x1] s17) (fun r21 s21 =>
                      if r21 = 0 then
                        (zcI (zrun zP 136 [zR 16 i0, zI 0, zI 3, zI 2] s21) (fun r22 s22 =>
                          if r22 = 0 then
                            (some (.inl (some (zI 0)), s22))
                            else
                            (zcV (zrun zP 188 [zR 16 i0] s22) (fun s23 =>
                              zcI (zrun zP 159 [zR 16 i0, zI x1, zI x2, zI x3, zI 0] s23) (fun r24 s24 =>
                                some (.inl (some (zI r24)), s24))))))
                        else
                        (zcI (zrun zP 136 [zR 16 i0, zI 1, zI 3, zI 2] s21) (fun r25 s25 =>
                          if r25 = 0 then
                            (some (.inl (some (zI 0)), s25))
                            else
                            (zcV (zrun zP 188 [zR 16 i0] s25) (fun s26 =>
                              zcI (zrun zP 159 [zR 16 i0, zI x1, zI x2, zI x3, zI 0] s26) (fun r27 s27 =>
                                some (.inl (some (zI r27)), s27))))))))))))
            else
            (zcI (zrun zP 136 [zR 16 i0, zI 1, zI 2, zI 1] s15) (fun r28 s28 =>
              if r28 = 0 then
                (some (.inl (some (zI 0)), s28))
                else
                (zcI (zrun zP 156 [zR 16 i0, zI x1, zI x2, zI x3] s28) (fun r29 s29 =>
                  if r29 = 0 then
                    (zcI (zrun zP 136 [zR 16 i0, zI 0, zI 3, zI 2] s29) (fun r30 s30 =>
                      if r30 = 0 then
                        (some (.inl (some (zI 0)), s30))
                        else
                        (zcV (zrun zP 188 [zR 16 i0] s30) (fun s31 =>
                          zcI (zrun zP 159 [zR 16 i0, zI x1, zI x2, zI x3, zI 0] s31) (fun r32 s32 =>
                            some (.inl (some (zI r32)), s32))))))
                    else
                    (zcI (zrun zP 158 [zR 16 i0, zI x1] s29) (fun r33 s33 =>
                      if r33 = 0 then
                        (zcI (zrun zP 136 [zR 16 i0, zI 0, zI 3, zI 2] s33) (fun r34 s34 =>
                          if r34 = 0 then
                            (some (.inl (some (zI 0)), s34))
                            else
                            (zcV (zrun zP 188 [zR 16 i0] s34) (fun s35 =>
                              zcI (zrun zP 159 [zR 16 i0, zI x1, zI x2, zI x3, zI 0] s35) (fun r36 s36 =>
                                some (.inl (some (zI r36)), s36))))))
                        else
                        (zcI (zrun zP 136 [zR 16 i0, zI 1, zI 3, zI 2] s33) (fun r37 s37 =>
                          if r37 = 0 then
                            (some (.inl (some (zI 0)), s37))
                            else
                            (zcV (zrun zP 188 [zR 16 i0] s37) (fun s38 =>
                              zcI (zrun zP 159 [zR 16 i0, zI x1, zI x2, zI x3, zI 0] s38) (fun r39 s39 =>
                                some (.inl (some (zI r39)), s39)))))))))))))))))) := (zrun_eq _ _ _).trans ((zun_eq zK_X6_put [] 53 _ _).trans rfl)
theorem e_X6_point (i0 : Nat) (x1 : Int32) (x2 : Int32) (σ : zSt) : zrun zP 192 [zR 16 i0, zI x1, zI x2] σ = (
  zcI (zrun zP 189 [zR 16 i0, zI x1] (zms σ.1 16 i0 0 0, σ.2)) (fun r1 s1 =>
  if r1 = 0 then
    (some (.inl (some (zI 0)), s1))
    else
    (zcI (zrun zP 137 [zI x2, zI 0, zI 999] s1) (fun r2 s2 =>
      zcI (zrun zP 136 [zR 16 i0, zI r2, zI 2, zI 1] s2) (fun r3 s3 =>
        if r3 = 0 then
          (some (.inl (some (zI 0)), s3))
          else
          (zcI (zrun zP 160 [zR 16 i0, zI x1, zI x2] s3) (fun r4 s4 =>
            if r4 = 0 then
              (zcI (zrun zP 136 [zR 16 i0, zI 0, zI 3, zI 2] s4) (fun r5 s5 =>
                if r5 = 0 then
                  (some (.inl (some (zI 0)), s5))
                  else
                  (zcV (zrun zP 188 [zR 16 i0] s5) (fun s6 =>
                    zcI (zrun zP 153 [zR 16 i0, zI x1, zI x2, zI x2, zI 0] s6) (fun r7 s7 =>
                      some (.inl (some (zI r7)), s7))))))
              else
              (zcI (zrun zP 142 [zR 16 i0, zI x1] s4) (fun r8 s8 =>
                if r8 < 40 then
                  (zcI (zrun zP 136 [zR 16 i0, zI 1, zI 3, zI 2] s8) (fun r9 s9 =>
                    if r9 = 0 then
                      (some (.inl (some (zI 0)), s9))
                      else
                      (zcV (zrun zP 188 [zR 16 i0] s9) (fun s10 =>
                        zcI (zrun zP 153 [zR 16 i0, zI x1, zI x2, zI x2, zI 0] s10) (fun r11 s11 =>
                          some (.inl (some (zI r11)), s11))))))
                  else
                  (zcI (zrun zP 136 [zR 16 i0, zI 0, zI 3, zI 2] s8) (fun r12 s12 =>
                    if r12 = 0 then
                      (some (.inl (some (zI 0)), s12))
                      else
                      (zcV (zrun zP 188 [zR 16 i0] s12) (fun s13 =>
                        zcI (zrun zP 153 [zR 16 i0, zI x1, zI x2, zI x2, zI 0] s13) (fun r14 s14 =>
                          some (.inl (some (zI r14)), s14))))))))))))))) := (zrun_eq _ _ _).trans ((zun_eq zK_X6_point [] 43 _ _).trans rfl)
theorem e_X6_beside (i0 : Nat) (x1 : Int32) (x2 : Int32) (x3 : Int32) (σ : zSt) : zrun zP 193 [zR 16 i0, zI x1, zI x2, zI x3] σ = (
  zcI (zrun zP 142 [zR 16 i0, zI x1] σ) (fun r1 s1 =>
  zcI (zrun zP 137 [zI (x2 + x3), zI 0, zI (r1 - 1)] s1) (fun r2 s2 =>
    if r2 = 0 then
      (some (.inl (some (zI (-1))), s2))
      else
      (zcI (zrun zP 194 [zR 16 i0, zI x1, zI (x2 + x3)] s2) (fun r3 s3 =>
        zcI (zrun zP 194 [zR 16 i0, zI x1, zI x2] s3) (fun r4 s4 =>
          if r3 = r4 then
            (some (.inl (some (zI (x2 + x3))), s4))
            else
            (some (.inl (some (zI (-1))), s4)))))))) := (zrun_eq _ _ _).trans ((zun_eq zK_X6_beside [] 26 _ _).trans rfl)
theorem e_X6_parentsOf (i0 : Nat) (x1 : Int32) (x2 : Int32) (σ : zSt) : zrun zP 194 [zR 16 i0, zI x1, zI x2] σ = (
  zcI (zrun zP 141 [zR 16 i0, zI x1] σ) (fun r1 s1 =>
  if r1 = (-1) then
    (some (.inl (some (zI (-1))), s1))
    else
    (zcI (zrun zP 141 [zR 16 i0, zI x1] s1) (fun r2 s2 =>
      zcI (zrun zP 144 [zR 16 i0, zI x1, zI x2] s2) (fun r3 s3 =>
        zcI (zrun zP 145 [zR 16 i0, zI x1, zI x2] s3) (fun r4 s4 =>
          zcI (zrun zP 152 [zR 16 i0, zI r2, zI r3, zI r4] s4) (fun r5 s5 =>
            some (.inl (some (zI r5)), s5)))))))) := (zrun_eq _ _ _).trans ((zun_eq zK_X6_parentsOf [] 20 _ _).trans rfl)
theorem e_X6_clears_12 (i0 : Nat) (x1 : Int32) (x2 : Int32) (x3 : Int32) (x4 : Int32) (x5 : Int32) (σ : zSt) : zX zP zK_X6_clears (12, [zR 16 i0, zI x1, zI x2, zI x3, zI x4, zI x5], []) σ = (
  if x5 < 0 then
  (some (.inl (some (zI x4)), σ))
  else
  (zcI (zrun zP 144 [zR 16 i0, zI x1, zI x5] σ) (fun r1 s1 =>
    if r1 < x2 then
      (zX zP zK_X6_clears (12, [zR 16 i0, zI x1, zI x2, zI x3, zI x4, zI (x5 + (-1))], []) s1)
      else
      (zcI (zrun zP 145 [zR 16 i0, zI x1, zI x5] s1) (fun r2 s2 =>
        if x3 < r2 then
          (zX zP zK_X6_clears (12, [zR 16 i0, zI x1, zI x2, zI x3, zI x4, zI (x5 + (-1))], []) s2)
          else
          (zcV (zrun zP 154 [zR 16 i0, zI x1, zI x5] s2) (fun s3 =>
            zX zP zK_X6_clears (12, [zR 16 i0, zI x1, zI x2, zI x3, zI (x4 + 1), zI (x5 + (-1))], []) s3))))))) := (zun_eq zK_X6_clears [12] 22 _ _).trans rfl
theorem e_X6_clears (i0 : Nat) (x1 : Int32) (x2 : Int32) (x3 : Int32) (σ : zSt) : zrun zP 195 [zR 16 i0, zI x1, zI x2, zI x3] σ = (
  zcI (zrun zP 142 [zR 16 i0, zI x1] σ) (fun r1 s1 =>
  zX zP zK_X6_clears (12, [zR 16 i0, zI x1, zI x2, zI x3, zI 0, zI (r1 - 1)], []) s1)) := (zrun_eq _ _ _).trans ((zun_eq zK_X6_clears [12] 9 _ _).trans rfl)
theorem e_X6_takesAll_27 (i0 : Nat) (x1 : Int32) (x2 : Int32) (x3 : Int32) (x4 : Int32) (x5 : Int32) (x6 : Int32) (v7 : zAV) (σ : zSt) : zX zP zK_X6_takesAll (27, [zR 16 i0, zI x1, zI x2, zI x3, zI x4, zI x5, zI x6, v7], []) σ = (
  zcI (zrun zP 138 [zR 16 i0] σ) (fun r1 s1 =>
  if x6 < r1 then
    (zcI (zrun zP 150 [zR 16 i0, zI x6, zI x1] s1) (fun r2 s2 =>
      if r2 = 0 then
        (zX zP zK_X6_takesAll (27, [zR 16 i0, zI x1, zI x2, zI x3, zI x4, zI x5, zI (x6 + 1), v7], []) s2)
        else
        (zcI (zrun zP 140 [zR 16 i0, zI x6] s2) (fun r3 s3 =>
          if r3 = 3 then
            (zX zP zK_X6_takesAll (27, [zR 16 i0, zI x1, zI x2, zI x3, zI x4, zI x5, zI (x6 + 1), v7], []) s3)
            else
            (zcI (zrun zP 195 [zR 16 i0, zI x6, zI x3, zI x4] s3) (fun r4 s4 =>
              zX zP zK_X6_takesAll (27, [zR 16 i0, zI x1, zI x2, zI x3, zI x4, zI (x5 + r4), zI (x6 + 1), v7], []) s4))))))
    else
    (zX zP zK_X6_takesAll (79, [zR 16 i0, zI x1, zI x2, zI x3, zI x4, zI x5, zI 0, v7], []) s1))) := (zun_eq zK_X6_takesAll [27, 79, 121] 25 _ _).trans rfl
theorem e_X6_takesAll_79 (i0 : Nat) (x1 : Int32) (x2 : Int32) (x3 : Int32) (x4 : Int32) (x5 : Int32) (x6 : Int32) (v7 : zAV) (σ : zSt) : zX zP zK_X6_takesAll (79, [zR 16 i0, zI x1, zI x2, zI x3, zI x4, zI x5, zI x6, v7], []) σ = (
  zcI (zrun zP 138 [zR 16 i0] σ) (fun r1 s1 =>
  if x6 < r1 then
    (zcI (zrun zP 150 [zR 16 i0, zI x6, zI x1] s1) (fun r2 s2 =>
      if r2 = 0 then
        (zX zP zK_X6_takesAll (79, [zR 16 i0, zI x1, zI x2, zI x3, zI x4, zI x5, zI (x6 + 1), v7], []) s2)
        else
        (zcI (zrun zP 140 [zR 16 i0, zI x6] s2) (fun r3 s3 =>
          if r3 = 3 then
            (zcI (zrun zP 142 [zR 16 i0, zI x6] s3) (fun r4 s4 =>
              zX zP zK_X6_takesAll (121, [zR 16 i0, zI x1, zI x2, zI x3, zI x4, zI x5, zI x6, zI (r4 - 1)], []) s4))
            else
            (zX zP zK_X6_takesAll (79, [zR 16 i0, zI x1, zI x2, zI x3, zI x4, zI x5, zI (x6 + 1), v7], []) s3)))))
    else
    (some (.inl (some (zI (x5 + 1))), s1)))) := (zun_eq zK_X6_takesAll [27, 79, 121] 21 _ _).trans rfl
theorem e_X6_takesAll_121 (i0 : Nat) (x1 : Int32) (x2 : Int32) (x3 : Int32) (x4 : Int32) (x5 : Int32) (x6 : Int32) (x7 : Int32) (σ : zSt) : zX zP zK_X6_takesAll (121, [zR 16 i0, zI x1, zI x2, zI x3, zI x4, zI x5, zI x6, zI x7], []) σ = (
  if x7 < 0 then
  (zX zP zK_X6_takesAll (79, [zR 16 i0, zI x1, zI x2, zI x3, zI x4, zI x5, zI (x6 + 1), zI x7], []) σ)
  else
  (zcI (zrun zP 141 [zR 16 i0, zI x6] σ) (fun r1 s1 =>
    zcI (zrun zP 144 [zR 16 i0, zI x6, zI x7] s1) (fun r2 s2 =>
      zcI (zrun zP 144 [zR 16 i0, zI x6, zI x7] s2) (fun r3 s3 =>
        zcI (zrun zP 152 [zR 16 i0, zI r1, zI r2, zI r3] s3) (fun r4 s4 =>
          if r4 = (-1) then
            (zcV (zrun zP 154 [zR 16 i0, zI x6, zI x7] s4) (fun s5 =>
              zX zP zK_X6_takesAll (121, [zR 16 i0, zI x1, zI x2, zI x3, zI x4, zI (x5 + 1), zI x6, zI (x7 + (-1))], []) s5))
            else
            (zX zP zK_X6_takesAll (121, [zR 16 i0, zI x1, zI x2, zI x3, zI x4, zI x5, zI x6, zI (x7 + (-1))], []) s4))))))) := (zun_eq zK_X6_takesAll [27, 79, 121] 25 _ _).trans rfl
theorem e_X6_takesAll (i0 : Nat) (x1 : Int32) (x2 : Int32) (σ : zSt) : zrun zP 196 [zR 16 i0, zI x1, zI x2] σ = (
  zcI (zrun zP 144 [zR 16 i0, zI x1, zI x2] σ) (fun r1 s1 =>
  zcI (zrun zP 145 [zR 16 i0, zI x1, zI x2] s1) (fun r2 s2 =>
    zcV (zrun zP 154 [zR 16 i0, zI x1, zI x2] s2) (fun s3 =>
      zX zP zK_X6_takesAll (27, [zR 16 i0, zI x1, zI x2, zI r1, zI r2, zI 0, zI 0, zJunk], []) s3)))) := (zrun_eq _ _ _).trans ((zun_eq zK_X6_takesAll [27, 79, 121] 19 _ _).trans rfl)
theorem e_X6_takesCut (i0 : Nat) (x1 : Int32) (x2 : Int32) (σ : zSt) : zrun zP 197 [zR 16 i0, zI x1, zI x2] σ = (
  zcI (zrun zP 193 [zR 16 i0, zI x1, zI x2, zI (-1)] σ) (fun r1 s1 =>
  zcI (zrun zP 193 [zR 16 i0, zI x1, zI x2, zI 1] s1) (fun r2 s2 =>
    if r1 = (-1) then
      (zcI (zrun zP 143 [zI x1, zI r2, zI 0] s2) (fun r3 s3 =>
        zcI (zrun zP 144 [zR 16 i0, zI x1, zI x2] s3) (fun r4 s4 =>
          if r3 < 0 ∨ 745 ≤ Int32.toNatClampNeg r3 then
            (none)
            else
            (zcV (zrun zP 154 [zR 16 i0, zI x1, zI x2] (zms s4.1 31 0 (Int32.toNatClampNeg r3) r4, s4.2)) (fun s5 =>
              some (.inl (some (zI 1)), s5))))))
      else
      (zcI (zrun zP 143 [zI x1, zI r1, zI 1] s2) (fun r6 s6 =>
        zcI (zrun zP 145 [zR 16 i0, zI x1, zI x2] s6) (fun r7 s7 =>
          if r6 < 0 ∨ 745 ≤ Int32.toNatClampNeg r6 then
            (none)
            else
            (zcV (zrun zP 154 [zR 16 i0, zI x1, zI x2] (zms s7.1 31 0 (Int32.toNatClampNeg r6) r7, s7.2)) (fun s8 =>
              some (.inl (some (zI 1)), s8))))))))) := (zrun_eq _ _ _).trans ((zun_eq zK_X6_takesCut [] 34 _ _).trans rfl)
theorem e_X6_take (i0 : Nat) (x1 : Int32) (x2 : Int32) (σ : zSt) : zrun zP 198 [zR 16 i0, zI x1, zI x2] σ = (
  zcI (zrun zP 190 [zR 16 i0, zI x1, zI x2] (zms σ.1 16 i0 0 0, σ.2)) (fun r1 s1 =>
  if r1 = 0 then
    (some (.inl (some (zI 0)), s1))
    else
    (zcI (zrun zP 140 [zR 16 i0, zI x1] s1) (fun r2 s2 =>
      if r2 = 1 then
        (zcI (zrun zP 193 [zR 16 i0, zI x1, zI x2, zI (-1)] s2) (fun r3 s3 =>
          if r3 = (-1) then
            (zcI (zrun zP 193 [zR 16 i0, zI x1, zI x2, zI 1] s3) (fun r4 s4 =>
              if r4 = (-1) then
                (zcI (zrun zP 136 [zR 16 i0, zI 0, zI 2, zI 2] s4) (fun r5 s5 =>
                  if r5 = 0 then
                    (some (.inl (some (zI 0)), s5))
                    else
                    (zcV (zrun zP 188 [zR 16 i0] s5) (fun s6 =>
                      zcI (zrun zP 140 [zR 16 i0, zI x1] s6) (fun r7 s7 =>
                        if r7 = 1 then
                          (zcI (zrun zP 197 [zR 16 i0, zI x1, zI x2] s7) (fun r8 s8 =>
                            some (.inl (some (zI r8)), s8)))
                          else
                          (zcI (zrun zP 140 [zR 16 i0, zI x1] s7) (fun r9 s9 =>
                            if r9 = 3 then
                              (zcV (zrun zP 154 [zR 16 i0, zI x1, zI x2] s9) (fun s10 =>
                                some (.inl (some (zI 1)), s10)))
                              else
                              (zcI (zrun zP 196 [zR 16 i0, zI x1, zI x2] s9) (fun r11 s11 =>
                                some (.inl (some (zI r11)), s11))))))))))
                else
                (zcI (zrun zP 136 [zR 16 i0, zI 1, zI 2, zI 2] s4) (fun r12 s12 =>
                  if r12 = 0 then
                    (some (.inl (some (zI 0)), s12))
                    else
                    (zcV (zrun zP 188 [zR 16 i0] s12) (fun s13 =>
                      zcI (zrun zP 140 [zR 16 i0, zI x1] s13) (fun r14 s14 =>
                        if r14 = 1 then
                          (zcI (zrun zP 197 [zR 16 i0, zI x1, zI x2] s14) (fun r15 s15 =>
                            some (.inl (some (zI r15)), s15)))
                          else
                          (zcI (zrun zP 140 [zR 16 i0, zI x1] s14) (fun r16 s16 =>
                            if r16 = 3 then
                              (zcV (zrun zP 154 [zR 16 i0, zI x1, zI x2] s16) (fun s17 =>
                                some (.inl (some (zI 1)), s17)))
                              else
                              (zcI (zrun zP 196 [zR 16 i0, zI x1, zI x2] s16) (fun r18 s18 =>
                                some (.inl (some (zI r18)), s18))))))))))))
            else
            (zcI (zrun zP 136 [zR 16 i0, zI 1, zI 2, zI 2] s3) (fun r19 s19 =>
              if r19 = 0 then
                (some (.inl (some (zI 0)), s19))
                else
                (zcV (zrun zP 188 [zR 16 i0] s19) (fun s20 =>
                  zcI (zrun zP 140 [zR 16 i0, zI x1] s20) (fun r21 s21 =>
                    if r21 = 1 then
                      (zcI (zrun zP 197 [zR 16 i0, zI x1, zI x2] s21) (fun r22 s22 =>
                        some (.inl (some (zI r22)), s22)))
                      else
                      (zcI (zrun zP 140 [zR 16 i0, zI x1] s21) (fun r23 s23 =>
                        if r23 = 3 then
                          (zcV (zrun zP 154 [zR 16 i0, zI x1, zI x2] s23) (fun s24 =>
                            some (.inl (some (zI 1)), s24)))
                          else
                          (zcI (zrun zP 196 [zR 16 i0, zI x1, zI x2] s23) (fun r25 s25 =>
                            some (.inl (some (zI r25)), s25))))))))))))
        else
        (zcI (zrun zP 136 [zR 16 i0, zI 1, zI 2, zI 2] s2) (fun r26 s26 =>
          if r26 = 0 then
            (some (.inl (some (zI 0)), s26))
            else
            (zcV (zrun zP 188 [zR 16 i0] s26) (fun s27 =>
              zcI (zrun zP 140 [zR 16 i0, zI x1] s27) (fun r28 s28 =>
                if r28 = 1 then
                  (zcI (zrun zP 197 [zR 16 i0, zI x1, zI x2] s28) (fun r29 s29 =>
                    some (.inl (some (zI r29)), s29)))
                  else
                  (zcI (zrun zP 140 [zR 16 i0, zI x1] s28) (fun r30 s30 =>
                    if r30 = 3 then
                      (zcV (zrun zP 154 [zR 16 i0, zI x1, zI x2] s30) (fun s31 =>
                        some (.inl (some (zI 1)), s31)))
                      else
                      (zcI (zrun zP 196 [zR 16 i0, zI x1, zI x2] s30) (fun r32 s32 =>
                        some (.inl (some (zI r32)), s32)))))))))))))) := (zrun_eq _ _ _).trans ((zun_eq zK_X6_take [] 53 _ _).trans rfl)
theorem e_X6_split (i0 : Nat) (x1 : Int32) (x2 : Int32) (x3 : Int32) (σ : zSt) : zrun zP 199 [zR 16 i0, zI x1, zI x2, zI x3] σ = (
  zcI (zrun zP 190 [zR 16 i0, zI x1, zI x2] (zms σ.1 16 i0 0 0, σ.2)) (fun r1 s1 =>
  if r1 = 0 then
    (some (.inl (some (zI 0)), s1))
    else
    (zcI (zrun zP 140 [zR 16 i0, zI x1] s1) (fun r2 s2 =>
      if r2 = 3 then
        (zcI (zrun zP 136 [zR 16 i0, zI 1, zI 2, zI 1] s2) (fun r3 s3 =>
          if r3 = 0 then
            (some (.inl (some (zI 0)), s3))
            else
            (zcI (zrun zP 140 [zR 16 i0, zI x1] s3) (fun r4 s4 =>
              if r4 = 3 then
                (zcI (zrun zP 136 [zR 16 i0, zI 0, zI 3, zI 2] s4) (fun r5 s5 =>
                  if r5 = 0 then
                    (some (.inl (some (zI 0)), s5))
                    else
                    (zcV (zrun zP 188 [zR 16 i0] s5) (fun s6 =>
                      zcI (zrun zP 165 [zR 16 i0, zI x1, zI x3] s6) (fun r7 s7 =>
                        some (.inl (some (zI r7)), s7))))))
                else
                (zcI (zrun zP 161 [zR 16 i0, zI x1, zI x3] s4) (fun r8 s8 =>
                  if r8 = 0 then
                    (zcI (zrun zP 136 [zR 16 i0, zI 0, zI 3, zI 2] s8) (fun r9 s9 =>
                      if r9 = 0 then
                        (some (.inl (some (zI 0)), s9))
                        else
                        (zcV (zrun zP 188 [zR 16 i0] s9) (fun s10 =>
                          zcI (zrun zP 165 [zR 16 i0, zI x1, zI x3] s10) (fun r11 s11 =>
                            some (.inl (some (zI r11)), s11))))))
                    else
                    (zcI (zrun zP 163 [zR 16 i0, zI x1, zI x3] s8) (fun r12 s12 =>
                      if r12 = 0 then
                        (zcI (zrun zP 136 [zR 16 i0, zI 0, zI 3, zI 2] s12) (fun r13 s13 =>
                          if r13 = 0 then
                            (some (.inl (some (zI 0)), s13))
                            else
                            (zcV (zrun zP 188 [zR 16 i0] s13) (fun s14 =>
                              zcI (zrun zP 165 [zR 16 i0, zI x1, zI x3] s14) (fun r15 s15 =>
                                some (.inl (some (zI r15)), s15))))))
                        else
                        (zcI (zrun zP 136 [zR 16 i0, zI 1, zI 3, zI 2] s12) (fun r16 s16 =>
                          if r16 = 0 then
                            (some (.inl (some (zI 0)), s16))
                            else
                            (zcV (zrun zP 188 [zR 16 i0] s16) (fun s17 =>
                              zcI (zrun zP 165 [zR 16 i0, zI x1, zI x3] s17) (fun r18 s18 =>
                                some (.inl (some (zI r18)), s18))))))))))))))
        else
        (zcI (zrun zP 144 [zR 16 i0, zI x1, zI x2] s2) (fun r19 s19 =>
          if r19 < x3 then
            (zcI (zrun zP 145 [zR 16 i0, zI x1, zI x2] s19) (fun r20 s20 =>
              if x3 < r20 then
                (zcI (zrun zP 136 [zR 16 i0, zI 1, zI 2, zI 1] s20) (fun r21 s21 =>
                  if r21 = 0 then
                    (some (.inl (some (zI 0)), s21))
                    else
                    (zcI (zrun zP 140 [zR 16 i0, zI x1] s21) (fun r22 s22 =>
                      if r22 = 3 then
                        (zcI (zrun zP 136 [zR 16 i0, zI 0, zI 3, zI 2] s22) (fun r23 s23 =>
                          if r23 = 0 then
                            (some (.inl (some (zI 0)), s23))
                            else
                            (zcV (zrun zP 188 [zR 16 i0] s23) (fun s24 =>
                              zcI (zrun zP 165 [zR 16 i0, zI x1, zI x3] s24) (fun r25 s25 =>
                                some (.inl (some (zI r25)), s25))))))
                        else
                        (zcI (zrun zP 161 [zR 16 i0, zI x1, zI x3] s22) (fun r26 s26 =>
                          if r26 = 0 then
                            (zcI (zrun zP 136 [zR 16 i0, zI 0, zI 3, zI 2] s26) (fun r27 s27 =>
                              if r27 = 0 then
                                (some (.inl (some (zI 0)), s27))
                                else
                                (zcV (zrun zP 188 [zR 16 i0] s27) (fun s28 =>
                                  zcI (zrun zP 165 [zR 16 i0, zI x1, zI x3] s28) (fun r29 s29 =>
                                    some (.inl (some (zI r29)), s29))))))
                            else
                            (zcI (zrun zP 163 [zR 16 i0, zI x1, zI x3] s26) (fun r30 s30 =>
                              if r30 = 0 then
                                (zcI (zrun zP 136 [zR 16 i0, zI 0, zI 3, zI 2] s30) (fun r31 s31 =>
                                  if r31 = 0 then
                                    (some (.inl (some (zI 0)), s31))
                                    else
                                    (zcV (zrun zP 188 [zR 16 i0] s31) (fun s32 =>
                                      zcI (zrun zP 165 [zR 16 i0, zI x1, zI x3] s32) (fun r33 s33 =>
                                        some (.inl (some (zI r33)), s33))))))
                                else
                                (zcI (zrun zP 136 [zR 16 i0, zI 1, zI 3, zI 2] s30) (fun r34 s34 =>
                                  if r34 = 0 then
                                    (some (.inl (some (zI 0)), s34))
                                    else
                                    (zcV (zrun zP 188 [zR 16 i0] s34) (fun s35 =>
                                      zcI (zrun zP 165 [zR 16 i0, zI x1, zI x3] s35) (fun r36 s36 =>
                                        some (.inl (some (zI r36)), s36))))))))))))))
                else
                (zcI (zrun zP 136 [zR 16 i0, zI 0, zI 2, zI 1] s20) (fun r37 s37 =>
                  if r37 = 0 then
                    (some (.inl (some (zI 0)), s37))
                    else
                    (zcI (zrun zP 140 [zR 16 i0, zI x1] s37) (fun r38 s38 =>
                      if r38 = 3 then
                        (zcI (zrun zP 136 [zR 16 i0, zI 0, zI 3, zI 2] s38) (fun r39 s39 =>
                          if r39 = 0 then
                            (some (.inl (some (zI 0)), s39))
                            else
                            (zcV (zrun zP 188 [zR 16 i0] s39) (fun s40 =>
                              zcI (zrun zP 165 [zR 16 i0, zI x1, zI x3] s40) (fun r41 s41 =>
                                some (.inl (some (zI r41)), s41))))))
                        else
                        (zcI (zrun zP 161 [zR 16 i0, zI x1, zI x3] s38) (fun r42 s42 =>
                          if r42 = 0 then
                            (zcI (zrun zP 136 [zR 16 i0, zI 0, zI 3, zI 2] s42) (fun r43 s43 =>
                              if r43 = 0 then
                                (some (.inl (some (zI 0)), s43))
                                else
                                (zcV (zrun zP 188 [zR 16 i0] s43) (fun s44 =>
                                  zcI (zrun zP 165 [zR 16 i0, zI x1, zI x3] s44) (fun r45 s45 =>
                                    some (.inl (some (zI r45)), s45))))))
                            else
                            (zcI (zrun zP 163 [zR 16 i0, zI x1, zI x3] s42) (fun r46 s46 =>
                              if r46 = 0 then
                                (zcI (zrun zP 136 [zR 16 i0, zI 0, zI 3, zI 2] s46) (fun r47 s47 =>
                                  if r47 = 0 then
                                    (some (.inl (some (zI 0)), s47))
                                    else
                                    (zcV (zrun zP 188 [zR 16 i0] s47) (fun s48 =>
                                      zcI (zrun zP 165 [zR 16 i0, zI x1, zI x3] s48) (fun r49 s49 =>
                                        some (.inl (some (zI r49)), s49))))))
                                else
                                (zcI (zrun zP 136 [zR 16 i0, zI 1, zI 3, zI 2] s46) (fun r50 s50 =>
                                  if r50 = 0 then
                                    (some (.inl (some (zI 0)), s50))
                                    else
                                    (zcV (zrun zP 188 [zR 16 i0] s50) (fun s51 =>
                                      zcI (zrun zP 165 [zR 16 i0, zI x1, zI x3] s51) (fun r52 s52 =>
                                        some (.inl (some (zI r52)), s52))))))))))))))))
            else
            (zcI (zrun zP 136 [zR 16 i0, zI 0, zI 2, zI 1] s19) (fun r53 s53 =>
              if r53 = 0 then
                (some (.inl (some (zI 0)), s53))
                else
                (zcI (zrun zP 140 [zR 16 i0, zI x1] s53) (fun r54 s54 =>
                  if r54 = 3 then
                    (zcI (zrun zP 136 [zR 16 i0, zI 0, zI 3, zI 2] s54) (fun r55 s55 =>
                      if r55 = 0 then
                        (some (.inl (some (zI 0)), s55))
                        else
                        (zcV (zrun zP 188 [zR 16 i0] s55) (fun s56 =>
                          zcI (zrun zP 165 [zR 16 i0, zI x1, zI x3] s56) (fun r57 s57 =>
                            some (.inl (some (zI r57)), s57))))))
                    else
                    (zcI (zrun zP 161 [zR 16 i0, zI x1, zI x3] s54) (fun r58 s58 =>
                      if r58 = 0 then
                        (zcI (zrun zP 136 [zR 16 i0, zI 0, zI 3, zI 2] s58) (fun r59 s59 =>
                          if r59 = 0 then
                            (some (.inl (some (zI 0)), s59))
                            else
                            (zcV (zrun zP 188 [zR 16 i0] s59) (fun s60 =>
                              zcI (zrun zP 165 [zR 16 i0, zI x1, zI x3] s60) (fun r61 s61 =>
                                some (.inl (some (zI r61)), s61))))))
                        else
                        (zcI (zrun zP 163 [zR 16 i0, zI x1, zI x3] s58) (fun r62 s62 =>
                          if r62 = 0 then
                            (zcI (zrun zP 136 [zR 16 i0, zI 0, zI 3, zI 2] s62) (fun r63 s63 =>
                              if r63 = 0 then
                                (some (.inl (some (zI 0)), s63))
                                else
                                (zcV (zrun zP 188 [zR 16 i0] s63) (fun s64 =>
                                  zcI (zrun zP 165 [zR 16 i0, zI x1, zI x3] s64) (fun r65 s65 =>
                                    some (.inl (some (zI r65)), s65))))))
                            else
                            (zcI (zrun zP 136 [zR 16 i0, zI 1, zI 3, zI 2] s62) (fun r66 s66 =>
                              if r66 = 0 then
                                (some (.inl (some (zI 0)), s66))
                                else
                                (zcV (zrun zP 188 [zR 16 i0] s66) (fun s67 =>
                                  zcI (zrun zP 165 [zR 16 i0, zI x1, zI x3] s67) (fun r68 s68 =>
                                    some (.inl (some (zI r68)), s68)))))))))))))))))))) := (zrun_eq _ _ _).trans ((zun_eq zK_X6_split [] 62 _ _).trans rfl)
theorem e_X6_join (i0 : Nat) (x1 : Int32) (x2 : Int32) (σ : zSt) : zrun zP 200 [zR 16 i0, zI x1, zI x2] σ = (
  zcI (zrun zP 190 [zR 16 i0, zI x1, zI x2] (zms σ.1 16 i0 0 0, σ.2)) (fun r1 s1 =>
  if r1 = 0 then
    (some (.inl (some (zI 0)), s1))
    else
    (zcI (zrun zP 140 [zR 16 i0, zI x1] s1) (fun r2 s2 =>
      if r2 = 3 then
        (zcI (zrun zP 136 [zR 16 i0, zI 0, zI 2, zI 2] s2) (fun r3 s3 =>
          if r3 = 0 then
            (some (.inl (some (zI 0)), s3))
            else
            (zcV (zrun zP 188 [zR 16 i0] s3) (fun s4 =>
              zcI (zrun zP 143 [zI x1, zI x2, zI 1] s4) (fun r5 s5 =>
                zcI (zrun zP 145 [zR 16 i0, zI x1, zI (x2 + 1)] s5) (fun r6 s6 =>
                  if r5 < 0 ∨ 745 ≤ Int32.toNatClampNeg r5 then
                    (none)
                    else
                    (zcV (zrun zP 154 [zR 16 i0, zI x1, zI (x2 + 1)] (zms s6.1 31 0 (Int32.toNatClampNeg r5) r6, s6.2)) (fun s7 =>
                      zcI (zrun zP 145 [zR 16 i0, zI x1, zI x2] s7) (fun r8 s8 =>
                        some (.inl (some (zI r8)), s8))))))))))
        else
        (zcI (zrun zP 142 [zR 16 i0, zI x1] s2) (fun r9 s9 =>
          if (x2 + 1) < r9 then
            (zcI (zrun zP 144 [zR 16 i0, zI x1, zI (x2 + 1)] s9) (fun r10 s10 =>
              zcI (zrun zP 145 [zR 16 i0, zI x1, zI x2] s10) (fun r11 s11 =>
                if r10 = r11 then
                  (zcI (zrun zP 194 [zR 16 i0, zI x1, zI x2] s11) (fun r12 s12 =>
                    zcI (zrun zP 194 [zR 16 i0, zI x1, zI (x2 + 1)] s12) (fun r13 s13 =>
                      if r12 = r13 then
                        (zcI (zrun zP 136 [zR 16 i0, zI 1, zI 2, zI 2] s13) (fun r14 s14 =>
                          if r14 = 0 then
                            (some (.inl (some (zI 0)), s14))
                            else
                            (zcV (zrun zP 188 [zR 16 i0] s14) (fun s15 =>
                              zcI (zrun zP 143 [zI x1, zI x2, zI 1] s15) (fun r16 s16 =>
                                zcI (zrun zP 145 [zR 16 i0, zI x1, zI (x2 + 1)] s16) (fun r17 s17 =>
                                  if r16 < 0 ∨ 745 ≤ Int32.toNatClampNeg r16 then
                                    (none)
                                    else
                                    (zcV (zrun zP 154 [zR 16 i0, zI x1, zI (x2 + 1)] (zms s17.1 31 0 (Int32.toNatClampNeg r16) r17, s17.2)) (fun s18 =>
                                      zcI (zrun zP 145 [zR 16 i0, zI x1, zI x2] s18) (fun r19 s19 =>
                                        some (.inl (some (zI r19)), s19))))))))))
                        else
                        (zcI (zrun zP 136 [zR 16 i0, zI 0, zI 2, zI 2] s13) (fun r20 s20 =>
                          if r20 = 0 then
                            (some (.inl (some (zI 0)), s20))
                            else
                            (zcV (zrun zP 188 [zR 16 i0] s20) (fun s21 =>
                              zcI (zrun zP 143 [zI x1, zI x2, zI 1] s21) (fun r22 s22 =>
                                zcI (zrun zP 145 [zR 16 i0, zI x1, zI (x2 + 1)] s22) (fun r23 s23 =>
                                  if r22 < 0 ∨ 745 ≤ Int32.toNatClampNeg r22 then
                                    (none)
                                    else
                                    (zcV (zrun zP 154 [zR 16 i0, zI x1, zI (x2 + 1)] (zms s23.1 31 0 (Int32.toNatClampNeg r22) r23, s23.2)) (fun s24 =>
                                      zcI (zrun zP 145 [zR 16 i0, zI x1, zI x2] s24) (fun r25 s25 =>
                                        some (.inl (some (zI r25)), s25)))))))))))))
                  else
                  (zcI (zrun zP 136 [zR 16 i0, zI 0, zI 2, zI 2] s11) (fun r26 s26 =>
                    if r26 = 0 then
                      (some (.inl (some (zI 0)), s26))
                      else
                      (zcV (zrun zP 188 [zR 16 i0] s26) (fun s27 =>
                        zcI (zrun zP 143 [zI x1, zI x2, zI 1] s27) (fun r28 s28 =>
                          zcI (zrun zP 145 [zR 16 i0, zI x1, zI (x2 + 1)] s28) (fun r29 s29 =>
                            if r28 < 0 ∨ 745 ≤ Int32.toNatClampNeg r28 then
                              (none)
                              else
                              (zcV (zrun zP 154 [zR 16 i0, zI x1, zI (x2 + 1)] (zms s29.1 31 0 (Int32.toNatClampNeg r28) r29, s29.2)) (fun s30 =>
                                zcI (zrun zP 145 [zR 16 i0, zI x1, zI x2] s30) (fun r31 s31 =>
                                  some (.inl (some (zI r31)), s31)))))))))))))
            else
            (zcI (zrun zP 136 [zR 16 i0, zI 0, zI 2, zI 2] s9) (fun r32 s32 =>
              if r32 = 0 then
                (some (.inl (some (zI 0)), s32))
                else
                (zcV (zrun zP 188 [zR 16 i0] s32) (fun s33 =>
                  zcI (zrun zP 143 [zI x1, zI x2, zI 1] s33) (fun r34 s34 =>
                    zcI (zrun zP 145 [zR 16 i0, zI x1, zI (x2 + 1)] s34) (fun r35 s35 =>
                      if r34 < 0 ∨ 745 ≤ Int32.toNatClampNeg r34 then
                        (none)
                        else
                        (zcV (zrun zP 154 [zR 16 i0, zI x1, zI (x2 + 1)] (zms s35.1 31 0 (Int32.toNatClampNeg r34) r35, s35.2)) (fun s36 =>
                          zcI (zrun zP 145 [zR 16 i0, zI x1, zI x2] s36) (fun r37 s37 =>
                            some (.inl (some (zI r37)), s37)))))))))))))))) := (zrun_eq _ _ _).trans ((zun_eq zK_X6_join [] 78 _ _).trans rfl)
theorem e_X6_stopAhead_4 (i0 : Nat) (x1 : Int32) (x2 : Int32) (x3 : Int32) (σ : zSt) : zX zP zK_X6_stopAhead (4, [zR 16 i0, zI x1, zI x2, zI x3], []) σ = (
  if x3 < 0 then
  (some (.inl (some (zI (-1))), σ))
  else
  (zcI (zrun zP 151 [zR 16 i0, zI x1, zI x3] σ) (fun r1 s1 =>
    if r1 = 0 then
      (zX zP zK_X6_stopAhead (4, [zR 16 i0, zI x1, zI x2, zI (x3 + (-1))], []) s1)
      else
      (some (.inl (some (zI x3)), s1))))) := (zun_eq zK_X6_stopAhead [4] 10 _ _).trans rfl
theorem e_X6_stopAhead (i0 : Nat) (x1 : Int32) (x2 : Int32) (σ : zSt) : zrun zP 201 [zR 16 i0, zI x1, zI x2] σ = (
  zX zP zK_X6_stopAhead (4, [zR 16 i0, zI x1, zI x2, zI (x2 - 1)], []) σ) := (zrun_eq _ _ _).trans ((zun_eq zK_X6_stopAhead [4] 5 _ _).trans rfl)
theorem e_X6_stopBehind_4 (i0 : Nat) (x1 : Int32) (x2 : Int32) (x3 : Int32) (σ : zSt) : zX zP zK_X6_stopBehind (4, [zR 16 i0, zI x1, zI x2, zI x3], []) σ = (
  if (999 : Int32) < x3 then
  (some (.inl (some (zI 1000)), σ))
  else
  (zcI (zrun zP 151 [zR 16 i0, zI x1, zI x3] σ) (fun r1 s1 =>
    if r1 = 0 then
      (zX zP zK_X6_stopBehind (4, [zR 16 i0, zI x1, zI x2, zI (x3 + 1)], []) s1)
      else
      (some (.inl (some (zI x3)), s1))))) := (zun_eq zK_X6_stopBehind [4] 11 _ _).trans rfl
theorem e_X6_stopBehind (i0 : Nat) (x1 : Int32) (x2 : Int32) (σ : zSt) : zrun zP 202 [zR 16 i0, zI x1, zI x2] σ = (
  zX zP zK_X6_stopBehind (4, [zR 16 i0, zI x1, zI x2, zI (x2 + 1)], []) σ) := (zrun_eq _ _ _).trans ((zun_eq zK_X6_stopBehind [4] 5 _ _).trans rfl)
theorem e_X6_isStopOf (i0 : Nat) (x1 : Int32) (x2 : Int32) (σ : zSt) : zrun zP 203 [zR 16 i0, zI x1, zI x2] σ = (
  zcI (zrun zP 138 [zR 16 i0] σ) (fun r1 s1 =>
  zcI (zrun zP 137 [zI x1, zI 0, zI (r1 - 1)] s1) (fun r2 s2 =>
    if r2 = 0 then
      (zcI (zrun zP 136 [zR 16 i0, zI 0, zI 1, zI 0] s2) (fun r3 s3 =>
        some (.inl (some (zI r3)), s3)))
      else
      (zcI (zrun zP 148 [zR 16 i0, zI x1] s2) (fun r4 s4 =>
        zcI (zrun zP 151 [zR 16 i0, zI r4, zI x2] s4) (fun r5 s5 =>
          if r5 = 0 then
            (zcI (zrun zP 136 [zR 16 i0, zI 0, zI 1, zI 0] s5) (fun r6 s6 =>
              some (.inl (some (zI r6)), s6)))
            else
            (zcI (zrun zP 136 [zR 16 i0, zI 1, zI 1, zI 0] s5) (fun r7 s7 =>
              some (.inl (some (zI r7)), s7))))))))) := (zrun_eq _ _ _).trans ((zun_eq zK_X6_isStopOf [] 23 _ _).trans rfl)
theorem e_X6_endsAt_5 (i0 : Nat) (x1 : Int32) (x2 : Int32) (x3 : Int32) (x4 : Int32) (v5 : zAV) (σ : zSt) : zX zP zK_X6_endsAt (5, [zR 16 i0, zI x1, zI x2, zI x3, zI x4, v5], []) σ = (
  zcI (zrun zP 138 [zR 16 i0] σ) (fun r1 s1 =>
  if x4 < r1 then
    (zcI (zrun zP 148 [zR 16 i0, zI x4] s1) (fun r2 s2 =>
      if r2 = x1 then
        (zX zP zK_X6_endsAt (30, [zR 16 i0, zI x1, zI x2, zI x3, zI x4, zI 0], []) s2)
        else
        (zX zP zK_X6_endsAt (5, [zR 16 i0, zI x1, zI x2, zI x3, zI (x4 + 1), v5], []) s2)))
    else
    (some (.inl (some (zI x3)), s1)))) := (zun_eq zK_X6_endsAt [5, 30] 13 _ _).trans rfl
theorem e_X6_endsAt_30 (i0 : Nat) (x1 : Int32) (x2 : Int32) (x3 : Int32) (x4 : Int32) (x5 : Int32) (σ : zSt) : zX zP zK_X6_endsAt (30, [zR 16 i0, zI x1, zI x2, zI x3, zI x4, zI x5], []) σ = (
  zcI (zrun zP 142 [zR 16 i0, zI x4] σ) (fun r1 s1 =>
  if x5 < r1 then
    (zcI (zrun zP 144 [zR 16 i0, zI x4, zI x5] s1) (fun r2 s2 =>
      if r2 = x2 then
        (zcI (zrun zP 140 [zR 16 i0, zI x4] s2) (fun r3 s3 =>
          if r3 = 3 then
            (zX zP zK_X6_endsAt (30, [zR 16 i0, zI x1, zI x2, zI (x3 + (1 + 0)), zI x4, zI (x5 + 1)], []) s3)
            else
            (zcI (zrun zP 145 [zR 16 i0, zI x4, zI x5] s3) (fun r4 s4 =>
              if r4 = x2 then
                (zX zP zK_X6_endsAt (30, [zR 16 i0, zI x1, zI x2, zI (x3 + (1 + 1)), zI x4, zI (x5 + 1)], []) s4)
                else
                (zX zP zK_X6_endsAt (30, [zR 16 i0, zI x1, zI x2, zI (x3 + (1 + 0)), zI x4, zI (x5 + 1)], []) s4)))))
        else
        (zcI (zrun zP 140 [zR 16 i0, zI x4] s2) (fun r5 s5 =>
          if r5 = 3 then
            (zX zP zK_X6_endsAt (30, [zR 16 i0, zI x1, zI x2, zI (x3 + (0 + 0)), zI x4, zI (x5 + 1)], []) s5)
            else
            (zcI (zrun zP 145 [zR 16 i0, zI x4, zI x5] s5) (fun r6 s6 =>
              if r6 = x2 then
                (zX zP zK_X6_endsAt (30, [zR 16 i0, zI x1, zI x2, zI (x3 + (0 + 1)), zI x4, zI (x5 + 1)], []) s6)
                else
                (zX zP zK_X6_endsAt (30, [zR 16 i0, zI x1, zI x2, zI (x3 + (0 + 0)), zI x4, zI (x5 + 1)], []) s6)))))))
    else
    (zX zP zK_X6_endsAt (5, [zR 16 i0, zI x1, zI x2, zI x3, zI (x4 + 1), zI x5], []) s1))) := (zun_eq zK_X6_endsAt [5, 30] 33 _ _).trans rfl
theorem e_X6_endsAt (i0 : Nat) (x1 : Int32) (x2 : Int32) (σ : zSt) : zrun zP 204 [zR 16 i0, zI x1, zI x2] σ = (
  zX zP zK_X6_endsAt (5, [zR 16 i0, zI x1, zI x2, zI 0, zI 0, zJunk], []) σ) := (zrun_eq _ _ _).trans ((zun_eq zK_X6_endsAt [5, 30] 5 _ _).trans rfl)
theorem e_X6_move (i0 : Nat) (x1 : Int32) (x2 : Int32) (x3 : Int32) (σ : zSt) : zrun zP 205 [zR 16 i0, zI x1, zI x2, zI x3] σ = (
  zcI (zrun zP 203 [zR 16 i0, zI x1, zI x2] (zms σ.1 16 i0 0 0, σ.2)) (fun r1 s1 =>
  if r1 = 0 then
    (some (.inl (some (zI 0)), s1))
    else
    (zcI (zrun zP 137 [zI x3, zI 0, zI 999] s1) (fun r2 s2 =>
      zcI (zrun zP 136 [zR 16 i0, zI r2, zI 2, zI 1] s2) (fun r3 s3 =>
        if r3 = 0 then
          (some (.inl (some (zI 0)), s3))
          else
          (zcI (zrun zP 148 [zR 16 i0, zI x1] s3) (fun r4 s4 =>
            zcI (zrun zP 213 [zR 16 i0, zI r4, zI x2, zI x3] s4) (fun r5 s5 =>
              zcI (zrun zP 136 [zR 16 i0, zI r5, zI 3, zI 2] s5) (fun r6 s6 =>
                if r6 = 0 then
                  (some (.inl (some (zI 0)), s6))
                  else
                  (zcI (zrun zP 204 [zR 16 i0, zI r4, zI x2] s6) (fun r7 s7 =>
                    zcV (zrun zP 188 [zR 16 i0] s7) (fun s8 =>
                      zcV (zrun zP 214 [zR 16 i0, zI r4, zI x2, zI x3] s8) (fun s9 =>
                        some (.inl (some (zI r7)), s9)))))))))))))) := (zrun_eq _ _ _).trans ((zun_eq zK_X6_move [] 46 _ _).trans rfl)
theorem e_X6_stopsFrom_4 (i0 : Nat) (x1 : Int32) (x2 : Int32) (x3 : Int32) (v4 : zAV) (σ : zSt) : zX zP zK_X6_stopsFrom (4, [zR 16 i0, zI x1, zI x2, zI x3, v4], []) σ = (
  zcI (zrun zP 138 [zR 16 i0] σ) (fun r1 s1 =>
  if x3 < r1 then
    (zX zP zK_X6_stopsFrom (15, [zR 16 i0, zI x1, zI x2, zI x3, zI x1], []) s1)
    else
    (some (.inl (some (zI x2)), s1)))) := (zun_eq zK_X6_stopsFrom [4, 15] 7 _ _).trans rfl
theorem e_X6_stopsFrom_15 (i0 : Nat) (x1 : Int32) (x2 : Int32) (x3 : Int32) (x4 : Int32) (σ : zSt) : zX zP zK_X6_stopsFrom (15, [zR 16 i0, zI x1, zI x2, zI x3, zI x4], []) σ = (
  if (999 : Int32) < x4 then
  (zX zP zK_X6_stopsFrom (4, [zR 16 i0, zI x1, zI x2, zI (x3 + 1), zI x4], []) σ)
  else
  (zcI (zrun zP 148 [zR 16 i0, zI x3] σ) (fun r1 s1 =>
    if r1 = x3 then
      (zcI (zrun zP 151 [zR 16 i0, zI x3, zI x4] s1) (fun r2 s2 =>
        if r2 = 0 then
          (zX zP zK_X6_stopsFrom (15, [zR 16 i0, zI x1, zI (x2 + 0), zI x3, zI (x4 + 1)], []) s2)
          else
          (zX zP zK_X6_stopsFrom (15, [zR 16 i0, zI x1, zI (x2 + 1), zI x3, zI (x4 + 1)], []) s2)))
      else
      (zX zP zK_X6_stopsFrom (15, [zR 16 i0, zI x1, zI (x2 + 0), zI x3, zI (x4 + 1)], []) s1)))) := (zun_eq zK_X6_stopsFrom [4, 15] 21 _ _).trans rfl
theorem e_X6_stopsFrom (i0 : Nat) (x1 : Int32) (σ : zSt) : zrun zP 206 [zR 16 i0, zI x1] σ = (
  zX zP zK_X6_stopsFrom (4, [zR 16 i0, zI x1, zI 0, zI 0, zJunk], []) σ) := (zrun_eq _ _ _).trans ((zun_eq zK_X6_stopsFrom [4, 15] 5 _ _).trans rfl)
theorem e_X6_latest_4 (i0 : Nat) (x1 : Int32) (x2 : Int32) (v3 : zAV) (σ : zSt) : zX zP zK_X6_latest (4, [zR 16 i0, zI x1, zI x2, v3], []) σ = (
  zcI (zrun zP 138 [zR 16 i0] σ) (fun r1 s1 =>
  if x2 < r1 then
    (zX zP zK_X6_latest (14, [zR 16 i0, zI x1, zI x2, zI 0], []) s1)
    else
    (some (.inl (some (zI x1)), s1)))) := (zun_eq zK_X6_latest [4, 14] 7 _ _).trans rfl
theorem e_X6_latest_14 (i0 : Nat) (x1 : Int32) (x2 : Int32) (x3 : Int32) (σ : zSt) : zX zP zK_X6_latest (14, [zR 16 i0, zI x1, zI x2, zI x3], []) σ = (
  zcI (zrun zP 142 [zR 16 i0, zI x2] σ) (fun r1 s1 =>
  if x3 < r1 then
    (zcI (zrun zP 145 [zR 16 i0, zI x2, zI x3] s1) (fun r2 s2 =>
      zX zP zK_X6_latest (14, [zR 16 i0, zI (if x1 < r2 then r2 else x1), zI x2, zI (x3 + 1)], []) s2))
    else
    (zX zP zK_X6_latest (4, [zR 16 i0, zI x1, zI (x2 + 1), zI x3], []) s1))) := (zun_eq zK_X6_latest [4, 14] 15 _ _).trans rfl
theorem e_X6_latest (i0 : Nat) (σ : zSt) : zrun zP 207 [zR 16 i0] σ = (
  zX zP zK_X6_latest (4, [zR 16 i0, zI (-1), zI 0, zJunk], []) σ) := (zrun_eq _ _ _).trans ((zun_eq zK_X6_latest [4, 14] 5 _ _).trans rfl)
theorem e_X6_silence_92 (i0 : Nat) (x1 : Int32) (x2 : Int32) (x3 : Int32) (x4 : Int32) (v5 : zAV) (σ : zSt) : zX zP zK_X6_silence (92, [zR 16 i0, zI x1, zI x2, zI x3, zI x4, v5], []) σ = (
  zcI (zrun zP 138 [zR 16 i0] σ) (fun r1 s1 =>
  if x4 < r1 then
    (zX zP zK_X6_silence (104, [zR 16 i0, zI x1, zI x2, zI x3, zI x4, zI 0], []) s1)
    else
    (some (.inl (some (zI x3)), s1)))) := (zun_eq zK_X6_silence [92, 104] 7 _ _).trans rfl
theorem e_X6_silence_104 (i0 : Nat) (x1 : Int32) (x2 : Int32) (x3 : Int32) (x4 : Int32) (x5 : Int32) (σ : zSt) : zX zP zK_X6_silence (104, [zR 16 i0, zI x1, zI x2, zI x3, zI x4, zI x5], []) σ = (
  zcI (zrun zP 142 [zR 16 i0, zI x4] σ) (fun r1 s1 =>
  if x5 < r1 then
    (zcI (zrun zP 144 [zR 16 i0, zI x4, zI x5] s1) (fun r2 s2 =>
      if x1 < r2 then
        (zcI (zrun zP 143 [zI x4, zI x5, zI 0] s2) (fun r3 s3 =>
          if r3 < 0 ∨ 745 ≤ Int32.toNatClampNeg r3 then
            (none)
            else
            (if r3 < 0 ∨ 745 ≤ Int32.toNatClampNeg r3 then
              (none)
              else
              (zcI (zrun zP 145 [zR 16 i0, zI x4, zI x5] (zms s3.1 31 0 (Int32.toNatClampNeg r3) ((s3.1 31 0 (Int32.toNatClampNeg r3)) + x2), s3.2)) (fun r4 s4 =>
                if x1 < r4 then
                  (zcI (zrun zP 143 [zI x4, zI x5, zI 1] s4) (fun r5 s5 =>
                    if r5 < 0 ∨ 745 ≤ Int32.toNatClampNeg r5 then
                      (none)
                      else
                      (if r5 < 0 ∨ 745 ≤ Int32.toNatClampNeg r5 then
                        (none)
                        else
                        (zX zP zK_X6_silence (104, [zR 16 i0, zI x1, zI x2, zI x3, zI x4, zI (x5 + 1)], []) (zms s5.1 31 0 (Int32.toNatClampNeg r5) ((s5.1 31 0 (Int32.toNatClampNeg r5)) + x2), s5.2)))))
                  else
                  (zX zP zK_X6_silence (104, [zR 16 i0, zI x1, zI x2, zI x3, zI x4, zI (x5 + 1)], []) s4))))))
        else
        (zcI (zrun zP 145 [zR 16 i0, zI x4, zI x5] s2) (fun r6 s6 =>
          if x1 < r6 then
            (zcI (zrun zP 143 [zI x4, zI x5, zI 1] s6) (fun r7 s7 =>
              if r7 < 0 ∨ 745 ≤ Int32.toNatClampNeg r7 then
                (none)
                else
                (if r7 < 0 ∨ 745 ≤ Int32.toNatClampNeg r7 then
                  (none)
                  else
                  (zX zP zK_X6_silence (104, [zR 16 i0, zI x1, zI x2, zI x3, zI x4, zI (x5 + 1)], []) (zms s7.1 31 0 (Int32.toNatClampNeg r7) ((s7.1 31 0 (Int32.toNatClampNeg r7)) + x2), s7.2)))))
            else
            (zX zP zK_X6_silence (104, [zR 16 i0, zI x1, zI x2, zI x3, zI x4, zI (x5 + 1)], []) s6)))))
    else
    (zX zP zK_X6_silence (92, [zR 16 i0, zI x1, zI x2, zI x3, zI (x4 + 1), zI x5], []) s1))) := (zun_eq zK_X6_silence [92, 104] 42 _ _).trans rfl
theorem e_X6_silence (i0 : Nat) (x1 : Int32) (x2 : Int32) (σ : zSt) : zrun zP 208 [zR 16 i0, zI x1, zI x2] σ = (
  zcI (zrun zP 137 [zI x1, zI 0, zI 999] (zms σ.1 16 i0 0 0, σ.2)) (fun r1 s1 =>
  if r1 = 0 then
    (zcI (zrun zP 136 [zR 16 i0, zI 0, zI 1, zI 1] s1) (fun r2 s2 =>
      if r2 = 0 then
        (some (.inl (some (zI 0)), s2))
        else
        (zcI (zrun zP 207 [zR 16 i0] s2) (fun r3 s3 =>
          if x1 < r3 then
            (zcI (zrun zP 207 [zR 16 i0] s3) (fun r4 s4 =>
              if (999 : Int32) < (r4 + x2) then
                (zcI (zrun zP 136 [zR 16 i0, zI 0, zI 2, zI 2] s4) (fun r5 s5 =>
                  if r5 = 0 then
                    (some (.inl (some (zI 0)), s5))
                    else
                    (zcI (zrun zP 206 [zR 16 i0, zI (x1 + 1)] s5) (fun r6 s6 =>
                      zcV (zrun zP 188 [zR 16 i0] s6) (fun s7 =>
                        zX zP zK_X6_silence (92, [zR 16 i0, zI x1, zI x2, zI r6, zI 0, zJunk], []) s7)))))
                else
                (zcI (zrun zP 136 [zR 16 i0, zI 1, zI 2, zI 2] s4) (fun r8 s8 =>
                  if r8 = 0 then
                    (some (.inl (some (zI 0)), s8))
                    else
                    (zcI (zrun zP 206 [zR 16 i0, zI (x1 + 1)] s8) (fun r9 s9 =>
                      zcV (zrun zP 188 [zR 16 i0] s9) (fun s10 =>
                        zX zP zK_X6_silence (92, [zR 16 i0, zI x1, zI x2, zI r9, zI 0, zJunk], []) s10)))))))
            else
            (zcI (zrun zP 136 [zR 16 i0, zI 1, zI 2, zI 2] s3) (fun r11 s11 =>
              if r11 = 0 then
                (some (.inl (some (zI 0)), s11))
                else
                (zcI (zrun zP 206 [zR 16 i0, zI (x1 + 1)] s11) (fun r12 s12 =>
                  zcV (zrun zP 188 [zR 16 i0] s12) (fun s13 =>
                    zX zP zK_X6_silence (92, [zR 16 i0, zI x1, zI x2, zI r12, zI 0, zJunk], []) s13)))))))))
    else
    (zcI (zrun zP 137 [zI x2, zI 1, zI 999] s1) (fun r14 s14 =>
      if r14 = 0 then
        (zcI (zrun zP 136 [zR 16 i0, zI 0, zI 1, zI 1] s14) (fun r15 s15 =>
          if r15 = 0 then
            (some (.inl (some (zI 0)), s15))
            else
            (zcI (zrun zP 207 [zR 16 i0] s15) (fun r16 s16 =>
              if x1 < r16 then
                (zcI (zrun zP 207 [zR 16 i0] s16) (fun r17 s17 =>
                  if (999 : Int32) < (r17 + x2) then
                    (zcI (zrun zP 136 [zR 16 i0, zI 0, zI 2, zI 2] s17) (fun r18 s18 =>
                      if r18 = 0 then
                        (some (.inl (some (zI 0)), s18))
                        else
                        (zcI (zrun zP 206 [zR 16 i0, zI (x1 + 1)] s18) (fun r19 s19 =>
                          zcV (zrun zP 188 [zR 16 i0] s19) (fun s20 =>
                            zX zP zK_X6_silence (92, [zR 16 i0, zI x1, zI x2, zI r19, zI 0, zJunk], []) s20)))))
                    else
                    (zcI (zrun zP 136 [zR 16 i0, zI 1, zI 2, zI 2] s17) (fun r21 s21 =>
                      if r21 = 0 then
                        (some (.inl (some (zI 0)), s21))
                        else
                        (zcI (zrun zP 206 [zR 16 i0, zI (x1 + 1)] s21) (fun r22 s22 =>
                          zcV (zrun zP 188 [zR 16 i0] s22) (fun s23 =>
                            zX zP zK_X6_silence (92, [zR 16 i0, zI x1, zI x2, zI r22, zI 0, zJunk], []) s23)))))))
                else
                (zcI (zrun zP 136 [zR 16 i0, zI 1, zI 2, zI 2] s16) (fun r24 s24 =>
                  if r24 = 0 then
                    (some (.inl (some (zI 0)), s24))
                    else
                    (zcI (zrun zP 206 [zR 16 i0, zI (x1 + 1)] s24) (fun r25 s25 =>
                      zcV (zrun zP 188 [zR 16 i0] s25) (fun s26 =>
                        zX zP zK_X6_silence (92, [zR 16 i0, zI x1, zI x2, zI r25, zI 0, zJunk], []) s26)))))))))
        else
        (zcI (zrun zP 136 [zR 16 i0, zI 1, zI 1, zI 1] s14) (fun r27 s27 =>
          if r27 = 0 then
            (some (.inl (some (zI 0)), s27))
            else
            (zcI (zrun zP 207 [zR 16 i0] s27) (fun r28 s28 =>
              if x1 < r28 then
                (zcI (zrun zP 207 [zR 16 i0] s28) (fun r29 s29 =>
                  if (999 : Int32) < (r29 + x2) then
                    (zcI (zrun zP 136 [zR 16 i0, zI 0, zI 2, zI 2] s29) (fun r30 s30 =>
                      if r30 = 0 then
                        (some (.inl (some (zI 0)), s30))
                        else
                        (zcI (zrun zP 206 [zR 16 i0, zI (x1 + 1)] s30) (fun r31 s31 =>
                          zcV (zrun zP 188 [zR 16 i0] s31) (fun s32 =>
                            zX zP zK_X6_silence (92, [zR 16 i0, zI x1, zI x2, zI r31, zI 0, zJunk], []) s32)))))
                    else
                    (zcI (zrun zP 136 [zR 16 i0, zI 1, zI 2, zI 2] s29) (fun r33 s33 =>
                      if r33 = 0 then
                        (some (.inl (some (zI 0)), s33))
                        else
                        (zcI (zrun zP 206 [zR 16 i0, zI (x1 + 1)] s33) (fun r34 s34 =>
                          zcV (zrun zP 188 [zR 16 i0] s34) (fun s35 =>
                            zX zP zK_X6_silence (92, [zR 16 i0, zI x1, zI x2, zI r34, zI 0, zJunk], []) s35)))))))
                else
                (zcI (zrun zP 136 [zR 16 i0, zI 1, zI 2, zI 2] s28) (fun r36 s36 =>
                  if r36 = 0 then
                    (some (.inl (some (zI 0)), s36))
                    else
                    (zcI (zrun zP 206 [zR 16 i0, zI (x1 + 1)] s36) (fun r37 s37 =>
                      zcV (zrun zP 188 [zR 16 i0] s37) (fun s38 =>
                        zX zP zK_X6_silence (92, [zR 16 i0, zI x1, zI x2, zI r37, zI 0, zJunk], []) s38))))))))))))) := (zrun_eq _ _ _).trans ((zun_eq zK_X6_silence [92, 104] 48 _ _).trans rfl)
theorem e_X6_areLetters_4 (x0 : Int32) (x1 : Int32) (x2 : Int32) (σ : zSt) : zX zP zK_X6_areLetters (4, [zI x0, zI x1, zI x2], []) σ = (
  if (0 : Int32) < x1 then
  (if (32 : Int32) = 0 then
    (none)
    else
    (zcI (zrun zP 137 [zI (x1 - x1 / 32 * 32), zI 1, zI 26] σ) (fun r1 s1 =>
      if r1 = 0 then
        (some (.inl (some (zI 0)), s1))
        else
        (if (32 : Int32) = 0 then
          (none)
          else
          (zX zP zK_X6_areLetters (4, [zI x0, zI (x1 / 32), zI (x2 + 1)], []) s1)))))
  else
  (if x0 < 0 then
    (some (.inl (some (zI 0)), σ))
    else
    (if (4 : Int32) < x2 then
      (some (.inl (some (zI 0)), σ))
      else
      (some (.inl (some (zI 1)), σ))))) := (zun_eq zK_X6_areLetters [4] 16 _ _).trans rfl
theorem e_X6_areLetters (x0 : Int32) (σ : zSt) : zrun zP 209 [zI x0] σ = (
  zX zP zK_X6_areLetters (4, [zI x0, zI x0, zI 0], []) σ) := (zrun_eq _ _ _).trans ((zun_eq zK_X6_areLetters [4] 5 _ _).trans rfl)
theorem e_X6_label (i0 : Nat) (x1 : Int32) (x2 : Int32) (x3 : Int32) (σ : zSt) : zrun zP 210 [zR 16 i0, zI x1, zI x2, zI x3] σ = (
  zcI (zrun zP 190 [zR 16 i0, zI x1, zI x2] (zms σ.1 16 i0 0 0, σ.2)) (fun r1 s1 =>
  if r1 = 0 then
    (some (.inl (some (zI 0)), s1))
    else
    (zcI (zrun zP 209 [zI x3] s1) (fun r2 s2 =>
      zcI (zrun zP 136 [zR 16 i0, zI r2, zI 2, zI 1] s2) (fun r3 s3 =>
        if r3 = 0 then
          (some (.inl (some (zI 0)), s3))
          else
          (zcV (zrun zP 188 [zR 16 i0] s3) (fun s4 =>
            zcI (zrun zP 146 [zR 16 i0, zI x1, zI x2] s4) (fun r5 s5 =>
              zcI (zrun zP 143 [zI x1, zI x2, zI 2] s5) (fun r6 s6 =>
                if r6 < 0 ∨ 745 ≤ Int32.toNatClampNeg r6 then
                  (none)
                  else
                  (some (.inl (some (zI r5)), (zms s6.1 31 0 (Int32.toNatClampNeg r6) x3, s6.2)))))))))))) := (zrun_eq _ _ _).trans ((zun_eq zK_X6_label [] 33 _ _).trans rfl)
theorem e_X6_adopt_33 (i0 : Nat) (x1 : Int32) (x2 : Int32) (x3 : Int32) (x4 : Int32) (σ : zSt) : zX zP zK_X6_adopt (33, [zR 16 i0, zI x1, zI x2, zI x3, zI x4], []) σ = (
  zcI (zrun zP 142 [zR 16 i0, zI x1] σ) (fun r1 s1 =>
  if x4 < r1 then
    (zcI (zrun zP 212 [zR 16 i0, zI x1, zI x4, zI x2] s1) (fun r2 s2 =>
      if (0 : Int32) < r2 then
        (zX zP zK_X6_adopt (33, [zR 16 i0, zI x1, zI x2, zI (x3 + 1), zI (x4 + 1)], []) s2)
        else
        (zX zP zK_X6_adopt (33, [zR 16 i0, zI x1, zI x2, zI (x3 + 0), zI (x4 + 1)], []) s2)))
    else
    (if x3 = 0 then
      (some (.inl (some (zI 0)), s1))
      else
      (zcV (zrun zP 188 [zR 16 i0] s1) (fun s3 =>
        zX zP zK_X6_adopt (81, [zR 16 i0, zI x1, zI x2, zI x3, zI 0], []) s3))))) := (zun_eq zK_X6_adopt [33, 81] 19 _ _).trans rfl
theorem e_X6_adopt_81 (i0 : Nat) (x1 : Int32) (x2 : Int32) (x3 : Int32) (x4 : Int32) (σ : zSt) : zX zP zK_X6_adopt (81, [zR 16 i0, zI x1, zI x2, zI x3, zI x4], []) σ = (
  zcI (zrun zP 142 [zR 16 i0, zI x1] σ) (fun r1 s1 =>
  if x4 < r1 then
    (zcI (zrun zP 212 [zR 16 i0, zI x1, zI x4, zI x2] s1) (fun r2 s2 =>
      if (0 : Int32) < r2 then
        (zcI (zrun zP 143 [zI x1, zI x4, zI 2] s2) (fun r3 s3 =>
          zcI (zrun zP 212 [zR 16 i0, zI x1, zI x4, zI x2] s3) (fun r4 s4 =>
            if r3 < 0 ∨ 745 ≤ Int32.toNatClampNeg r3 then
              (none)
              else
              (zX zP zK_X6_adopt (81, [zR 16 i0, zI x1, zI x2, zI x3, zI (x4 + 1)], []) (zms s4.1 31 0 (Int32.toNatClampNeg r3) r4, s4.2)))))
        else
        (zX zP zK_X6_adopt (81, [zR 16 i0, zI x1, zI x2, zI x3, zI (x4 + 1)], []) s2)))
    else
    (some (.inl (some (zI x3)), s1)))) := (zun_eq zK_X6_adopt [33, 81] 26 _ _).trans rfl
theorem e_X6_adopt (i0 : Nat) (x1 : Int32) (σ : zSt) : zrun zP 211 [zR 16 i0, zI x1] σ = (
  zcI (zrun zP 189 [zR 16 i0, zI x1] (zms σ.1 16 i0 0 0, σ.2)) (fun r1 s1 =>
  if r1 = 0 then
    (some (.inl (some (zI 0)), s1))
    else
    (zcI (zrun zP 236 [zR 16 i0, zI x1] s1) (fun r2 s2 =>
      if r2 = (-1) then
        (some (.inl (some (zI (-1))), s2))
        else
        (zX zP zK_X6_adopt (33, [zR 16 i0, zI x1, zI r2, zI 0, zI 0], []) s2))))) := (zrun_eq _ _ _).trans ((zun_eq zK_X6_adopt [33, 81] 19 _ _).trans rfl)
theorem e_X6_adopted_14 (i0 : Nat) (x1 : Int32) (x2 : Int32) (x3 : Int32) (x4 : Int32) (σ : zSt) : zX zP zK_X6_adopted (14, [zR 16 i0, zI x1, zI x2, zI x3, zI x4], []) σ = (
  zcI (zrun zP 139 [zI x3, zI 2] σ) (fun r1 s1 =>
  if r1 < 0 ∨ 745 ≤ Int32.toNatClampNeg r1 then
    (none)
    else
    (if x4 < (s1.1 32 0 (Int32.toNatClampNeg r1)) then
      (zcI (zrun zP 143 [zI x3, zI x4, zI 0] s1) (fun r2 s2 =>
        if r2 < 0 ∨ 745 ≤ Int32.toNatClampNeg r2 then
          (none)
          else
          (zcI (zrun zP 144 [zR 16 i0, zI x1, zI x2] s2) (fun r3 s3 =>
            if (s2.1 32 0 (Int32.toNatClampNeg r2)) = r3 then
              (zcI (zrun zP 143 [zI x3, zI x4, zI 1] s3) (fun r4 s4 =>
                if r4 < 0 ∨ 745 ≤ Int32.toNatClampNeg r4 then
                  (none)
                  else
                  (zcI (zrun zP 145 [zR 16 i0, zI x1, zI x2] s4) (fun r5 s5 =>
                    if (s4.1 32 0 (Int32.toNatClampNeg r4)) = r5 then
                      (zcI (zrun zP 143 [zI x3, zI x4, zI 2] s5) (fun r6 s6 =>
                        if r6 < 0 ∨ 745 ≤ Int32.toNatClampNeg r6 then
                          (none)
                          else
                          (some (.inl (some (zI (s6.1 32 0 (Int32.toNatClampNeg r6)))), s6))))
                      else
                      (zX zP zK_X6_adopted (14, [zR 16 i0, zI x1, zI x2, zI x3, zI (x4 + 1)], []) s5)))))
              else
              (zX zP zK_X6_adopted (14, [zR 16 i0, zI x1, zI x2, zI x3, zI (x4 + 1)], []) s3)))))
      else
      (some (.inl (some (zI 0)), s1))))) := (zun_eq zK_X6_adopted [14] 41 _ _).trans rfl
theorem e_X6_adopted (i0 : Nat) (x1 : Int32) (x2 : Int32) (x3 : Int32) (σ : zSt) : zrun zP 212 [zR 16 i0, zI x1, zI x2, zI x3] σ = (
  zcI (zrun zP 146 [zR 16 i0, zI x1, zI x2] σ) (fun r1 s1 =>
  if r1 = 0 then
    (zX zP zK_X6_adopted (14, [zR 16 i0, zI x1, zI x2, zI x3, zI 0], []) s1)
    else
    (some (.inl (some (zI 0)), s1)))) := (zrun_eq _ _ _).trans ((zun_eq zK_X6_adopted [14] 8 _ _).trans rfl)
theorem e_X6_mayMove (i0 : Nat) (x1 : Int32) (x2 : Int32) (x3 : Int32) (σ : zSt) : zrun zP 213 [zR 16 i0, zI x1, zI x2, zI x3] σ = (
  zcI (zrun zP 201 [zR 16 i0, zI x1, zI x2] σ) (fun r1 s1 =>
  if r1 < x3 then
    (zcI (zrun zP 202 [zR 16 i0, zI x1, zI x2] s1) (fun r2 s2 =>
      if x3 < r2 then
        (some (.inl (some (zI 1)), s2))
        else
        (some (.inl (some (zI 0)), s2))))
    else
    (some (.inl (some (zI 0)), s1)))) := (zrun_eq _ _ _).trans ((zun_eq zK_X6_mayMove [] 16 _ _).trans rfl)
theorem e_X6_moves_3 (i0 : Nat) (x1 : Int32) (x2 : Int32) (x3 : Int32) (x4 : Int32) (v5 : zAV) (σ : zSt) : zX zP zK_X6_moves (3, [zR 16 i0, zI x1, zI x2, zI x3, zI x4, v5], []) σ = (
  zcI (zrun zP 138 [zR 16 i0] σ) (fun r1 s1 =>
  if x4 < r1 then
    (zcI (zrun zP 148 [zR 16 i0, zI x4] s1) (fun r2 s2 =>
      if r2 = x1 then
        (zX zP zK_X6_moves (28, [zR 16 i0, zI x1, zI x2, zI x3, zI x4, zI 0], []) s2)
        else
        (zX zP zK_X6_moves (3, [zR 16 i0, zI x1, zI x2, zI x3, zI (x4 + 1), v5], []) s2)))
    else
    (some (.inl none, s1)))) := (zun_eq zK_X6_moves [3, 28] 13 _ _).trans rfl
theorem e_X6_moves_28 (i0 : Nat) (x1 : Int32) (x2 : Int32) (x3 : Int32) (x4 : Int32) (x5 : Int32) (σ : zSt) : zX zP zK_X6_moves (28, [zR 16 i0, zI x1, zI x2, zI x3, zI x4, zI x5], []) σ = (
  zcI (zrun zP 142 [zR 16 i0, zI x4] σ) (fun r1 s1 =>
  if x5 < r1 then
    (zcI (zrun zP 144 [zR 16 i0, zI x4, zI x5] s1) (fun r2 s2 =>
      if r2 = x2 then
        (zcI (zrun zP 143 [zI x4, zI x5, zI 0] s2) (fun r3 s3 =>
          if r3 < 0 ∨ 745 ≤ Int32.toNatClampNeg r3 then
            (none)
            else
            (zcI (zrun zP 145 [zR 16 i0, zI x4, zI x5] (zms s3.1 31 0 (Int32.toNatClampNeg r3) x3, s3.2)) (fun r4 s4 =>
              if r4 = x2 then
                (zcI (zrun zP 143 [zI x4, zI x5, zI 1] s4) (fun r5 s5 =>
                  if r5 < 0 ∨ 745 ≤ Int32.toNatClampNeg r5 then
                    (none)
                    else
                    (zX zP zK_X6_moves (28, [zR 16 i0, zI x1, zI x2, zI x3, zI x4, zI (x5 + 1)], []) (zms s5.1 31 0 (Int32.toNatClampNeg r5) x3, s5.2))))
                else
                (zX zP zK_X6_moves (28, [zR 16 i0, zI x1, zI x2, zI x3, zI x4, zI (x5 + 1)], []) s4)))))
        else
        (zcI (zrun zP 145 [zR 16 i0, zI x4, zI x5] s2) (fun r6 s6 =>
          if r6 = x2 then
            (zcI (zrun zP 143 [zI x4, zI x5, zI 1] s6) (fun r7 s7 =>
              if r7 < 0 ∨ 745 ≤ Int32.toNatClampNeg r7 then
                (none)
                else
                (zX zP zK_X6_moves (28, [zR 16 i0, zI x1, zI x2, zI x3, zI x4, zI (x5 + 1)], []) (zms s7.1 31 0 (Int32.toNatClampNeg r7) x3, s7.2))))
            else
            (zX zP zK_X6_moves (28, [zR 16 i0, zI x1, zI x2, zI x3, zI x4, zI (x5 + 1)], []) s6)))))
    else
    (zX zP zK_X6_moves (3, [zR 16 i0, zI x1, zI x2, zI x3, zI (x4 + 1), zI x5], []) s1))) := (zun_eq zK_X6_moves [3, 28] 36 _ _).trans rfl
theorem e_X6_moves (i0 : Nat) (x1 : Int32) (x2 : Int32) (x3 : Int32) (σ : zSt) : zrun zP 214 [zR 16 i0, zI x1, zI x2, zI x3] σ = (
  zX zP zK_X6_moves (3, [zR 16 i0, zI x1, zI x2, zI x3, zI 0, zJunk], []) σ) := (zrun_eq _ _ _).trans ((zun_eq zK_X6_moves [3, 28] 3 _ _).trans rfl)
theorem e_X6_nearest_5 (k0 i0 : Nat) (x1 : Int32) (x2 : Int32) (x3 : Int32) (x4 : Int32) (σ : zSt) : zX zP zK_X6_nearest (5, [zR (k0 + 1) i0, zI x1, zI x2, zI x3, zI x4], []) σ = (
  if x4 < x1 then
  (if x3 = (-1) then
    (if x4 < 0 ∨ zlenI (k0 + 1) i0 ≤ Int32.toNatClampNeg x4 then
      (none)
      else
      (zX zP zK_X6_nearest (5, [zR (k0 + 1) i0, zI x1, zI x2, zI (σ.1 (k0 + 1) i0 (Int32.toNatClampNeg x4)), zI (x4 + 1)], []) σ))
    else
    (if x4 < 0 ∨ zlenI (k0 + 1) i0 ≤ Int32.toNatClampNeg x4 then
      (none)
      else
      (if (if 0 ≤ ((σ.1 (k0 + 1) i0 (Int32.toNatClampNeg x4)) - x2) then ((σ.1 (k0 + 1) i0 (Int32.toNatClampNeg x4)) - x2) else 0 - ((σ.1 (k0 + 1) i0 (Int32.toNatClampNeg x4)) - x2)) < (if 0 ≤ (x3 - x2) then (x3 - x2) else 0 - (x3 - x2)) then
        (if x4 < 0 ∨ zlenI (k0 + 1) i0 ≤ Int32.toNatClampNeg x4 then
          (none)
          else
          (zX zP zK_X6_nearest (5, [zR (k0 + 1) i0, zI x1, zI x2, zI (σ.1 (k0 + 1) i0 (Int32.toNatClampNeg x4)), zI (x4 + 1)], []) σ))
        else
        (zX zP zK_X6_nearest (5, [zR (k0 + 1) i0, zI x1, zI x2, zI x3, zI (x4 + 1)], []) σ))))
  else
  (some (.inl (some (zI x3)), σ))) := (zun_eq zK_X6_nearest [5] 24 _ _).trans rfl
theorem e_X6_nearest (k0 i0 : Nat) (x1 : Int32) (x2 : Int32) (σ : zSt) : zrun zP 215 [zR (k0 + 1) i0, zI x1, zI x2] σ = (
  zX zP zK_X6_nearest (5, [zR (k0 + 1) i0, zI x1, zI x2, zI (-1), zI 0], []) σ) := (zrun_eq _ _ _).trans ((zun_eq zK_X6_nearest [5] 5 _ _).trans rfl)
theorem e_X6_snap_90 (i0 : Nat) (x1 : Int32) (x2 : Int32) (x3 : Int32) (x4 : Int32) (x5 : Int32) (x6 : Int32) (x7 : Int32) (v8 : zAV) (σ : zSt) : zX zP zK_X6_snap (90, [zR 16 i0, zI x1, zI x2, zI x3, zI x4, zI x5, zI x6, zI x7, v8], []) σ = (
  if x7 < x4 then
  (if x7 < 0 ∨ 80 ≤ Int32.toNatClampNeg x7 then
    (none)
    else
    (zcI (zrun zP 215 [zR 38 0, zI x5, zI (σ.1 37 0 (Int32.toNatClampNeg x7))] σ) (fun r1 s1 =>
      if r1 = (-1) then
        (zX zP zK_X6_snap (90, [zR 16 i0, zI x1, zI x2, zI x3, zI x4, zI x5, zI x6, zI (x7 + 1), zI r1], []) s1)
        else
        (if x7 < 0 ∨ 80 ≤ Int32.toNatClampNeg x7 then
          (none)
          else
          (if r1 = (s1.1 37 0 (Int32.toNatClampNeg x7)) then
            (zX zP zK_X6_snap (90, [zR 16 i0, zI x1, zI x2, zI x3, zI x4, zI x5, zI x6, zI (x7 + 1), zI r1], []) s1)
            else
            (if x7 < 0 ∨ 80 ≤ Int32.toNatClampNeg x7 then
              (none)
              else
              (if x2 < (if 0 ≤ (r1 - (s1.1 37 0 (Int32.toNatClampNeg x7))) then (r1 - (s1.1 37 0 (Int32.toNatClampNeg x7))) else 0 - (r1 - (s1.1 37 0 (Int32.toNatClampNeg x7)))) then
                (zX zP zK_X6_snap (90, [zR 16 i0, zI x1, zI x2, zI x3, zI x4, zI x5, zI x6, zI (x7 + 1), zI r1], []) s1)
                else
                (zcI (zrun zP 148 [zR 16 i0, zI x1] s1) (fun r2 s2 =>
                  if x7 < 0 ∨ 80 ≤ Int32.toNatClampNeg x7 then
                    (none)
                    else
                    (zcI (zrun zP 213 [zR 16 i0, zI r2, zI (s2.1 37 0 (Int32.toNatClampNeg x7)), zI r1] s2) (fun r3 s3 =>
                      if r3 = 0 then
                        (zX zP zK_X6_snap (90, [zR 16 i0, zI x1, zI x2, zI x3, zI x4, zI x5, zI x6, zI (x7 + 1), zI r1], []) s3)
                        else
                        (zcI (zrun zP 148 [zR 16 i0, zI x1] s3) (fun r4 s4 =>
                          if x7 < 0 ∨ 80 ≤ Int32.toNatClampNeg x7 then
                            (none)
                            else
                            (zcV (zrun zP 214 [zR 16 i0, zI r4, zI (s4.1 37 0 (Int32.toNatClampNeg x7)), zI r1] s4) (fun s5 =>
                              zX zP zK_X6_snap (90, [zR 16 i0, zI x1, zI x2, zI x3, zI x4, zI x5, zI (x6 + 1), zI (x7 + 1), zI r1], []) s5)))))))))))))))
  else
  (if x6 = 0 then
    (some (.inl (some (zI 0)), σ))
    else
    (zcV (zrun zP 188 [zR 16 i0] σ) (fun s6 =>
      zX zP zK_X6_snap (215, [zR 16 i0, zI x1, zI x2, zI x3, zI x4, zI x5, zI x6, zI 0, v8], []) s6)))) := (zun_eq zK_X6_snap [90, 215] 55 _ _).trans rfl
theorem e_X6_snap_215 (i0 : Nat) (x1 : Int32) (x2 : Int32) (x3 : Int32) (x4 : Int32) (x5 : Int32) (x6 : Int32) (x7 : Int32) (v8 : zAV) (σ : zSt) : zX zP zK_X6_snap (215, [zR 16 i0, zI x1, zI x2, zI x3, zI x4, zI x5, zI x6, zI x7, v8], []) σ = (
  if x7 < 745 then
  (if x7 < 0 ∨ 745 ≤ Int32.toNatClampNeg x7 then
    (none)
    else
    (if ((745 * ((σ.1 16 i0 6) - 1)) + x7) < 0 ∨ 8940 ≤ Int32.toNatClampNeg ((745 * ((σ.1 16 i0 6) - 1)) + x7) then
      (none)
      else
      (zX zP zK_X6_snap (215, [zR 16 i0, zI x1, zI x2, zI x3, zI x4, zI x5, zI x6, zI (x7 + 1), v8], []) (zms σ.1 34 0 (Int32.toNatClampNeg ((745 * ((σ.1 16 i0 6) - 1)) + x7)) (σ.1 33 0 (Int32.toNatClampNeg x7)), σ.2))))
  else
  (some (.inl (some (zI x6)), σ))) := (zun_eq zK_X6_snap [90, 215] 21 _ _).trans rfl
theorem e_X6_snap (i0 : Nat) (x1 : Int32) (x2 : Int32) (σ : zSt) : zrun zP 216 [zR 16 i0, zI x1, zI x2] σ = (
  zcI (zrun zP 189 [zR 16 i0, zI x1] (zms σ.1 16 i0 0 0, σ.2)) (fun r1 s1 =>
  if r1 = 0 then
    (some (.inl (some (zI 0)), s1))
    else
    (zcI (zrun zP 137 [zI x2, zI 1, zI 999] s1) (fun r2 s2 =>
      zcI (zrun zP 136 [zR 16 i0, zI r2, zI 2, zI 1] s2) (fun r3 s3 =>
        if r3 = 0 then
          (some (.inl (some (zI 0)), s3))
          else
          (zcI (zrun zP 236 [zR 16 i0, zI x1] s3) (fun r4 s4 =>
            if r4 = (-1) then
              (some (.inl (some (zI (-1))), s4))
              else
              (zcI (zrun zP 239 [zR 31 0, zI x1, zR 37 0] s4) (fun r5 s5 =>
                zcI (zrun zP 239 [zR 32 0, zI r4, zR 38 0] s5) (fun r6 s6 =>
                  zcV (zrun zP 147 [zR 31 0, zR 33 0] s6) (fun s7 =>
                    zX zP zK_X6_snap (90, [zR 16 i0, zI x1, zI x2, zI r4, zI r5, zI r6, zI 0, zI 0, zJunk], []) s7))))))))))) := (zrun_eq _ _ _).trans ((zun_eq zK_X6_snap [90, 215] 47 _ _).trans rfl)
theorem e_X6_gaps_44 (i0 : Nat) (x1 : Int32) (x2 : Int32) (x3 : Int32) (x4 : Int32) (x5 : Int32) (x6 : Int32) (x7 : Int32) (v8 : zAV) (σ : zSt) : zX zP zK_X6_gaps (44, [zR 16 i0, zI x1, zI x2, zI x3, zI x4, zI x5, zI x6, zI x7, v8], []) σ = (
  zcI (zrun zP 142 [zR 16 i0, zI x1] σ) (fun r1 s1 =>
  if (x7 + 1) < r1 then
    (zcI (zrun zP 140 [zR 16 i0, zI x1] s1) (fun r2 s2 =>
      if r2 = 3 then
        (if x2 = 0 then
          (some (.inl (some (zI x3)), s2))
          else
          (if x2 = 1 then
            (some (.inl (some (zI x4)), s2))
            else
            (if x2 = 2 then
              (some (.inl (some (zI x5)), s2))
              else
              (some (.inl (some (zI x6)), s2)))))
        else
        (zcI (zrun zP 144 [zR 16 i0, zI x1, zI (x7 + 1)] s2) (fun r3 s3 =>
          zcI (zrun zP 145 [zR 16 i0, zI x1, zI x7] s3) (fun r4 s4 =>
            if (r3 - r4) = 0 then
              (zX zP zK_X6_gaps (44, [zR 16 i0, zI x1, zI x2, zI x3, zI x4, zI x5, zI x6, zI (x7 + 1), zI (r3 - r4)], []) s4)
              else
              (zcI (zrun zP 194 [zR 16 i0, zI x1, zI x7] s4) (fun r5 s5 =>
                zcI (zrun zP 194 [zR 16 i0, zI x1, zI (x7 + 1)] s5) (fun r6 s6 =>
                  if r5 = r6 then
                    (if x5 < (r3 - r4) then
                      (zX zP zK_X6_gaps (44, [zR 16 i0, zI x1, zI x2, zI (x3 + 1), zI x7, zI (r3 - r4), zI (x6 + (r3 - r4)), zI (x7 + 1), zI (r3 - r4)], []) s6)
                      else
                      (zX zP zK_X6_gaps (44, [zR 16 i0, zI x1, zI x2, zI (x3 + 1), zI x4, zI x5, zI (x6 + (r3 - r4)), zI (x7 + 1), zI (r3 - r4)], []) s6))
                    else
                    (zX zP zK_X6_gaps (44, [zR 16 i0, zI x1, zI x2, zI x3, zI x4, zI x5, zI x6, zI (x7 + 1), zI (r3 - r4)], []) s6)))))))))
    else
    (if x2 = 0 then
      (some (.inl (some (zI x3)), s1))
      else
      (if x2 = 1 then
        (some (.inl (some (zI x4)), s1))
        else
        (if x2 = 2 then
          (some (.inl (some (zI x5)), s1))
          else
          (some (.inl (some (zI x6)), s1))))))) := (zun_eq zK_X6_gaps [44] 52 _ _).trans rfl
theorem e_X6_gaps (i0 : Nat) (x1 : Int32) (x2 : Int32) (σ : zSt) : zrun zP 217 [zR 16 i0, zI x1, zI x2] σ = (
  zcI (zrun zP 189 [zR 16 i0, zI x1] (zms σ.1 16 i0 0 0, σ.2)) (fun r1 s1 =>
  if r1 = 0 then
    (some (.inl (some (zI 0)), s1))
    else
    (zcI (zrun zP 137 [zI x2, zI 0, zI 3] s1) (fun r2 s2 =>
      zcI (zrun zP 136 [zR 16 i0, zI r2, zI 2, zI 1] s2) (fun r3 s3 =>
        if r3 = 0 then
          (some (.inl (some (zI 0)), s3))
          else
          (zX zP zK_X6_gaps (44, [zR 16 i0, zI x1, zI x2, zI 0, zI (-1), zI 0, zI 0, zI 0, zJunk], []) s3)))))) := (zrun_eq _ _ _).trans ((zun_eq zK_X6_gaps [44] 27 _ _).trans rfl)
theorem e_X6_undo_26 (i0 : Nat) (x1 : Int32) (σ : zSt) : zX zP zK_X6_undo (26, [zR 16 i0, zI x1], []) σ = (
  if x1 < 745 then
  (if ((745 * (σ.1 16 i0 6)) + x1) < 0 ∨ 8940 ≤ Int32.toNatClampNeg ((745 * (σ.1 16 i0 6)) + x1) then
    (none)
    else
    (if x1 < 0 ∨ 745 ≤ Int32.toNatClampNeg x1 then
      (none)
      else
      (zX zP zK_X6_undo (26, [zR 16 i0, zI (x1 + 1)], []) (zms σ.1 31 0 (Int32.toNatClampNeg x1) (σ.1 34 0 (Int32.toNatClampNeg ((745 * (σ.1 16 i0 6)) + x1))), σ.2))))
  else
  (some (.inl (some (zI (σ.1 16 i0 6))), σ))) := (zun_eq zK_X6_undo [26] 19 _ _).trans rfl
theorem e_X6_undo (i0 : Nat) (σ : zSt) : zrun zP 218 [zR 16 i0] σ = (
  if ((zms σ.1 16 i0 0 0) 16 i0 6) = 0 then
  (some (.inl (some (zI (-1))), (zms σ.1 16 i0 0 0, σ.2)))
  else
  (zX zP zK_X6_undo (26, [zR 16 i0, zI 0], []) (zms (zms σ.1 16 i0 0 0) 16 i0 6 (((zms σ.1 16 i0 0 0) 16 i0 6) - 1), σ.2))) := (zrun_eq _ _ _).trans ((zun_eq zK_X6_undo [26] 15 _ _).trans rfl)
theorem e_X6_keep (i0 : Nat) (σ : zSt) : zrun zP 219 [zR 16 i0] σ = (
  zcV (zrun zP 147 [zR 31 0, zR 32 0] (zms σ.1 16 i0 0 0, σ.2)) (fun s1 =>
  zcI (zrun zP 185 [zR 16 i0, zR 31 0] (zms s1.1 16 i0 7 1, s1.2)) (fun r2 s2 =>
    some (.inl (some (zI r2)), s2)))) := (zrun_eq _ _ _).trans ((zun_eq zK_X6_keep [] 17 _ _).trans rfl)
theorem e_X6_families_4 (i0 : Nat) (x1 : Int32) (x2 : Int32) (σ : zSt) : zX zP zK_X6_families (4, [zR 16 i0, zI x1, zI x2], []) σ = (
  zcI (zrun zP 138 [zR 16 i0] σ) (fun r1 s1 =>
  if x2 < r1 then
    (zcI (zrun zP 141 [zR 16 i0, zI x2] s1) (fun r2 s2 =>
      if r2 = (-1) then
        (zX zP zK_X6_families (4, [zR 16 i0, zI (x1 + 1), zI (x2 + 1)], []) s2)
        else
        (zX zP zK_X6_families (4, [zR 16 i0, zI (x1 + 0), zI (x2 + 1)], []) s2)))
    else
    (some (.inl (some (zI x1)), s1)))) := (zun_eq zK_X6_families [4] 17 _ _).trans rfl
theorem e_X6_families (i0 : Nat) (σ : zSt) : zrun zP 220 [zR 16 i0] σ = (
  zX zP zK_X6_families (4, [zR 16 i0, zI 0, zI 0], []) σ) := (zrun_eq _ _ _).trans ((zun_eq zK_X6_families [4] 5 _ _).trans rfl)
theorem e_X6_told (i0 : Nat) (x1 : Int32) (σ : zSt) : zrun zP 221 [zR 16 i0, zI x1] σ = (
  zcI (zrun zP 137 [zI x1, zI 0, zI 5] (zms σ.1 16 i0 0 0, σ.2)) (fun r1 s1 =>
  zcI (zrun zP 136 [zR 16 i0, zI r1, zI 1, zI 1] s1) (fun r2 s2 =>
    if r2 = 0 then
      (some (.inl (some (zI 0)), s2))
      else
      (if x1 = 0 then
        (zcI (zrun zP 138 [zR 16 i0] s2) (fun r6 s6 =>
          some (.inl (some (zI r6)), s6)))
        else
        (if x1 = (0 + 1) then
        (zcI (zrun zP 185 [zR 16 i0, zR 31 0] s2) (fun r5 s5 =>
          some (.inl (some (zI r5)), s5)))
        else
        (if x1 = ((0 + 1) + 1) then
        (zcI (zrun zP 220 [zR 16 i0] s2) (fun r4 s4 =>
          some (.inl (some (zI r4)), s4)))
        else
        (if x1 = (((0 + 1) + 1) + 1) then
        (some (.inl (some (zI (s2.1 16 i0 6))), s2))
        else
        (if x1 = ((((0 + 1) + 1) + 1) + 1) then
        (some (.inl (some (zI (s2.1 16 i0 10))), s2))
        else
        (if (s2.1 16 i0 7) = 0 then
          (some (.inl (some (zI (-1))), s2))
          else
          (zcI (zrun zP 185 [zR 16 i0, zR 32 0] s2) (fun r3 s3 =>
            some (.inl (some (zI r3)), s3)))))))))))) := (zrun_eq _ _ _).trans ((zun_eq zK_X6_told [] 24 _ _).trans rfl)
theorem e_X6_timeOf_4 (i0 : Nat) (x1 : Int32) (x2 : Int32) (x3 : Int32) (σ : zSt) : zX zP zK_X6_timeOf (4, [zR 16 i0, zI x1, zI x2, zI x3], []) σ = (
  zcI (zrun zP 142 [zR 16 i0, zI x1] σ) (fun r1 s1 =>
  if x3 < r1 then
    (zcI (zrun zP 145 [zR 16 i0, zI x1, zI x3] s1) (fun r2 s2 =>
      zcI (zrun zP 144 [zR 16 i0, zI x1, zI x3] s2) (fun r3 s3 =>
        zX zP zK_X6_timeOf (4, [zR 16 i0, zI x1, zI (x2 + (r2 - r3)), zI (x3 + 1)], []) s3)))
    else
    (some (.inl (some (zI x2)), s1)))) := (zun_eq zK_X6_timeOf [4] 20 _ _).trans rfl
theorem e_X6_timeOf (i0 : Nat) (x1 : Int32) (σ : zSt) : zrun zP 222 [zR 16 i0, zI x1] σ = (
  zX zP zK_X6_timeOf (4, [zR 16 i0, zI x1, zI 0, zI 0], []) σ) := (zrun_eq _ _ _).trans ((zun_eq zK_X6_timeOf [4] 5 _ _).trans rfl)
theorem e_X6_childMany_4 (i0 : Nat) (x1 : Int32) (x2 : Int32) (x3 : Int32) (σ : zSt) : zX zP zK_X6_childMany (4, [zR 16 i0, zI x1, zI x2, zI x3], []) σ = (
  zcI (zrun zP 138 [zR 16 i0] σ) (fun r1 s1 =>
  if x3 < r1 then
    (zcI (zrun zP 141 [zR 16 i0, zI x3] s1) (fun r2 s2 =>
      if r2 = x1 then
        (zX zP zK_X6_childMany (4, [zR 16 i0, zI x1, zI (x2 + 1), zI (x3 + 1)], []) s2)
        else
        (zX zP zK_X6_childMany (4, [zR 16 i0, zI x1, zI (x2 + 0), zI (x3 + 1)], []) s2)))
    else
    (some (.inl (some (zI x2)), s1)))) := (zun_eq zK_X6_childMany [4] 17 _ _).trans rfl
theorem e_X6_childMany (i0 : Nat) (x1 : Int32) (σ : zSt) : zrun zP 223 [zR 16 i0, zI x1] σ = (
  zX zP zK_X6_childMany (4, [zR 16 i0, zI x1, zI 0, zI 0], []) σ) := (zrun_eq _ _ _).trans ((zun_eq zK_X6_childMany [4] 5 _ _).trans rfl)
theorem e_X6_stopMany_4 (i0 : Nat) (x1 : Int32) (x2 : Int32) (x3 : Int32) (σ : zSt) : zX zP zK_X6_stopMany (4, [zR 16 i0, zI x1, zI x2, zI x3], []) σ = (
  if (999 : Int32) < x3 then
  (some (.inl (some (zI x2)), σ))
  else
  (zcI (zrun zP 151 [zR 16 i0, zI x1, zI x3] σ) (fun r1 s1 =>
    if r1 = 0 then
      (zX zP zK_X6_stopMany (4, [zR 16 i0, zI x1, zI (x2 + 0), zI (x3 + 1)], []) s1)
      else
      (zX zP zK_X6_stopMany (4, [zR 16 i0, zI x1, zI (x2 + 1), zI (x3 + 1)], []) s1)))) := (zun_eq zK_X6_stopMany [4] 16 _ _).trans rfl
theorem e_X6_stopMany (i0 : Nat) (x1 : Int32) (σ : zSt) : zrun zP 224 [zR 16 i0, zI x1] σ = (
  zX zP zK_X6_stopMany (4, [zR 16 i0, zI x1, zI 0, zI 0], []) σ) := (zrun_eq _ _ _).trans ((zun_eq zK_X6_stopMany [4] 5 _ _).trans rfl)
theorem e_X6_tier (i0 : Nat) (x1 : Int32) (x2 : Int32) (σ : zSt) : zrun zP 225 [zR 16 i0, zI x1, zI x2] σ = (
  zcI (zrun zP 189 [zR 16 i0, zI x1] (zms σ.1 16 i0 0 0, σ.2)) (fun r1 s1 =>
  if r1 = 0 then
    (some (.inl (some (zI 0)), s1))
    else
    (zcI (zrun zP 137 [zI x2, zI 0, zI 8] s1) (fun r2 s2 =>
      zcI (zrun zP 136 [zR 16 i0, zI r2, zI 2, zI 1] s2) (fun r3 s3 =>
        if r3 = 0 then
          (some (.inl (some (zI 0)), s3))
          else
          (if x2 = 0 then
            (zcI (zrun zP 140 [zR 16 i0, zI x1] s3) (fun r13 s13 =>
              some (.inl (some (zI r13)), s13)))
            else
            (if x2 = (0 + 1) then
            (zcI (zrun zP 141 [zR 16 i0, zI x1] s3) (fun r12 s12 =>
              some (.inl (some (zI r12)), s12)))
            else
            (if x2 = ((0 + 1) + 1) then
            (zcI (zrun zP 142 [zR 16 i0, zI x1] s3) (fun r11 s11 =>
              some (.inl (some (zI r11)), s11)))
            else
            (if x2 = (((0 + 1) + 1) + 1) then
            (zcI (zrun zP 149 [zR 16 i0, zI x1] s3) (fun r10 s10 =>
              some (.inl (some (zI r10)), s10)))
            else
            (if x2 = ((((0 + 1) + 1) + 1) + 1) then
            (zcI (zrun zP 148 [zR 16 i0, zI x1] s3) (fun r9 s9 =>
              some (.inl (some (zI r9)), s9)))
            else
            (if x2 = (((((0 + 1) + 1) + 1) + 1) + 1) then
            (zcI (zrun zP 222 [zR 16 i0, zI x1] s3) (fun r8 s8 =>
              some (.inl (some (zI r8)), s8)))
            else
            (if x2 = ((((((0 + 1) + 1) + 1) + 1) + 1) + 1) then
            (zcI (zrun zP 223 [zR 16 i0, zI x1] s3) (fun r7 s7 =>
              some (.inl (some (zI r7)), s7)))
            else
            (if x2 = (((((((0 + 1) + 1) + 1) + 1) + 1) + 1) + 1) then
            (zcI (zrun zP 148 [zR 16 i0, zI x1] s3) (fun r5 s5 =>
              zcI (zrun zP 224 [zR 16 i0, zI r5] s5) (fun r6 s6 =>
                some (.inl (some (zI r6)), s6))))
            else
            (zcI (zrun zP 139 [zI x1, zI 3] s3) (fun r4 s4 =>
              if r4 < 0 ∨ 745 ≤ Int32.toNatClampNeg r4 then
                (none)
                else
                (some (.inl (some (zI (s4.1 31 0 (Int32.toNatClampNeg r4)))), s4))))))))))))))))) := (zrun_eq _ _ _).trans ((zun_eq zK_X6_tier [] 26 _ _).trans rfl)
theorem e_X6_lieIn_5 (i0 : Nat) (x1 : Int32) (x2 : Int32) (x3 : Int32) (x4 : Int32) (v5 : zAV) (σ : zSt) : zX zP zK_X6_lieIn (5, [zR 16 i0, zI x1, zI x2, zI x3, zI x4, v5], []) σ = (
  zcI (zrun zP 138 [zR 16 i0] σ) (fun r1 s1 =>
  if x4 < r1 then
    (zcI (zrun zP 141 [zR 16 i0, zI x4] s1) (fun r2 s2 =>
      if r2 = x1 then
        (zX zP zK_X6_lieIn (30, [zR 16 i0, zI x1, zI x2, zI x3, zI x4, zI 0], []) s2)
        else
        (zX zP zK_X6_lieIn (5, [zR 16 i0, zI x1, zI x2, zI x3, zI (x4 + 1), v5], []) s2)))
    else
    (some (.inl (some (zI x3)), s1)))) := (zun_eq zK_X6_lieIn [5, 30] 13 _ _).trans rfl
theorem e_X6_lieIn_30 (i0 : Nat) (x1 : Int32) (x2 : Int32) (x3 : Int32) (x4 : Int32) (x5 : Int32) (σ : zSt) : zX zP zK_X6_lieIn (30, [zR 16 i0, zI x1, zI x2, zI x3, zI x4, zI x5], []) σ = (
  zcI (zrun zP 142 [zR 16 i0, zI x4] σ) (fun r1 s1 =>
  if x5 < r1 then
    (zcI (zrun zP 194 [zR 16 i0, zI x4, zI x5] s1) (fun r2 s2 =>
      if r2 = x2 then
        (zX zP zK_X6_lieIn (30, [zR 16 i0, zI x1, zI x2, zI (x3 + 1), zI x4, zI (x5 + 1)], []) s2)
        else
        (zX zP zK_X6_lieIn (30, [zR 16 i0, zI x1, zI x2, zI (x3 + 0), zI x4, zI (x5 + 1)], []) s2)))
    else
    (zX zP zK_X6_lieIn (5, [zR 16 i0, zI x1, zI x2, zI x3, zI (x4 + 1), zI x5], []) s1))) := (zun_eq zK_X6_lieIn [5, 30] 19 _ _).trans rfl
theorem e_X6_lieIn (i0 : Nat) (x1 : Int32) (x2 : Int32) (σ : zSt) : zrun zP 226 [zR 16 i0, zI x1, zI x2] σ = (
  zX zP zK_X6_lieIn (5, [zR 16 i0, zI x1, zI x2, zI 0, zI 0, zJunk], []) σ) := (zrun_eq _ _ _).trans ((zun_eq zK_X6_lieIn [5, 30] 5 _ _).trans rfl)
theorem e_X6_mark (i0 : Nat) (x1 : Int32) (x2 : Int32) (x3 : Int32) (σ : zSt) : zrun zP 227 [zR 16 i0, zI x1, zI x2, zI x3] σ = (
  zcI (zrun zP 190 [zR 16 i0, zI x1, zI x2] (zms σ.1 16 i0 0 0, σ.2)) (fun r1 s1 =>
  if r1 = 0 then
    (some (.inl (some (zI 0)), s1))
    else
    (zcI (zrun zP 137 [zI x3, zI 0, zI 6] s1) (fun r2 s2 =>
      zcI (zrun zP 136 [zR 16 i0, zI r2, zI 2, zI 1] s2) (fun r3 s3 =>
        if r3 = 0 then
          (some (.inl (some (zI 0)), s3))
          else
          (if x3 = 0 then
            (zcI (zrun zP 144 [zR 16 i0, zI x1, zI x2] s3) (fun r14 s14 =>
              some (.inl (some (zI r14)), s14)))
            else
            (if x3 = (0 + 1) then
            (zcI (zrun zP 145 [zR 16 i0, zI x1, zI x2] s3) (fun r13 s13 =>
              some (.inl (some (zI r13)), s13)))
            else
            (if x3 = ((0 + 1) + 1) then
            (zcI (zrun zP 146 [zR 16 i0, zI x1, zI x2] s3) (fun r12 s12 =>
              some (.inl (some (zI r12)), s12)))
            else
            (if x3 = (((0 + 1) + 1) + 1) then
            (zcI (zrun zP 194 [zR 16 i0, zI x1, zI x2] s3) (fun r11 s11 =>
              some (.inl (some (zI r11)), s11)))
            else
            (if x3 = ((((0 + 1) + 1) + 1) + 1) then
            (zcI (zrun zP 226 [zR 16 i0, zI x1, zI x2] s3) (fun r10 s10 =>
              some (.inl (some (zI r10)), s10)))
            else
            (if x3 = (((((0 + 1) + 1) + 1) + 1) + 1) then
            (zcI (zrun zP 148 [zR 16 i0, zI x1] s3) (fun r7 s7 =>
              zcI (zrun zP 144 [zR 16 i0, zI x1, zI x2] s7) (fun r8 s8 =>
                zcI (zrun zP 204 [zR 16 i0, zI r7, zI r8] s8) (fun r9 s9 =>
                  some (.inl (some (zI r9)), s9)))))
            else
            (zcI (zrun zP 148 [zR 16 i0, zI x1] s3) (fun r4 s4 =>
              zcI (zrun zP 145 [zR 16 i0, zI x1, zI x2] s4) (fun r5 s5 =>
                zcI (zrun zP 204 [zR 16 i0, zI r4, zI r5] s5) (fun r6 s6 =>
                  some (.inl (some (zI r6)), s6)))))))))))))))) := (zrun_eq _ _ _).trans ((zun_eq zK_X6_mark [] 30 _ _).trans rfl)
theorem e_X6_at (i0 : Nat) (x1 : Int32) (x2 : Int32) (σ : zSt) : zrun zP 228 [zR 16 i0, zI x1, zI x2] σ = (
  zcI (zrun zP 189 [zR 16 i0, zI x1] (zms σ.1 16 i0 0 0, σ.2)) (fun r1 s1 =>
  if r1 = 0 then
    (some (.inl (some (zI 0)), s1))
    else
    (zcI (zrun zP 137 [zI x2, zI 0, zI 999] s1) (fun r2 s2 =>
      zcI (zrun zP 136 [zR 16 i0, zI r2, zI 2, zI 1] s2) (fun r3 s3 =>
        if r3 = 0 then
          (some (.inl (some (zI 0)), s3))
          else
          (zcI (zrun zP 182 [zR 16 i0, zI x1, zI x2] s3) (fun r4 s4 =>
            some (.inl (some (zI r4)), s4)))))))) := (zrun_eq _ _ _).trans ((zun_eq zK_X6_at [] 23 _ _).trans rfl)
theorem e_X6_over_78 (i0 : Nat) (x1 : Int32) (x2 : Int32) (x3 : Int32) (x4 : Int32) (x5 : Int32) (x6 : Int32) (x7 : Int32) (x8 : Int32) (v9 : zAV) (σ : zSt) : zX zP zK_X6_over (78, [zR 16 i0, zI x1, zI x2, zI x3, zI x4, zI x5, zI x6, zI x7, zI x8, v9], []) σ = (
  zcI (zrun zP 142 [zR 16 i0, zI x1] σ) (fun r1 s1 =>
  if x8 < r1 then
    (zcI (zrun zP 140 [zR 16 i0, zI x1] s1) (fun r2 s2 =>
      if r2 = 3 then
        (zcI (zrun zP 144 [zR 16 i0, zI x1, zI x8] s2) (fun r3 s3 =>
          if r3 < x2 then
            (if (0 : Int32) = 0 then
              (zX zP zK_X6_over (78, [zR 16 i0, zI x1, zI x2, zI x3, zI x4, zI x5, zI x6, zI x7, zI (x8 + 1), zI 0], []) s3)
              else
              (if x5 = 0 then
                (zcI (zrun zP 145 [zR 16 i0, zI x1, zI x8] s3) (fun r4 s4 =>
                  zcI (zrun zP 144 [zR 16 i0, zI x1, zI x8] s4) (fun r5 s5 =>
                    zX zP zK_X6_over (78, [zR 16 i0, zI x1, zI x2, zI x3, zI x4, zI (x5 + 1), zI x8, zI (x7 + ((if r4 < x3 then r4 else x3) - (if x2 < r5 then r5 else x2))), zI (x8 + 1), zI 0], []) s5)))
                else
                (zcI (zrun zP 145 [zR 16 i0, zI x1, zI x8] s3) (fun r6 s6 =>
                  zcI (zrun zP 144 [zR 16 i0, zI x1, zI x8] s6) (fun r7 s7 =>
                    zX zP zK_X6_over (78, [zR 16 i0, zI x1, zI x2, zI x3, zI x4, zI (x5 + 1), zI x6, zI (x7 + ((if r6 < x3 then r6 else x3) - (if x2 < r7 then r7 else x2))), zI (x8 + 1), zI 0], []) s7)))))
            else
            (zcI (zrun zP 144 [zR 16 i0, zI x1, zI x8] s3) (fun r8 s8 =>
              if r8 < x3 then
                (if (1 : Int32) = 0 then
                  (zX zP zK_X6_over (78, [zR 16 i0, zI x1, zI x2, zI x3, zI x4, zI x5, zI x6, zI x7, zI (x8 + 1), zI 1], []) s8)
                  else
                  (if x5 = 0 then
                    (zcI (zrun zP 145 [zR 16 i0, zI x1, zI x8] s8) (fun r9 s9 =>
                      zcI (zrun zP 144 [zR 16 i0, zI x1, zI x8] s9) (fun r10 s10 =>
                        zX zP zK_X6_over (78, [zR 16 i0, zI x1, zI x2, zI x3, zI x4, zI (x5 + 1), zI x8, zI (x7 + ((if r9 < x3 then r9 else x3) - (if x2 < r10 then r10 else x2))), zI (x8 + 1), zI 1], []) s10)))
                    else
                    (zcI (zrun zP 145 [zR 16 i0, zI x1, zI x8] s8) (fun r11 s11 =>
                      zcI (zrun zP 144 [zR 16 i0, zI x1, zI x8] s11) (fun r12 s12 =>
                        zX zP zK_X6_over (78, [zR 16 i0, zI x1, zI x2, zI x3, zI x4, zI (x5 + 1), zI x6, zI (x7 + ((if r11 < x3 then r11 else x3) - (if x2 < r12 then r12 else x2))), zI (x8 + 1), zI 1], []) s12)))))
                else
                (if (0 : Int32) = 0 then
                  (zX zP zK_X6_over (78, [zR 16 i0, zI x1, zI x2, zI x3, zI x4, zI x5, zI x6, zI x7, zI (x8 + 1), zI 0], []) s8)
                  else
                  (if x5 = 0 then
                    (zcI (zrun zP 145 [zR 16 i0, zI x1, zI x8] s8) (fun r13 s13 =>
                      zcI (zrun zP 144 [zR 16 i0, zI x1, zI x8] s13) (fun r14 s14 =>
                        zX zP zK_X6_over (78, [zR 16 i0, zI x1, zI x2, zI x3, zI x4, zI (x5 + 1), zI x8, zI (x7 + ((if r13 < x3 then r13 else x3) - (if x2 < r14 then r14 else x2))), zI (x8 + 1), zI 0], []) s14)))
                    else
                    (zcI (zrun zP 145 [zR 16 i0, zI x1, zI x8] s8) (fun r15 s15 =>
                      zcI (zrun zP 144 [zR 16 i0, zI x1, zI x8] s15) (fun r16 s16 =>
                        zX zP zK_X6_over (78, [zR 16 i0, zI x1, zI x2, zI x3, zI x4, zI (x5 + 1), zI x6, zI (x7 + ((if r15 < x3 then r15 else x3) - (if x2 < r16 then r16 else x2))), zI (x8 + 1), zI 0], []) s16)))))))))
        else
        (zcI (zrun zP 144 [zR 16 i0, zI x1, zI x8] s2) (fun r17 s17 =>
          if r17 < x3 then
            (zcI (zrun zP 145 [zR 16 i0, zI x1, zI x8] s17) (fun r18 s18 =>
              if x2 < r18 then
                (if (1 : Int32) = 0 then
                  (zX zP zK_X6_over (78, [zR 16 i0, zI x1, zI x2, zI x3, zI x4, zI x5, zI x6, zI x7, zI (x8 + 1), zI 1], []) s18)
                  else
                  (if x5 = 0 then
                    (zcI (zrun zP 145 [zR 16 i0, zI x1, zI x8] s18) (fun r19 s19 =>
                      zcI (zrun zP 144 [zR 16 i0, zI x1, zI x8] s19) (fun r20 s20 =>
                        zX zP zK_X6_over (78, [zR 16 i0, zI x1, zI x2, zI x3, zI x4, zI (x5 + 1), zI x8, zI (x7 + ((if r19 < x3 then r19 else x3) - (if x2 < r20 then r20 else x2))), zI (x8 + 1), zI 1], []) s20)))
                    else
                    (zcI (zrun zP 145 [zR 16 i0, zI x1, zI x8] s18) (fun r21 s21 =>
                      zcI (zrun zP 144 [zR 16 i0, zI x1, zI x8] s21) (fun r22 s22 =>
                        zX zP zK_X6_over (78, [zR 16 i0, zI x1, zI x2, zI x3, zI x4, zI (x5 + 1), zI x6, zI (x7 + ((if r21 < x3 then r21 else x3) - (if x2 < r22 then r22 else x2))), zI (x8 + 1), zI 1], []) s22)))))
                else
                (if (0 : Int32) = 0 then
                  (zX zP zK_X6_over (78, [zR 16 i0, zI x1, zI x2, zI x3, zI x4, zI x5, zI x6, zI x7, zI (x8 + 1), zI 0], []) s18)
                  else
                  (if x5 = 0 then
                    (zcI (zrun zP 145 [zR 16 i0, zI x1, zI x8] s18) (fun r23 s23 =>
                      zcI (zrun zP 144 [zR 16 i0, zI x1, zI x8] s23) (fun r24 s24 =>
                        zX zP zK_X6_over (78, [zR 16 i0, zI x1, zI x2, zI x3, zI x4, zI (x5 + 1), zI x8, zI (x7 + ((if r23 < x3 then r23 else x3) - (if x2 < r24 then r24 else x2))), zI (x8 + 1), zI 0], []) s24)))
                    else
                    (zcI (zrun zP 145 [zR 16 i0, zI x1, zI x8] s18) (fun r25 s25 =>
                      zcI (zrun zP 144 [zR 16 i0, zI x1, zI x8] s25) (fun r26 s26 =>
                        zX zP zK_X6_over (78, [zR 16 i0, zI x1, zI x2, zI x3, zI x4, zI (x5 + 1), zI x6, zI (x7 + ((if r25 < x3 then r25 else x3) - (if x2 < r26 then r26 else x2))), zI (x8 + 1), zI 0], []) s26)))))))
            else
            (if (0 : Int32) = 0 then
              (zX zP zK_X6_over (78, [zR 16 i0, zI x1, zI x2, zI x3, zI x4, zI x5, zI x6, zI x7, zI (x8 + 1), zI 0], []) s17)
              else
              (if x5 = 0 then
                (zcI (zrun zP 145 [zR 16 i0, zI x1, zI x8] s17) (fun r27 s27 =>
                  zcI (zrun zP 144 [zR 16 i0, zI x1, zI x8] s27) (fun r28 s28 =>
                    zX zP zK_X6_over (78, [zR 16 i0, zI x1, zI x2, zI x3, zI x4, zI (x5 + 1), zI x8, zI (x7 + ((if r27 < x3 then r27 else x3) - (if x2 < r28 then r28 else x2))), zI (x8 + 1), zI 0], []) s28)))
                else
                (zcI (zrun zP 145 [zR 16 i0, zI x1, zI x8] s17) (fun r29 s29 =>
                  zcI (zrun zP 144 [zR 16 i0, zI x1, zI x8] s29) (fun r30 s30 =>
                    zX zP zK_X6_over (78, [zR 16 i0, zI x1, zI x2, zI x3, zI x4, zI (x5 + 1), zI x6, zI (x7 + ((if r29 < x3 then r29 else x3) - (if x2 < r30 then r30 else x2))), zI (x8 + 1), zI 0], []) s30)))))))))
    else
    (if x4 = 0 then
      (some (.inl (some (zI x5)), s1))
      else
      (if x4 = 1 then
        (some (.inl (some (zI x6)), s1))
        else
        (some (.inl (some (zI x7)), s1)))))) := (zun_eq zK_X6_over [78] 52 _ _).trans rfl
theorem e_X6_over (i0 : Nat) (x1 : Int32) (x2 : Int32) (x3 : Int32) (x4 : Int32) (σ : zSt) : zrun zP 229 [zR 16 i0, zI x1, zI x2, zI x3, zI x4] σ = (
  zcI (zrun zP 189 [zR 16 i0, zI x1] (zms σ.1 16 i0 0 0, σ.2)) (fun r1 s1 =>
  if r1 = 0 then
    (some (.inl (some (zI 0)), s1))
    else
    (zcI (zrun zP 137 [zI x2, zI 0, zI 999] s1) (fun r2 s2 =>
      if r2 = 0 then
        (zcI (zrun zP 136 [zR 16 i0, zI 0, zI 2, zI 1] s2) (fun r3 s3 =>
          if r3 = 0 then
            (some (.inl (some (zI 0)), s3))
            else
            (zX zP zK_X6_over (78, [zR 16 i0, zI x1, zI x2, zI x3, zI x4, zI 0, zI (-1), zI 0, zI 0, zJunk], []) s3)))
        else
        (zcI (zrun zP 137 [zI x3, zI 0, zI 999] s2) (fun r4 s4 =>
          if r4 = 0 then
            (zcI (zrun zP 136 [zR 16 i0, zI 0, zI 2, zI 1] s4) (fun r5 s5 =>
              if r5 = 0 then
                (some (.inl (some (zI 0)), s5))
                else
                (zX zP zK_X6_over (78, [zR 16 i0, zI x1, zI x2, zI x3, zI x4, zI 0, zI (-1), zI 0, zI 0, zJunk], []) s5)))
            else
            (if x2 < x3 then
              (zcI (zrun zP 137 [zI x4, zI 0, zI 2] s4) (fun r6 s6 =>
                if r6 = 0 then
                  (zcI (zrun zP 136 [zR 16 i0, zI 0, zI 2, zI 1] s6) (fun r7 s7 =>
                    if r7 = 0 then
                      (some (.inl (some (zI 0)), s7))
                      else
                      (zX zP zK_X6_over (78, [zR 16 i0, zI x1, zI x2, zI x3, zI x4, zI 0, zI (-1), zI 0, zI 0, zJunk], []) s7)))
                  else
                  (zcI (zrun zP 136 [zR 16 i0, zI 1, zI 2, zI 1] s6) (fun r8 s8 =>
                    if r8 = 0 then
                      (some (.inl (some (zI 0)), s8))
                      else
                      (zX zP zK_X6_over (78, [zR 16 i0, zI x1, zI x2, zI x3, zI x4, zI 0, zI (-1), zI 0, zI 0, zJunk], []) s8)))))
              else
              (zcI (zrun zP 136 [zR 16 i0, zI 0, zI 2, zI 1] s4) (fun r9 s9 =>
                if r9 = 0 then
                  (some (.inl (some (zI 0)), s9))
                  else
                  (zX zP zK_X6_over (78, [zR 16 i0, zI x1, zI x2, zI x3, zI x4, zI 0, zI (-1), zI 0, zI 0, zJunk], []) s9)))))))))) := (zrun_eq _ _ _).trans ((zun_eq zK_X6_over [78] 41 _ _).trans rfl)
theorem e_X6_within_92 (i0 : Nat) (x1 : Int32) (x2 : Int32) (x3 : Int32) (x4 : Int32) (x5 : Int32) (x6 : Int32) (x7 : Int32) (x8 : Int32) (σ : zSt) : zX zP zK_X6_within (92, [zR 16 i0, zI x1, zI x2, zI x3, zI x4, zI x5, zI x6, zI x7, zI x8], []) σ = (
  zcI (zrun zP 142 [zR 16 i0, zI x3] σ) (fun r1 s1 =>
  if x8 < r1 then
    (zcI (zrun zP 144 [zR 16 i0, zI x3, zI x8] s1) (fun r2 s2 =>
      zcI (zrun zP 144 [zR 16 i0, zI x1, zI x2] s2) (fun r3 s3 =>
        if r2 < r3 then
          (zX zP zK_X6_within (92, [zR 16 i0, zI x1, zI x2, zI x3, zI x4, zI x5, zI x6, zI x7, zI (x8 + 1)], []) s3)
          else
          (zcI (zrun zP 145 [zR 16 i0, zI x3, zI x8] s3) (fun r4 s4 =>
            zcI (zrun zP 145 [zR 16 i0, zI x1, zI x2] s4) (fun r5 s5 =>
              if r5 < r4 then
                (zX zP zK_X6_within (92, [zR 16 i0, zI x1, zI x2, zI x3, zI x4, zI x5, zI x6, zI x7, zI (x8 + 1)], []) s5)
                else
                (if x5 = 0 then
                  (zcI (zrun zP 145 [zR 16 i0, zI x3, zI x8] s5) (fun r6 s6 =>
                    zcI (zrun zP 144 [zR 16 i0, zI x3, zI x8] s6) (fun r7 s7 =>
                      zX zP zK_X6_within (92, [zR 16 i0, zI x1, zI x2, zI x3, zI x4, zI (x5 + 1), zI x8, zI (x7 + (r6 - r7)), zI (x8 + 1)], []) s7)))
                  else
                  (zcI (zrun zP 145 [zR 16 i0, zI x3, zI x8] s5) (fun r8 s8 =>
                    zcI (zrun zP 144 [zR 16 i0, zI x3, zI x8] s8) (fun r9 s9 =>
                      zX zP zK_X6_within (92, [zR 16 i0, zI x1, zI x2, zI x3, zI x4, zI (x5 + 1), zI x6, zI (x7 + (r8 - r9)), zI (x8 + 1)], []) s9))))))))))
    else
    (if x4 = 0 then
      (some (.inl (some (zI x5)), s1))
      else
      (if x4 = 1 then
        (some (.inl (some (zI x6)), s1))
        else
        (some (.inl (some (zI x7)), s1)))))) := (zun_eq zK_X6_within [92] 44 _ _).trans rfl
theorem e_X6_within (i0 : Nat) (x1 : Int32) (x2 : Int32) (x3 : Int32) (x4 : Int32) (σ : zSt) : zrun zP 230 [zR 16 i0, zI x1, zI x2, zI x3, zI x4] σ = (
  zcI (zrun zP 138 [zR 16 i0] (zms σ.1 16 i0 0 0, σ.2)) (fun r1 s1 =>
  zcI (zrun zP 137 [zI x1, zI 0, zI (r1 - 1)] s1) (fun r2 s2 =>
    if r2 = 0 then
      (zcI (zrun zP 136 [zR 16 i0, zI 0, zI 1, zI 0] s2) (fun r3 s3 =>
        if r3 = 0 then
          (some (.inl (some (zI 0)), s3))
          else
          (zcI (zrun zP 137 [zI x4, zI 0, zI 2] s3) (fun r4 s4 =>
            zcI (zrun zP 136 [zR 16 i0, zI r4, zI 2, zI 1] s4) (fun r5 s5 =>
              if r5 = 0 then
                (some (.inl (some (zI 0)), s5))
                else
                (zX zP zK_X6_within (92, [zR 16 i0, zI x1, zI x2, zI x3, zI x4, zI 0, zI (-1), zI 0, zI 0], []) s5))))))
      else
      (zcI (zrun zP 138 [zR 16 i0] s2) (fun r6 s6 =>
        zcI (zrun zP 137 [zI x3, zI 0, zI (r6 - 1)] s6) (fun r7 s7 =>
          if r7 = 0 then
            (zcI (zrun zP 136 [zR 16 i0, zI 0, zI 1, zI 0] s7) (fun r8 s8 =>
              if r8 = 0 then
                (some (.inl (some (zI 0)), s8))
                else
                (zcI (zrun zP 137 [zI x4, zI 0, zI 2] s8) (fun r9 s9 =>
                  zcI (zrun zP 136 [zR 16 i0, zI r9, zI 2, zI 1] s9) (fun r10 s10 =>
                    if r10 = 0 then
                      (some (.inl (some (zI 0)), s10))
                      else
                      (zX zP zK_X6_within (92, [zR 16 i0, zI x1, zI x2, zI x3, zI x4, zI 0, zI (-1), zI 0, zI 0], []) s10))))))
            else
            (zcI (zrun zP 142 [zR 16 i0, zI x1] s7) (fun r11 s11 =>
              zcI (zrun zP 137 [zI x2, zI 0, zI (r11 - 1)] s11) (fun r12 s12 =>
                if r12 = 0 then
                  (zcI (zrun zP 136 [zR 16 i0, zI 0, zI 1, zI 0] s12) (fun r13 s13 =>
                    if r13 = 0 then
                      (some (.inl (some (zI 0)), s13))
                      else
                      (zcI (zrun zP 137 [zI x4, zI 0, zI 2] s13) (fun r14 s14 =>
                        zcI (zrun zP 136 [zR 16 i0, zI r14, zI 2, zI 1] s14) (fun r15 s15 =>
                          if r15 = 0 then
                            (some (.inl (some (zI 0)), s15))
                            else
                            (zX zP zK_X6_within (92, [zR 16 i0, zI x1, zI x2, zI x3, zI x4, zI 0, zI (-1), zI 0, zI 0], []) s15))))))
                  else
                  (zcI (zrun zP 136 [zR 16 i0, zI 1, zI 1, zI 0] s12) (fun r16 s16 =>
                    if r16 = 0 then
                      (some (.inl (some (zI 0)), s16))
                      else
                      (zcI (zrun zP 137 [zI x4, zI 0, zI 2] s16) (fun r17 s17 =>
                        zcI (zrun zP 136 [zR 16 i0, zI r17, zI 2, zI 1] s17) (fun r18 s18 =>
                          if r18 = 0 then
                            (some (.inl (some (zI 0)), s18))
                            else
                            (zX zP zK_X6_within (92, [zR 16 i0, zI x1, zI x2, zI x3, zI x4, zI 0, zI (-1), zI 0, zI 0], []) s18))))))))))))))) := (zrun_eq _ _ _).trans ((zun_eq zK_X6_within [92] 53 _ _).trans rfl)
theorem e_X6_find_21 (i0 : Nat) (x1 : Int32) (x2 : Int32) (x3 : Int32) (x4 : Int32) (x5 : Int32) (σ : zSt) : zX zP zK_X6_find (21, [zR 16 i0, zI x1, zI x2, zI x3, zI x4, zI x5], []) σ = (
  zcI (zrun zP 142 [zR 16 i0, zI x1] σ) (fun r1 s1 =>
  if x5 < r1 then
    (zcI (zrun zP 146 [zR 16 i0, zI x1, zI x5] s1) (fun r2 s2 =>
      if r2 = x2 then
        (if x4 = x3 then
          (some (.inl (some (zI x5)), s2))
          else
          (zX zP zK_X6_find (21, [zR 16 i0, zI x1, zI x2, zI x3, zI (x4 + 1), zI (x5 + 1)], []) s2))
        else
        (zX zP zK_X6_find (21, [zR 16 i0, zI x1, zI x2, zI x3, zI x4, zI (x5 + 1)], []) s2)))
    else
    (some (.inl (some (zI (-1))), s1)))) := (zun_eq zK_X6_find [21] 18 _ _).trans rfl
theorem e_X6_find (i0 : Nat) (x1 : Int32) (x2 : Int32) (x3 : Int32) (σ : zSt) : zrun zP 231 [zR 16 i0, zI x1, zI x2, zI x3] σ = (
  zcI (zrun zP 189 [zR 16 i0, zI x1] (zms σ.1 16 i0 0 0, σ.2)) (fun r1 s1 =>
  if r1 = 0 then
    (some (.inl (some (zI 0)), s1))
    else
    (zX zP zK_X6_find (21, [zR 16 i0, zI x1, zI x2, zI x3, zI 0, zI 0], []) s1))) := (zrun_eq _ _ _).trans ((zun_eq zK_X6_find [21] 12 _ _).trans rfl)
theorem e_X6_together_55 (i0 : Nat) (x1 : Int32) (x2 : Int32) (x3 : Int32) (x4 : Int32) (x5 : Int32) (x6 : Int32) (v7 : zAV) (v8 : zAV) (σ : zSt) : zX zP zK_X6_together (55, [zR 16 i0, zI x1, zI x2, zI x3, zI x4, zI x5, zI x6, v7, v8], []) σ = (
  if x6 < 999 then
  (zcI (zrun zP 182 [zR 16 i0, zI x1, zI x6] σ) (fun r1 s1 =>
    zcI (zrun zP 182 [zR 16 i0, zI x3, zI x6] s1) (fun r2 s2 =>
      if r1 = (-1) then
        (zX zP zK_X6_together (55, [zR 16 i0, zI x1, zI x2, zI x3, zI x4, zI (x5 + 0), zI (x6 + 1), zI r1, zI r2], []) s2)
        else
        (if r2 = (-1) then
          (zX zP zK_X6_together (55, [zR 16 i0, zI x1, zI x2, zI x3, zI x4, zI (x5 + 0), zI (x6 + 1), zI r1, zI r2], []) s2)
          else
          (zcI (zrun zP 145 [zR 16 i0, zI x1, zI r1] s2) (fun r3 s3 =>
            if x6 < r3 then
              (zcI (zrun zP 145 [zR 16 i0, zI x3, zI r2] s3) (fun r4 s4 =>
                if x6 < r4 then
                  (zcI (zrun zP 146 [zR 16 i0, zI x1, zI r1] s4) (fun r5 s5 =>
                    if r5 = x2 then
                      (zcI (zrun zP 146 [zR 16 i0, zI x3, zI r2] s5) (fun r6 s6 =>
                        if r6 = x4 then
                          (zX zP zK_X6_together (55, [zR 16 i0, zI x1, zI x2, zI x3, zI x4, zI (x5 + 1), zI (x6 + 1), zI r1, zI r2], []) s6)
                          else
                          (zX zP zK_X6_together (55, [zR 16 i0, zI x1, zI x2, zI x3, zI x4, zI (x5 + 0), zI (x6 + 1), zI r1, zI r2], []) s6)))
                      else
                      (zX zP zK_X6_together (55, [zR 16 i0, zI x1, zI x2, zI x3, zI x4, zI (x5 + 0), zI (x6 + 1), zI r1, zI r2], []) s5)))
                  else
                  (zX zP zK_X6_together (55, [zR 16 i0, zI x1, zI x2, zI x3, zI x4, zI (x5 + 0), zI (x6 + 1), zI r1, zI r2], []) s4)))
              else
              (zX zP zK_X6_together (55, [zR 16 i0, zI x1, zI x2, zI x3, zI x4, zI (x5 + 0), zI (x6 + 1), zI r1, zI r2], []) s3)))))))
  else
  (some (.inl (some (zI x5)), σ))) := (zun_eq zK_X6_together [55] 51 _ _).trans rfl
theorem e_X6_together (i0 : Nat) (x1 : Int32) (x2 : Int32) (x3 : Int32) (x4 : Int32) (σ : zSt) : zrun zP 232 [zR 16 i0, zI x1, zI x2, zI x3, zI x4] σ = (
  zcI (zrun zP 138 [zR 16 i0] (zms σ.1 16 i0 0 0, σ.2)) (fun r1 s1 =>
  zcI (zrun zP 137 [zI x1, zI 0, zI (r1 - 1)] s1) (fun r2 s2 =>
    if r2 = 0 then
      (zcI (zrun zP 136 [zR 16 i0, zI 0, zI 1, zI 0] s2) (fun r3 s3 =>
        if r3 = 0 then
          (some (.inl (some (zI 0)), s3))
          else
          (zX zP zK_X6_together (55, [zR 16 i0, zI x1, zI x2, zI x3, zI x4, zI 0, zI 0, zJunk, zJunk], []) s3)))
      else
      (zcI (zrun zP 138 [zR 16 i0] s2) (fun r4 s4 =>
        zcI (zrun zP 137 [zI x3, zI 0, zI (r4 - 1)] s4) (fun r5 s5 =>
          if r5 = 0 then
            (zcI (zrun zP 136 [zR 16 i0, zI 0, zI 1, zI 0] s5) (fun r6 s6 =>
              if r6 = 0 then
                (some (.inl (some (zI 0)), s6))
                else
                (zX zP zK_X6_together (55, [zR 16 i0, zI x1, zI x2, zI x3, zI x4, zI 0, zI 0, zJunk, zJunk], []) s6)))
            else
            (zcI (zrun zP 136 [zR 16 i0, zI 1, zI 1, zI 0] s5) (fun r7 s7 =>
              if r7 = 0 then
                (some (.inl (some (zI 0)), s7))
                else
                (zX zP zK_X6_together (55, [zR 16 i0, zI x1, zI x2, zI x3, zI x4, zI 0, zI 0, zJunk, zJunk], []) s7))))))))) := (zrun_eq _ _ _).trans ((zun_eq zK_X6_together [55] 31 _ _).trans rfl)
theorem e_X6_longest_42 (i0 : Nat) (x1 : Int32) (x2 : Int32) (x3 : Int32) (x4 : Int32) (x5 : Int32) (x6 : Int32) (x7 : Int32) (σ : zSt) : zX zP zK_X6_longest (42, [zR 16 i0, zI x1, zI x2, zI x3, zI x4, zI x5, zI x6, zI x7], []) σ = (
  zcI (zrun zP 142 [zR 16 i0, zI x1] σ) (fun r1 s1 =>
  if x7 < r1 then
    (zcI (zrun zP 146 [zR 16 i0, zI x1, zI x7] s1) (fun r2 s2 =>
      if r2 = x2 then
        (zcI (zrun zP 145 [zR 16 i0, zI x1, zI x7] s2) (fun r3 s3 =>
          zcI (zrun zP 144 [zR 16 i0, zI x1, zI x7] s3) (fun r4 s4 =>
            if x4 = (-1) then
              (zX zP zK_X6_longest (42, [zR 16 i0, zI x1, zI x2, zI x3, zI x7, zI (x5 + 1), zI (x6 + (r3 - r4)), zI (x7 + 1)], []) s4)
              else
              (zcI (zrun zP 145 [zR 16 i0, zI x1, zI x7] s4) (fun r5 s5 =>
                zcI (zrun zP 144 [zR 16 i0, zI x1, zI x7] s5) (fun r6 s6 =>
                  zcI (zrun zP 145 [zR 16 i0, zI x1, zI x4] s6) (fun r7 s7 =>
                    zcI (zrun zP 144 [zR 16 i0, zI x1, zI x4] s7) (fun r8 s8 =>
                      if (r7 - r8) < (r5 - r6) then
                        (zX zP zK_X6_longest (42, [zR 16 i0, zI x1, zI x2, zI x3, zI x7, zI (x5 + 1), zI (x6 + (r3 - r4)), zI (x7 + 1)], []) s8)
                        else
                        (zX zP zK_X6_longest (42, [zR 16 i0, zI x1, zI x2, zI x3, zI x4, zI (x5 + 1), zI (x6 + (r3 - r4)), zI (x7 + 1)], []) s8)))))))))
        else
        (zX zP zK_X6_longest (42, [zR 16 i0, zI x1, zI x2, zI x3, zI x4, zI x5, zI x6, zI (x7 + 1)], []) s2)))
    else
    (if x3 = 0 then
      (some (.inl (some (zI x4)), s1))
      else
      (if x3 = 1 then
        (if x4 = (-1) then
          (some (.inl (some (zI 0)), s1))
          else
          (zcI (zrun zP 145 [zR 16 i0, zI x1, zI x4] s1) (fun r9 s9 =>
            zcI (zrun zP 144 [zR 16 i0, zI x1, zI x4] s9) (fun r10 s10 =>
              some (.inl (some (zI (r9 - r10))), s10)))))
        else
        (if x3 = 2 then
          (some (.inl (some (zI x5)), s1))
          else
          (some (.inl (some (zI x6)), s1))))))) := (zun_eq zK_X6_longest [42] 51 _ _).trans rfl
theorem e_X6_longest (i0 : Nat) (x1 : Int32) (x2 : Int32) (x3 : Int32) (σ : zSt) : zrun zP 233 [zR 16 i0, zI x1, zI x2, zI x3] σ = (
  zcI (zrun zP 189 [zR 16 i0, zI x1] (zms σ.1 16 i0 0 0, σ.2)) (fun r1 s1 =>
  if r1 = 0 then
    (some (.inl (some (zI 0)), s1))
    else
    (zcI (zrun zP 137 [zI x3, zI 0, zI 3] s1) (fun r2 s2 =>
      zcI (zrun zP 136 [zR 16 i0, zI r2, zI 2, zI 1] s2) (fun r3 s3 =>
        if r3 = 0 then
          (some (.inl (some (zI 0)), s3))
          else
          (zX zP zK_X6_longest (42, [zR 16 i0, zI x1, zI x2, zI x3, zI (-1), zI 0, zI 0, zI 0], []) s3)))))) := (zrun_eq _ _ _).trans ((zun_eq zK_X6_longest [42] 25 _ _).trans rfl)
theorem e_X6_stop_20 (i0 : Nat) (x1 : Int32) (x2 : Int32) (x3 : Int32) (x4 : Int32) (σ : zSt) : zX zP zK_X6_stop (20, [zR 16 i0, zI x1, zI x2, zI x3, zI x4], []) σ = (
  if (999 : Int32) < x4 then
  (some (.inl (some (zI (-1))), σ))
  else
  (zcI (zrun zP 148 [zR 16 i0, zI x1] σ) (fun r1 s1 =>
    zcI (zrun zP 151 [zR 16 i0, zI r1, zI x4] s1) (fun r2 s2 =>
      if r2 = 0 then
        (zX zP zK_X6_stop (20, [zR 16 i0, zI x1, zI x2, zI x3, zI (x4 + 1)], []) s2)
        else
        (if x3 = x2 then
          (some (.inl (some (zI x4)), s2))
          else
          (zX zP zK_X6_stop (20, [zR 16 i0, zI x1, zI x2, zI (x3 + 1), zI (x4 + 1)], []) s2)))))) := (zun_eq zK_X6_stop [20] 17 _ _).trans rfl
theorem e_X6_stop (i0 : Nat) (x1 : Int32) (x2 : Int32) (σ : zSt) : zrun zP 234 [zR 16 i0, zI x1, zI x2] σ = (
  zcI (zrun zP 189 [zR 16 i0, zI x1] (zms σ.1 16 i0 0 0, σ.2)) (fun r1 s1 =>
  if r1 = 0 then
    (some (.inl (some (zI 0)), s1))
    else
    (zX zP zK_X6_stop (20, [zR 16 i0, zI x1, zI x2, zI 0, zI 0], []) s1))) := (zrun_eq _ _ _).trans ((zun_eq zK_X6_stop [20] 12 _ _).trans rfl)
theorem e_X6_room (i0 : Nat) (x1 : Int32) (x2 : Int32) (x3 : Int32) (σ : zSt) : zrun zP 235 [zR 16 i0, zI x1, zI x2, zI x3] σ = (
  zcI (zrun zP 203 [zR 16 i0, zI x1, zI x2] (zms σ.1 16 i0 0 0, σ.2)) (fun r1 s1 =>
  if r1 = 0 then
    (some (.inl (some (zI 0)), s1))
    else
    (zcI (zrun zP 137 [zI x3, zI 0, zI 1] s1) (fun r2 s2 =>
      zcI (zrun zP 136 [zR 16 i0, zI r2, zI 2, zI 1] s2) (fun r3 s3 =>
        if r3 = 0 then
          (some (.inl (some (zI 0)), s3))
          else
          (if x3 = 0 then
            (zcI (zrun zP 148 [zR 16 i0, zI x1] s3) (fun r4 s4 =>
              zcI (zrun zP 201 [zR 16 i0, zI r4, zI x2] s4) (fun r5 s5 =>
                some (.inl (some (zI (r5 + 1))), s5))))
            else
            (zcI (zrun zP 148 [zR 16 i0, zI x1] s3) (fun r6 s6 =>
              zcI (zrun zP 202 [zR 16 i0, zI r6, zI x2] s6) (fun r7 s7 =>
                some (.inl (some (zI (r7 - 1))), s7)))))))))) := (zrun_eq _ _ _).trans ((zun_eq zK_X6_room [] 30 _ _).trans rfl)
theorem e_X6_otherTier (i0 : Nat) (x1 : Int32) (σ : zSt) : zrun zP 236 [zR 16 i0, zI x1] σ = (
  if (σ.1 16 i0 7) = 0 then
  (some (.inl (some (zI (-1))), σ))
  else
  (zcI (zrun zP 139 [zI x1, zI 3] σ) (fun r1 s1 =>
    if r1 < 0 ∨ 745 ≤ Int32.toNatClampNeg r1 then
      (none)
      else
      (zcI (zrun zP 175 [zR 16 i0, zR 32 0, zI (s1.1 31 0 (Int32.toNatClampNeg r1))] s1) (fun r2 s2 =>
        some (.inl (some (zI r2)), s2)))))) := (zrun_eq _ _ _).trans ((zun_eq zK_X6_otherTier [] 16 _ _).trans rfl)
theorem e_X6_markIn_2 (k0 i0 : Nat) (x1 : Int32) (x2 : Int32) (x3 : Int32) (σ : zSt) : zX zP zK_X6_markIn (2, [zR (k0 + 1) i0, zI x1, zI x2, zI x3], []) σ = (
  zcI (zrun zP 139 [zI x1, zI 2] σ) (fun r1 s1 =>
  if r1 < 0 ∨ zlenI (k0 + 1) i0 ≤ Int32.toNatClampNeg r1 then
    (none)
    else
    (if x3 < (s1.1 (k0 + 1) i0 (Int32.toNatClampNeg r1)) then
      (zcI (zrun zP 143 [zI x1, zI x3, zI 0] s1) (fun r2 s2 =>
        if r2 < 0 ∨ zlenI (k0 + 1) i0 ≤ Int32.toNatClampNeg r2 then
          (none)
          else
          (if x2 < (s2.1 (k0 + 1) i0 (Int32.toNatClampNeg r2)) then
            (zX zP zK_X6_markIn (2, [zR (k0 + 1) i0, zI x1, zI x2, zI (x3 + 1)], []) s2)
            else
            (zcI (zrun zP 143 [zI x1, zI x3, zI 1] s2) (fun r3 s3 =>
              if r3 < 0 ∨ zlenI (k0 + 1) i0 ≤ Int32.toNatClampNeg r3 then
                (none)
                else
                (if x2 < (s3.1 (k0 + 1) i0 (Int32.toNatClampNeg r3)) then
                  (some (.inl (some (zI x3)), s3))
                  else
                  (zX zP zK_X6_markIn (2, [zR (k0 + 1) i0, zI x1, zI x2, zI (x3 + 1)], []) s3)))))))
      else
      (some (.inl (some (zI (-1))), s1))))) := (zun_eq zK_X6_markIn [2] 26 _ _).trans rfl
theorem e_X6_markIn (k0 i0 : Nat) (x1 : Int32) (x2 : Int32) (σ : zSt) : zrun zP 237 [zR (k0 + 1) i0, zI x1, zI x2] σ = (
  zX zP zK_X6_markIn (2, [zR (k0 + 1) i0, zI x1, zI x2, zI 0], []) σ) := (zrun_eq _ _ _).trans ((zun_eq zK_X6_markIn [2] 3 _ _).trans rfl)
theorem e_X6_agree_49 (i0 : Nat) (x1 : Int32) (x2 : Int32) (x3 : Int32) (x4 : Int32) (x5 : Int32) (v6 : zAV) (v7 : zAV) (v8 : zAV) (σ : zSt) : zX zP zK_X6_agree (49, [zR 16 i0, zI x1, zI x2, zI x3, zI x4, zI x5, v6, v7, v8], []) σ = (
  if x5 < 999 then
  (zcI (zrun zP 237 [zR 31 0, zI x1, zI x5] σ) (fun r1 s1 =>
    zcI (zrun zP 237 [zR 32 0, zI x3, zI x5] s1) (fun r2 s2 =>
      if r1 = (-1) then
        (if r2 = (-1) then
          (if ((-1) : Int32) = x2 then
            (zX zP zK_X6_agree (49, [zR 16 i0, zI x1, zI x2, zI x3, zI (x4 + 1), zI (x5 + 1), zI r1, zI r2, zI (-1)], []) s2)
            else
            (zX zP zK_X6_agree (49, [zR 16 i0, zI x1, zI x2, zI x3, zI (x4 + 0), zI (x5 + 1), zI r1, zI r2, zI (-1)], []) s2))
          else
          (if (3 : Int32) = x2 then
            (zX zP zK_X6_agree (49, [zR 16 i0, zI x1, zI x2, zI x3, zI (x4 + 1), zI (x5 + 1), zI r1, zI r2, zI 3], []) s2)
            else
            (zX zP zK_X6_agree (49, [zR 16 i0, zI x1, zI x2, zI x3, zI (x4 + 0), zI (x5 + 1), zI r1, zI r2, zI 3], []) s2)))
        else
        (if r2 = (-1) then
          (if (2 : Int32) = x2 then
            (zX zP zK_X6_agree (49, [zR 16 i0, zI x1, zI x2, zI x3, zI (x4 + 1), zI (x5 + 1), zI r1, zI r2, zI 2], []) s2)
            else
            (zX zP zK_X6_agree (49, [zR 16 i0, zI x1, zI x2, zI x3, zI (x4 + 0), zI (x5 + 1), zI r1, zI r2, zI 2], []) s2))
          else
          (zcI (zrun zP 143 [zI x1, zI r1, zI 2] s2) (fun r3 s3 =>
            if r3 < 0 ∨ 745 ≤ Int32.toNatClampNeg r3 then
              (none)
              else
              (zcI (zrun zP 143 [zI x3, zI r2, zI 2] s3) (fun r4 s4 =>
                if r4 < 0 ∨ 745 ≤ Int32.toNatClampNeg r4 then
                  (none)
                  else
                  (if (s3.1 31 0 (Int32.toNatClampNeg r3)) = (s4.1 32 0 (Int32.toNatClampNeg r4)) then
                    (if (0 : Int32) = x2 then
                      (zX zP zK_X6_agree (49, [zR 16 i0, zI x1, zI x2, zI x3, zI (x4 + 1), zI (x5 + 1), zI r1, zI r2, zI 0], []) s4)
                      else
                      (zX zP zK_X6_agree (49, [zR 16 i0, zI x1, zI x2, zI x3, zI (x4 + 0), zI (x5 + 1), zI r1, zI r2, zI 0], []) s4))
                    else
                    (if (1 : Int32) = x2 then
                      (zX zP zK_X6_agree (49, [zR 16 i0, zI x1, zI x2, zI x3, zI (x4 + 1), zI (x5 + 1), zI r1, zI r2, zI 1], []) s4)
                      else
                      (zX zP zK_X6_agree (49, [zR 16 i0, zI x1, zI x2, zI x3, zI (x4 + 0), zI (x5 + 1), zI r1, zI r2, zI 1], []) s4)))))))))))
  else
  (some (.inl (some (zI x4)), σ))) := (zun_eq zK_X6_agree [49] 50 _ _).trans rfl
theorem e_X6_agree (i0 : Nat) (x1 : Int32) (x2 : Int32) (σ : zSt) : zrun zP 238 [zR 16 i0, zI x1, zI x2] σ = (
  zcI (zrun zP 189 [zR 16 i0, zI x1] (zms σ.1 16 i0 0 0, σ.2)) (fun r1 s1 =>
  if r1 = 0 then
    (some (.inl (some (zI 0)), s1))
    else
    (zcI (zrun zP 137 [zI x2, zI 0, zI 3] s1) (fun r2 s2 =>
      zcI (zrun zP 136 [zR 16 i0, zI r2, zI 2, zI 1] s2) (fun r3 s3 =>
        if r3 = 0 then
          (some (.inl (some (zI 0)), s3))
          else
          (zcI (zrun zP 236 [zR 16 i0, zI x1] s3) (fun r4 s4 =>
            if r4 = (-1) then
              (some (.inl (some (zI (-1))), s4))
              else
              (zX zP zK_X6_agree (49, [zR 16 i0, zI x1, zI x2, zI r4, zI 0, zI 0, zJunk, zJunk, zJunk], []) s4)))))))) := (zrun_eq _ _ _).trans ((zun_eq zK_X6_agree [49] 28 _ _).trans rfl)
theorem e_X6_times_5 (k0 i0 : Nat) (x1 : Int32) (k2 i2 : Nat) (x3 : Int32) (x4 : Int32) (v5 : zAV) (v6 : zAV) (σ : zSt) : zX zP zK_X6_times (5, [zR (k0 + 1) i0, zI x1, zR (k2 + 1) i2, zI x3, zI x4, v5, v6], []) σ = (
  if (999 : Int32) < x4 then
  (some (.inl (some (zI x3)), σ))
  else
  (zX zP zK_X6_times (19, [zR (k0 + 1) i0, zI x1, zR (k2 + 1) i2, zI x3, zI x4, zI 0, zI 0], []) σ)) := (zun_eq zK_X6_times [5, 19] 8 _ _).trans rfl
theorem e_X6_times_19 (k0 i0 : Nat) (x1 : Int32) (k2 i2 : Nat) (x3 : Int32) (x4 : Int32) (x5 : Int32) (x6 : Int32) (σ : zSt) : zX zP zK_X6_times (19, [zR (k0 + 1) i0, zI x1, zR (k2 + 1) i2, zI x3, zI x4, zI x5, zI x6], []) σ = (
  zcI (zrun zP 139 [zI x1, zI 2] σ) (fun r1 s1 =>
  if r1 < 0 ∨ zlenI (k0 + 1) i0 ≤ Int32.toNatClampNeg r1 then
    (none)
    else
    (if x6 < (s1.1 (k0 + 1) i0 (Int32.toNatClampNeg r1)) then
      (if x5 = 0 then
        (zcI (zrun zP 143 [zI x1, zI x6, zI 0] s1) (fun r2 s2 =>
          if r2 < 0 ∨ zlenI (k0 + 1) i0 ≤ Int32.toNatClampNeg r2 then
            (none)
            else
            (if (s2.1 (k0 + 1) i0 (Int32.toNatClampNeg r2)) = x4 then
              (zX zP zK_X6_times (19, [zR (k0 + 1) i0, zI x1, zR (k2 + 1) i2, zI x3, zI x4, zI 1, zI (x6 + 1)], []) s2)
              else
              (zcI (zrun zP 143 [zI x1, zI x6, zI 1] s2) (fun r3 s3 =>
                if r3 < 0 ∨ zlenI (k0 + 1) i0 ≤ Int32.toNatClampNeg r3 then
                  (none)
                  else
                  (if (s3.1 (k0 + 1) i0 (Int32.toNatClampNeg r3)) = x4 then
                    (zX zP zK_X6_times (19, [zR (k0 + 1) i0, zI x1, zR (k2 + 1) i2, zI x3, zI x4, zI 1, zI (x6 + 1)], []) s3)
                    else
                    (zX zP zK_X6_times (19, [zR (k0 + 1) i0, zI x1, zR (k2 + 1) i2, zI x3, zI x4, zI 0, zI (x6 + 1)], []) s3)))))))
        else
        (zX zP zK_X6_times (19, [zR (k0 + 1) i0, zI x1, zR (k2 + 1) i2, zI x3, zI x4, zI 1, zI (x6 + 1)], []) s1))
      else
      (if x5 = 0 then
        (zX zP zK_X6_times (5, [zR (k0 + 1) i0, zI x1, zR (k2 + 1) i2, zI x3, zI (x4 + 1), zI x5, zI x6], []) s1)
        else
        (if x3 < 0 ∨ zlenI (k2 + 1) i2 ≤ Int32.toNatClampNeg x3 then
          (none)
          else
          (zX zP zK_X6_times (5, [zR (k0 + 1) i0, zI x1, zR (k2 + 1) i2, zI (x3 + 1), zI (x4 + 1), zI x5, zI x6], []) (zms s1.1 (k2 + 1) i2 (Int32.toNatClampNeg x3) x4, s1.2))))))) := (zun_eq zK_X6_times [5, 19] 31 _ _).trans rfl
theorem e_X6_times (k0 i0 : Nat) (x1 : Int32) (k2 i2 : Nat) (σ : zSt) : zrun zP 239 [zR (k0 + 1) i0, zI x1, zR (k2 + 1) i2] σ = (
  zX zP zK_X6_times (5, [zR (k0 + 1) i0, zI x1, zR (k2 + 1) i2, zI 0, zI 0, zJunk, zJunk], []) σ) := (zrun_eq _ _ _).trans ((zun_eq zK_X6_times [5, 19] 5 _ _).trans rfl)
theorem e_X6_pairsOf (i0 : Nat) (x1 : Int32) (x2 : Int32) (x3 : Int32) (σ : zSt) : zrun zP 240 [zR 16 i0, zI x1, zI x2, zI x3] σ = (
  if ((81 * x1) + x2) < 0 ∨ 6561 ≤ Int32.toNatClampNeg ((81 * x1) + x2) then
  (none)
  else
  (if ((81 * x1) + x2) < 0 ∨ 6561 ≤ Int32.toNatClampNeg ((81 * x1) + x2) then
    (none)
    else
    (if x1 = 0 then
      (some (.inl none, (zms (zms σ.1 39 0 (Int32.toNatClampNeg ((81 * x1) + x2)) 0) 40 0 (Int32.toNatClampNeg ((81 * x1) + x2)) 0, σ.2)))
      else
      (if x2 = 0 then
        (some (.inl none, (zms (zms σ.1 39 0 (Int32.toNatClampNeg ((81 * x1) + x2)) 0) 40 0 (Int32.toNatClampNeg ((81 * x1) + x2)) 0, σ.2)))
        else
        (if (((81 * x1) + x2) - 81) < 0 ∨ 6561 ≤ Int32.toNatClampNeg (((81 * x1) + x2) - 81) then
          (none)
          else
          (if (((81 * x1) + x2) - 81) < 0 ∨ 6561 ≤ Int32.toNatClampNeg (((81 * x1) + x2) - 81) then
            (none)
            else
            (zcV (zrun zP 241 [zR 16 i0, zI ((81 * x1) + x2), zI ((zms σ.1 39 0 (Int32.toNatClampNeg ((81 * x1) + x2)) 0) 39 0 (Int32.toNatClampNeg (((81 * x1) + x2) - 81))), zI ((zms (zms σ.1 39 0 (Int32.toNatClampNeg ((81 * x1) + x2)) 0) 40 0 (Int32.toNatClampNeg ((81 * x1) + x2)) 0) 40 0 (Int32.toNatClampNeg (((81 * x1) + x2) - 81)))] (zms (zms σ.1 39 0 (Int32.toNatClampNeg ((81 * x1) + x2)) 0) 40 0 (Int32.toNatClampNeg ((81 * x1) + x2)) 0, σ.2)) (fun s1 =>
              if (((81 * x1) + x2) - 1) < 0 ∨ 6561 ≤ Int32.toNatClampNeg (((81 * x1) + x2) - 1) then
                (none)
                else
                (if (((81 * x1) + x2) - 1) < 0 ∨ 6561 ≤ Int32.toNatClampNeg (((81 * x1) + x2) - 1) then
                  (none)
                  else
                  (zcV (zrun zP 241 [zR 16 i0, zI ((81 * x1) + x2), zI (s1.1 39 0 (Int32.toNatClampNeg (((81 * x1) + x2) - 1))), zI (s1.1 40 0 (Int32.toNatClampNeg (((81 * x1) + x2) - 1)))] s1) (fun s2 =>
                    if (x1 - 1) < 0 ∨ 80 ≤ Int32.toNatClampNeg (x1 - 1) then
                      (none)
                      else
                      (if (x2 - 1) < 0 ∨ 80 ≤ Int32.toNatClampNeg (x2 - 1) then
                        (none)
                        else
                        (if x3 < (if 0 ≤ ((s2.1 37 0 (Int32.toNatClampNeg (x1 - 1))) - (s2.1 38 0 (Int32.toNatClampNeg (x2 - 1)))) then ((s2.1 37 0 (Int32.toNatClampNeg (x1 - 1))) - (s2.1 38 0 (Int32.toNatClampNeg (x2 - 1)))) else 0 - ((s2.1 37 0 (Int32.toNatClampNeg (x1 - 1))) - (s2.1 38 0 (Int32.toNatClampNeg (x2 - 1))))) then
                          (some (.inl none, s2))
                          else
                          (if (((81 * x1) + x2) - 82) < 0 ∨ 6561 ≤ Int32.toNatClampNeg (((81 * x1) + x2) - 82) then
                            (none)
                            else
                            (if (((81 * x1) + x2) - 82) < 0 ∨ 6561 ≤ Int32.toNatClampNeg (((81 * x1) + x2) - 82) then
                              (none)
                              else
                              (zcV (zrun zP 241 [zR 16 i0, zI ((81 * x1) + x2), zI ((s2.1 39 0 (Int32.toNatClampNeg (((81 * x1) + x2) - 82))) + 1), zI ((s2.1 40 0 (Int32.toNatClampNeg (((81 * x1) + x2) - 82))) + (if 0 ≤ ((s2.1 37 0 (Int32.toNatClampNeg (x1 - 1))) - (s2.1 38 0 (Int32.toNatClampNeg (x2 - 1)))) then ((s2.1 37 0 (Int32.toNatClampNeg (x1 - 1))) - (s2.1 38 0 (Int32.toNatClampNeg (x2 - 1)))) else 0 - ((s2.1 37 0 (Int32.toNatClampNeg (x1 - 1))) - (s2.1 38 0 (Int32.toNatClampNeg (x2 - 1))))))] s2) (fun s3 =>
                                some (.inl none, s3)))))))))))))))))) := (zrun_eq _ _ _).trans ((zun_eq zK_X6_pairsOf [] 89 _ _).trans rfl)
theorem e_X6_better (i0 : Nat) (x1 : Int32) (x2 : Int32) (x3 : Int32) (σ : zSt) : zrun zP 241 [zR 16 i0, zI x1, zI x2, zI x3] σ = (
  if x1 < 0 ∨ 6561 ≤ Int32.toNatClampNeg x1 then
  (none)
  else
  (if x2 < (σ.1 39 0 (Int32.toNatClampNeg x1)) then
    (some (.inl none, σ))
    else
    (if x1 < 0 ∨ 6561 ≤ Int32.toNatClampNeg x1 then
      (none)
      else
      (if x2 = (σ.1 39 0 (Int32.toNatClampNeg x1)) then
        (if x1 < 0 ∨ 6561 ≤ Int32.toNatClampNeg x1 then
          (none)
          else
          (if x3 < (σ.1 40 0 (Int32.toNatClampNeg x1)) then
            (if x1 < 0 ∨ 6561 ≤ Int32.toNatClampNeg x1 then
              (none)
              else
              (if x1 < 0 ∨ 6561 ≤ Int32.toNatClampNeg x1 then
                (none)
                else
                (some (.inl none, (zms (zms σ.1 39 0 (Int32.toNatClampNeg x1) x2) 40 0 (Int32.toNatClampNeg x1) x3, σ.2)))))
            else
            (if (0 : Int32) < x2 then
              (some (.inl none, σ))
              else
              (if x1 < 0 ∨ 6561 ≤ Int32.toNatClampNeg x1 then
                (none)
                else
                (if x1 < 0 ∨ 6561 ≤ Int32.toNatClampNeg x1 then
                  (none)
                  else
                  (some (.inl none, (zms (zms σ.1 39 0 (Int32.toNatClampNeg x1) x2) 40 0 (Int32.toNatClampNeg x1) x3, σ.2))))))))
        else
        (if x1 < 0 ∨ 6561 ≤ Int32.toNatClampNeg x1 then
          (none)
          else
          (if x1 < 0 ∨ 6561 ≤ Int32.toNatClampNeg x1 then
            (none)
            else
            (some (.inl none, (zms (zms σ.1 39 0 (Int32.toNatClampNeg x1) x2) 40 0 (Int32.toNatClampNeg x1) x3, σ.2))))))))) := (zrun_eq _ _ _).trans ((zun_eq zK_X6_better [] 32 _ _).trans rfl)
theorem e_X6_same_96 (i0 : Nat) (x1 : Int32) (x2 : Int32) (x3 : Int32) (x4 : Int32) (x5 : Int32) (x6 : Int32) (x7 : Int32) (v8 : zAV) (σ : zSt) : zX zP zK_X6_same (96, [zR 16 i0, zI x1, zI x2, zI x3, zI x4, zI x5, zI x6, zI x7, v8], []) σ = (
  if x5 < x7 then
  (if x3 = 0 then
    (if ((81 * x5) + x6) < 0 ∨ 6561 ≤ Int32.toNatClampNeg ((81 * x5) + x6) then
      (none)
      else
      (some (.inl (some (zI (σ.1 39 0 (Int32.toNatClampNeg ((81 * x5) + x6))))), σ)))
    else
    (if ((81 * x5) + x6) < 0 ∨ 6561 ≤ Int32.toNatClampNeg ((81 * x5) + x6) then
      (none)
      else
      (some (.inl (some (zI (σ.1 40 0 (Int32.toNatClampNeg ((81 * x5) + x6))))), σ))))
  else
  (zX zP zK_X6_same (106, [zR 16 i0, zI x1, zI x2, zI x3, zI x4, zI x5, zI x6, zI x7, zI 0], []) σ)) := (zun_eq zK_X6_same [96, 106] 16 _ _).trans rfl
theorem e_X6_same_106 (i0 : Nat) (x1 : Int32) (x2 : Int32) (x3 : Int32) (x4 : Int32) (x5 : Int32) (x6 : Int32) (x7 : Int32) (x8 : Int32) (σ : zSt) : zX zP zK_X6_same (106, [zR 16 i0, zI x1, zI x2, zI x3, zI x4, zI x5, zI x6, zI x7, zI x8], []) σ = (
  if x6 < x8 then
  (zX zP zK_X6_same (96, [zR 16 i0, zI x1, zI x2, zI x3, zI x4, zI x5, zI x6, zI (x7 + 1), zI x8], []) σ)
  else
  (zcV (zrun zP 240 [zR 16 i0, zI x7, zI x8, zI x2] σ) (fun s1 =>
    zX zP zK_X6_same (106, [zR 16 i0, zI x1, zI x2, zI x3, zI x4, zI x5, zI x6, zI x7, zI (x8 + 1)], []) s1))) := (zun_eq zK_X6_same [96, 106] 11 _ _).trans rfl
theorem e_X6_same (i0 : Nat) (x1 : Int32) (x2 : Int32) (x3 : Int32) (σ : zSt) : zrun zP 242 [zR 16 i0, zI x1, zI x2, zI x3] σ = (
  zcI (zrun zP 189 [zR 16 i0, zI x1] (zms σ.1 16 i0 0 0, σ.2)) (fun r1 s1 =>
  if r1 = 0 then
    (some (.inl (some (zI 0)), s1))
    else
    (zcI (zrun zP 137 [zI x2, zI 0, zI 999] s1) (fun r2 s2 =>
      if r2 = 0 then
        (zcI (zrun zP 136 [zR 16 i0, zI 0, zI 2, zI 1] s2) (fun r3 s3 =>
          if r3 = 0 then
            (some (.inl (some (zI 0)), s3))
            else
            (zcI (zrun zP 236 [zR 16 i0, zI x1] s3) (fun r4 s4 =>
              if r4 = (-1) then
                (some (.inl (some (zI (-1))), s4))
                else
                (zcI (zrun zP 239 [zR 31 0, zI x1, zR 37 0] s4) (fun r5 s5 =>
                  zcI (zrun zP 239 [zR 32 0, zI r4, zR 38 0] s5) (fun r6 s6 =>
                    zX zP zK_X6_same (96, [zR 16 i0, zI x1, zI x2, zI x3, zI r4, zI r5, zI r6, zI 0, zJunk], []) s6)))))))
        else
        (zcI (zrun zP 137 [zI x3, zI 0, zI 1] s2) (fun r7 s7 =>
          if r7 = 0 then
            (zcI (zrun zP 136 [zR 16 i0, zI 0, zI 2, zI 1] s7) (fun r8 s8 =>
              if r8 = 0 then
                (some (.inl (some (zI 0)), s8))
                else
                (zcI (zrun zP 236 [zR 16 i0, zI x1] s8) (fun r9 s9 =>
                  if r9 = (-1) then
                    (some (.inl (some (zI (-1))), s9))
                    else
                    (zcI (zrun zP 239 [zR 31 0, zI x1, zR 37 0] s9) (fun r10 s10 =>
                      zcI (zrun zP 239 [zR 32 0, zI r9, zR 38 0] s10) (fun r11 s11 =>
                        zX zP zK_X6_same (96, [zR 16 i0, zI x1, zI x2, zI x3, zI r9, zI r10, zI r11, zI 0, zJunk], []) s11)))))))
            else
            (zcI (zrun zP 136 [zR 16 i0, zI 1, zI 2, zI 1] s7) (fun r12 s12 =>
              if r12 = 0 then
                (some (.inl (some (zI 0)), s12))
                else
                (zcI (zrun zP 236 [zR 16 i0, zI x1] s12) (fun r13 s13 =>
                  if r13 = (-1) then
                    (some (.inl (some (zI (-1))), s13))
                    else
                    (zcI (zrun zP 239 [zR 31 0, zI x1, zR 37 0] s13) (fun r14 s14 =>
                      zcI (zrun zP 239 [zR 32 0, zI r13, zR 38 0] s14) (fun r15 s15 =>
                        zX zP zK_X6_same (96, [zR 16 i0, zI x1, zI x2, zI x3, zI r13, zI r14, zI r15, zI 0, zJunk], []) s15))))))))))))) := (zrun_eq _ _ _).trans ((zun_eq zK_X6_same [96, 106] 48 _ _).trans rfl)
theorem e_X6_print_9 (i0 : Nat) (y1 : Int64) (v2 : zAV) (x3 : Int32) (v4 : zAV) (v5 : zAV) (σ : zSt) : zX zP zK_X6_print (9, [zR 16 i0, zL y1, v2, zI x3, v4, v5], []) σ = (
  zcI (zrun zP 138 [zR 16 i0] σ) (fun r1 s1 =>
  if x3 < r1 then
    (zX zP zK_X6_print (20, [zR 16 i0, zL y1, v2, zI x3, zI 0, v5], []) s1)
    else
    (some (.inl (some (zL y1)), s1)))) := (zun_eq zK_X6_print [9, 20, 33] 7 _ _).trans rfl
theorem e_X6_print_20 (i0 : Nat) (y1 : Int64) (v2 : zAV) (x3 : Int32) (x4 : Int32) (v5 : zAV) (σ : zSt) : zX zP zK_X6_print (20, [zR 16 i0, zL y1, v2, zI x3, zI x4, v5], []) σ = (
  zcI (zrun zP 142 [zR 16 i0, zI x3] σ) (fun r1 s1 =>
  if x4 < r1 then
    (zX zP zK_X6_print (33, [zR 16 i0, zL y1, v2, zI x3, zI x4, zI 0], []) s1)
    else
    (zX zP zK_X6_print (9, [zR 16 i0, zL ((lN 31) * y1), zJunk, zI (x3 + 1), zI x4, v5], []) s1))) := (zun_eq zK_X6_print [9, 20, 33] 12 _ _).trans rfl
theorem e_X6_print_33 (i0 : Nat) (y1 : Int64) (v2 : zAV) (x3 : Int32) (x4 : Int32) (x5 : Int32) (σ : zSt) : zX zP zK_X6_print (33, [zR 16 i0, zL y1, v2, zI x3, zI x4, zI x5], []) σ = (
  if x5 < 3 then
  (zcI (zrun zP 143 [zI x3, zI x4, zI x5] σ) (fun r1 s1 =>
    if r1 < 0 ∨ 745 ≤ Int32.toNatClampNeg r1 then
      (none)
      else
      (zX zP zK_X6_print (33, [zR 16 i0, zL (((lN 31) * y1) + (Int32.toInt64 (s1.1 31 0 (Int32.toNatClampNeg r1)))), zJunk, zI x3, zI x4, zI (x5 + 1)], []) s1)))
  else
  (zX zP zK_X6_print (20, [zR 16 i0, zL y1, v2, zI x3, zI (x4 + 1), zI x5], []) σ)) := (zun_eq zK_X6_print [9, 20, 33] 19 _ _).trans rfl
theorem e_X6_print (i0 : Nat) (σ : zSt) : zrun zP 243 [zR 16 i0] σ = (
  zX zP zK_X6_print (9, [zR 16 i0, zL (lN 0), zJunk, zI 0, zJunk, zJunk], []) (zms σ.1 16 i0 0 0, σ.2)) := (zrun_eq _ _ _).trans ((zun_eq zK_X6_print [9, 20, 33] 8 _ _).trans rfl)
theorem e_X6_status (i0 : Nat) (x1 : Int32) (σ : zSt) : zrun zP 244 [zR 16 i0, zI x1] σ = (
  zcI (zrun zP 137 [zI x1, zI 0, zI 2] (zms σ.1 16 i0 0 0, σ.2)) (fun r1 s1 =>
  if r1 = 0 then
    (some (.inl (some (zI (-1))), s1))
    else
    (if x1 < 0 ∨ 3 ≤ Int32.toNatClampNeg x1 then
      (none)
      else
      (some (.inl (some (zI (s1.1 30 0 (Int32.toNatClampNeg x1)))), s1))))) := (zrun_eq _ _ _).trans ((zun_eq zK_X6_status [] 15 _ _).trans rfl)
end
