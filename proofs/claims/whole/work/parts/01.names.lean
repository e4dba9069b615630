-- ===== PART A: goes FIRST, ahead of the names: the tables' words, and 'selects' of the private methods out of them =====
/-- a private method of a class that the tables say can be made, by its rows of tables_1 -/
def lw_okq (q : MethodName × Nat) : Prop := (q.1.cls ≠ "java/lang/invoke/MethodHandle" ∧ q.1.cls ≠ "java/lang/invoke/VarHandle") ∧ Cond.instantiable q.1.cls q.2 ∈ tables_1 ∧ Cond.privateMethod q.1 ∈ tables_1 ∧ Cond.instanceMethod q.1 ∈ tables_1
theorem lw_p0 : lw_okq (⟨"WhyRoom", "refuse", "(I)I"⟩, 17) := ⟨⟨by decide +kernel, by decide +kernel⟩, List.mem_of_getElem? (i := 19) (by decide +kernel), List.mem_of_getElem? (i := 365) (by decide +kernel), List.mem_of_getElem? (i := 366) (by decide +kernel)⟩
theorem lw_p1 : lw_okq (⟨"WhyRoom$Reader", "passBlanks", "(LWhyRoom$Text;)V"⟩, 2) := ⟨⟨by decide +kernel, by decide +kernel⟩, List.mem_of_getElem? (i := 105) (by decide +kernel), List.mem_of_getElem? (i := 446) (by decide +kernel), List.mem_of_getElem? (i := 447) (by decide +kernel)⟩
theorem lw_p2 : lw_okq (⟨"WhyRoom$Reader", "readItem", "(LWhyRoom$Text;)Z"⟩, 2) := ⟨⟨by decide +kernel, by decide +kernel⟩, List.mem_of_getElem? (i := 105) (by decide +kernel), List.mem_of_getElem? (i := 454) (by decide +kernel), List.mem_of_getElem? (i := 455) (by decide +kernel)⟩
theorem lw_p3 : lw_okq (⟨"WhyRoom$Reader", "readReason", "(LWhyRoom$Text;)Z"⟩, 2) := ⟨⟨by decide +kernel, by decide +kernel⟩, List.mem_of_getElem? (i := 105) (by decide +kernel), List.mem_of_getElem? (i := 458) (by decide +kernel), List.mem_of_getElem? (i := 459) (by decide +kernel)⟩
theorem lw_p4 : lw_okq (⟨"WhyRoom$Reader", "readParts", "(LWhyRoom$Text;II)I"⟩, 2) := ⟨⟨by decide +kernel, by decide +kernel⟩, List.mem_of_getElem? (i := 105) (by decide +kernel), List.mem_of_getElem? (i := 492) (by decide +kernel), List.mem_of_getElem? (i := 493) (by decide +kernel)⟩
theorem lw_p5 : lw_okq (⟨"WhyRoom", "isClaim", "(I)Z"⟩, 17) := ⟨⟨by decide +kernel, by decide +kernel⟩, List.mem_of_getElem? (i := 19) (by decide +kernel), List.mem_of_getElem? (i := 526) (by decide +kernel), List.mem_of_getElem? (i := 527) (by decide +kernel)⟩
theorem lw_p6 : lw_okq (⟨"WhyRoom", "factOfClaim", "(II)I"⟩, 17) := ⟨⟨by decide +kernel, by decide +kernel⟩, List.mem_of_getElem? (i := 19) (by decide +kernel), List.mem_of_getElem? (i := 530) (by decide +kernel), List.mem_of_getElem? (i := 531) (by decide +kernel)⟩
theorem lw_p7 : lw_okq (⟨"WhyRoom", "isReason", "(I)Z"⟩, 17) := ⟨⟨by decide +kernel, by decide +kernel⟩, List.mem_of_getElem? (i := 19) (by decide +kernel), List.mem_of_getElem? (i := 556) (by decide +kernel), List.mem_of_getElem? (i := 557) (by decide +kernel)⟩
theorem lw_p8 : lw_okq (⟨"WhyRoom", "factOfReason", "(II)I"⟩, 17) := ⟨⟨by decide +kernel, by decide +kernel⟩, List.mem_of_getElem? (i := 19) (by decide +kernel), List.mem_of_getElem? (i := 560) (by decide +kernel), List.mem_of_getElem? (i := 561) (by decide +kernel)⟩
theorem lw_p9 : lw_okq (⟨"WhyRoom", "overHere", "()I"⟩, 17) := ⟨⟨by decide +kernel, by decide +kernel⟩, List.mem_of_getElem? (i := 19) (by decide +kernel), List.mem_of_getElem? (i := 615) (by decide +kernel), List.mem_of_getElem? (i := 616) (by decide +kernel)⟩
theorem lw_p10 : lw_okq (⟨"WhyRoom$Ways", "relax", "(II)Z"⟩, 8) := ⟨⟨by decide +kernel, by decide +kernel⟩, List.mem_of_getElem? (i := 189) (by decide +kernel), List.mem_of_getElem? (i := 722) (by decide +kernel), List.mem_of_getElem? (i := 723) (by decide +kernel)⟩
theorem lw_p11 : lw_okq (⟨"WhyRoom$Ways", "isFirm", "(II)Z"⟩, 8) := ⟨⟨by decide +kernel, by decide +kernel⟩, List.mem_of_getElem? (i := 189) (by decide +kernel), List.mem_of_getElem? (i := 726) (by decide +kernel), List.mem_of_getElem? (i := 727) (by decide +kernel)⟩
theorem lw_p12 : lw_okq (⟨"WhyRoom$Ways", "costBy", "(II)I"⟩, 8) := ⟨⟨by decide +kernel, by decide +kernel⟩, List.mem_of_getElem? (i := 189) (by decide +kernel), List.mem_of_getElem? (i := 731) (by decide +kernel), List.mem_of_getElem? (i := 732) (by decide +kernel)⟩
theorem lw_p13 : lw_okq (⟨"WhyRoom$Ways", "goFurther", "(III)V"⟩, 8) := ⟨⟨by decide +kernel, by decide +kernel⟩, List.mem_of_getElem? (i := 189) (by decide +kernel), List.mem_of_getElem? (i := 769) (by decide +kernel), List.mem_of_getElem? (i := 770) (by decide +kernel)⟩
theorem lw_p14 : lw_okq (⟨"WhyRoom$Losses", "forcedInto", "(I)I"⟩, 3) := ⟨⟨by decide +kernel, by decide +kernel⟩, List.mem_of_getElem? (i := 221) (by decide +kernel), List.mem_of_getElem? (i := 785) (by decide +kernel), List.mem_of_getElem? (i := 786) (by decide +kernel)⟩
theorem lw_p15 : lw_okq (⟨"WhyRoom$Needs", "isEnoughWithOneLess", "(I)Z"⟩, 4) := ⟨⟨by decide +kernel, by decide +kernel⟩, List.mem_of_getElem? (i := 237) (by decide +kernel), List.mem_of_getElem? (i := 871) (by decide +kernel), List.mem_of_getElem? (i := 872) (by decide +kernel)⟩
def lw_privs_1 : List (MethodName × Nat) := [(⟨"WhyRoom", "refuse", "(I)I"⟩, 17), (⟨"WhyRoom$Reader", "passBlanks", "(LWhyRoom$Text;)V"⟩, 2), (⟨"WhyRoom$Reader", "readItem", "(LWhyRoom$Text;)Z"⟩, 2), (⟨"WhyRoom$Reader", "readReason", "(LWhyRoom$Text;)Z"⟩, 2), (⟨"WhyRoom$Reader", "readParts", "(LWhyRoom$Text;II)I"⟩, 2), (⟨"WhyRoom", "isClaim", "(I)Z"⟩, 17), (⟨"WhyRoom", "factOfClaim", "(II)I"⟩, 17), (⟨"WhyRoom", "isReason", "(I)Z"⟩, 17), (⟨"WhyRoom", "factOfReason", "(II)I"⟩, 17), (⟨"WhyRoom", "overHere", "()I"⟩, 17), (⟨"WhyRoom$Ways", "relax", "(II)Z"⟩, 8), (⟨"WhyRoom$Ways", "isFirm", "(II)Z"⟩, 8), (⟨"WhyRoom$Ways", "costBy", "(II)I"⟩, 8), (⟨"WhyRoom$Ways", "goFurther", "(III)V"⟩, 8), (⟨"WhyRoom$Losses", "forcedInto", "(I)I"⟩, 3), (⟨"WhyRoom$Needs", "isEnoughWithOneLess", "(I)Z"⟩, 4)]
theorem lw_r1 : ∀ q ∈ lw_privs_1, lw_okq q := List.forall_mem_cons.mpr ⟨lw_p0, List.forall_mem_cons.mpr ⟨lw_p1, List.forall_mem_cons.mpr ⟨lw_p2, List.forall_mem_cons.mpr ⟨lw_p3, List.forall_mem_cons.mpr ⟨lw_p4, List.forall_mem_cons.mpr ⟨lw_p5, List.forall_mem_cons.mpr ⟨lw_p6, List.forall_mem_cons.mpr ⟨lw_p7, List.forall_mem_cons.mpr ⟨lw_p8, List.forall_mem_cons.mpr ⟨lw_p9, List.forall_mem_cons.mpr ⟨lw_p10, List.forall_mem_cons.mpr ⟨lw_p11, List.forall_mem_cons.mpr ⟨lw_p12, List.forall_mem_cons.mpr ⟨lw_p13, List.forall_mem_cons.mpr ⟨lw_p14, List.forall_mem_cons.mpr ⟨lw_p15, fun _ h => absurd h List.not_mem_nil⟩⟩⟩⟩⟩⟩⟩⟩⟩⟩⟩⟩⟩⟩⟩⟩
theorem lw_p16 : lw_okq (⟨"WhyRoom$Needs", "isEnough", "(I)Z"⟩, 4) := ⟨⟨by decide +kernel, by decide +kernel⟩, List.mem_of_getElem? (i := 237) (by decide +kernel), List.mem_of_getElem? (i := 875) (by decide +kernel), List.mem_of_getElem? (i := 876) (by decide +kernel)⟩
theorem lw_p17 : lw_okq (⟨"WhyRoom$Needs", "markEnough", "(IZ)V"⟩, 4) := ⟨⟨by decide +kernel, by decide +kernel⟩, List.mem_of_getElem? (i := 237) (by decide +kernel), List.mem_of_getElem? (i := 879) (by decide +kernel), List.mem_of_getElem? (i := 880) (by decide +kernel)⟩
theorem lw_p18 : lw_okq (⟨"WhyRoom", "refusalOfTale", "(I)I"⟩, 17) := ⟨⟨by decide +kernel, by decide +kernel⟩, List.mem_of_getElem? (i := 19) (by decide +kernel), List.mem_of_getElem? (i := 891) (by decide +kernel), List.mem_of_getElem? (i := 892) (by decide +kernel)⟩
theorem lw_p19 : lw_okq (⟨"WhyRoom$Lots", "countLinks", "()V"⟩, 6) := ⟨⟨by decide +kernel, by decide +kernel⟩, List.mem_of_getElem? (i := 280) (by decide +kernel), List.mem_of_getElem? (i := 930) (by decide +kernel), List.mem_of_getElem? (i := 931) (by decide +kernel)⟩
theorem lw_p20 : lw_okq (⟨"WhyRoom$Lots", "rowsOn", "(IIII)I"⟩, 6) := ⟨⟨by decide +kernel, by decide +kernel⟩, List.mem_of_getElem? (i := 280) (by decide +kernel), List.mem_of_getElem? (i := 937) (by decide +kernel), List.mem_of_getElem? (i := 938) (by decide +kernel)⟩
theorem lw_p21 : lw_okq (⟨"WhyRoom$Lots", "shareByReasons", "(I)J"⟩, 6) := ⟨⟨by decide +kernel, by decide +kernel⟩, List.mem_of_getElem? (i := 280) (by decide +kernel), List.mem_of_getElem? (i := 953) (by decide +kernel), List.mem_of_getElem? (i := 954) (by decide +kernel)⟩
theorem lw_p22 : lw_okq (⟨"WhyRoom$Lots", "shareByParts", "(I)J"⟩, 6) := ⟨⟨by decide +kernel, by decide +kernel⟩, List.mem_of_getElem? (i := 280) (by decide +kernel), List.mem_of_getElem? (i := 959) (by decide +kernel), List.mem_of_getElem? (i := 960) (by decide +kernel)⟩
theorem lw_p23 : lw_okq (⟨"WhyRoom", "howMany", "(I)I"⟩, 17) := ⟨⟨by decide +kernel, by decide +kernel⟩, List.mem_of_getElem? (i := 19) (by decide +kernel), List.mem_of_getElem? (i := 1002) (by decide +kernel), List.mem_of_getElem? (i := 1003) (by decide +kernel)⟩
theorem lw_p24 : lw_okq (⟨"WhyRoom", "rowsThere", "()I"⟩, 17) := ⟨⟨by decide +kernel, by decide +kernel⟩, List.mem_of_getElem? (i := 19) (by decide +kernel), List.mem_of_getElem? (i := 1006) (by decide +kernel), List.mem_of_getElem? (i := 1007) (by decide +kernel)⟩
theorem lw_p25 : lw_okq (⟨"WhyRoom", "textsThere", "()I"⟩, 17) := ⟨⟨by decide +kernel, by decide +kernel⟩, List.mem_of_getElem? (i := 19) (by decide +kernel), List.mem_of_getElem? (i := 1010) (by decide +kernel), List.mem_of_getElem? (i := 1011) (by decide +kernel)⟩
theorem lw_p26 : lw_okq (⟨"WhyRoom", "imagesThere", "()I"⟩, 17) := ⟨⟨by decide +kernel, by decide +kernel⟩, List.mem_of_getElem? (i := 19) (by decide +kernel), List.mem_of_getElem? (i := 1014) (by decide +kernel), List.mem_of_getElem? (i := 1015) (by decide +kernel)⟩
theorem lw_p27 : lw_okq (⟨"WhyRoom", "withFacts", "(J)J"⟩, 17) := ⟨⟨by decide +kernel, by decide +kernel⟩, List.mem_of_getElem? (i := 19) (by decide +kernel), List.mem_of_getElem? (i := 1032) (by decide +kernel), List.mem_of_getElem? (i := 1033) (by decide +kernel)⟩
theorem lw_p28 : lw_okq (⟨"WhyRoom", "withEvening", "(J)J"⟩, 17) := ⟨⟨by decide +kernel, by decide +kernel⟩, List.mem_of_getElem? (i := 19) (by decide +kernel), List.mem_of_getElem? (i := 1036) (by decide +kernel), List.mem_of_getElem? (i := 1037) (by decide +kernel)⟩
theorem lw_p29 : lw_okq (⟨"WhyRoomModel", "meets", "(I)I"⟩, 40) := ⟨⟨by decide +kernel, by decide +kernel⟩, List.mem_of_getElem? (i := 1047) (by decide +kernel), List.mem_of_getElem? (i := 1205) (by decide +kernel), List.mem_of_getElem? (i := 1206) (by decide +kernel)⟩
theorem lw_p30 : lw_okq (⟨"WhyRoomModel", "rowAt", "(II)I"⟩, 40) := ⟨⟨by decide +kernel, by decide +kernel⟩, List.mem_of_getElem? (i := 1047) (by decide +kernel), List.mem_of_getElem? (i := 1213) (by decide +kernel), List.mem_of_getElem? (i := 1214) (by decide +kernel)⟩
theorem lw_p31 : lw_okq (⟨"WhyRoomModel", "tells", "(II)I"⟩, 40) := ⟨⟨by decide +kernel, by decide +kernel⟩, List.mem_of_getElem? (i := 1047) (by decide +kernel), List.mem_of_getElem? (i := 1217) (by decide +kernel), List.mem_of_getElem? (i := 1218) (by decide +kernel)⟩
def lw_privs_2 : List (MethodName × Nat) := [(⟨"WhyRoom$Needs", "isEnough", "(I)Z"⟩, 4), (⟨"WhyRoom$Needs", "markEnough", "(IZ)V"⟩, 4), (⟨"WhyRoom", "refusalOfTale", "(I)I"⟩, 17), (⟨"WhyRoom$Lots", "countLinks", "()V"⟩, 6), (⟨"WhyRoom$Lots", "rowsOn", "(IIII)I"⟩, 6), (⟨"WhyRoom$Lots", "shareByReasons", "(I)J"⟩, 6), (⟨"WhyRoom$Lots", "shareByParts", "(I)J"⟩, 6), (⟨"WhyRoom", "howMany", "(I)I"⟩, 17), (⟨"WhyRoom", "rowsThere", "()I"⟩, 17), (⟨"WhyRoom", "textsThere", "()I"⟩, 17), (⟨"WhyRoom", "imagesThere", "()I"⟩, 17), (⟨"WhyRoom", "withFacts", "(J)J"⟩, 17), (⟨"WhyRoom", "withEvening", "(J)J"⟩, 17), (⟨"WhyRoomModel", "meets", "(I)I"⟩, 40), (⟨"WhyRoomModel", "rowAt", "(II)I"⟩, 40), (⟨"WhyRoomModel", "tells", "(II)I"⟩, 40)]
theorem lw_r2 : ∀ q ∈ lw_privs_2, lw_okq q := List.forall_mem_cons.mpr ⟨lw_p16, List.forall_mem_cons.mpr ⟨lw_p17, List.forall_mem_cons.mpr ⟨lw_p18, List.forall_mem_cons.mpr ⟨lw_p19, List.forall_mem_cons.mpr ⟨lw_p20, List.forall_mem_cons.mpr ⟨lw_p21, List.forall_mem_cons.mpr ⟨lw_p22, List.forall_mem_cons.mpr ⟨lw_p23, List.forall_mem_cons.mpr ⟨lw_p24, List.forall_mem_cons.mpr ⟨lw_p25, List.forall_mem_cons.mpr ⟨lw_p26, List.forall_mem_cons.mpr ⟨lw_p27, List.forall_mem_cons.mpr ⟨lw_p28, List.forall_mem_cons.mpr ⟨lw_p29, List.forall_mem_cons.mpr ⟨lw_p30, List.forall_mem_cons.mpr ⟨lw_p31, fun _ h => absurd h List.not_mem_nil⟩⟩⟩⟩⟩⟩⟩⟩⟩⟩⟩⟩⟩⟩⟩⟩
theorem lw_p32 : lw_okq (⟨"WhyRoomModel", "faultOf", "(I)I"⟩, 40) := ⟨⟨by decide +kernel, by decide +kernel⟩, List.mem_of_getElem? (i := 1047) (by decide +kernel), List.mem_of_getElem? (i := 1252) (by decide +kernel), List.mem_of_getElem? (i := 1253) (by decide +kernel)⟩
theorem lw_p33 : lw_okq (⟨"WhyRoomModel", "byteAt", "(II)I"⟩, 40) := ⟨⟨by decide +kernel, by decide +kernel⟩, List.mem_of_getElem? (i := 1047) (by decide +kernel), List.mem_of_getElem? (i := 1256) (by decide +kernel), List.mem_of_getElem? (i := 1257) (by decide +kernel)⟩
theorem lw_p34 : lw_okq (⟨"WhyRoomModel", "readsReason", "(I)Z"⟩, 40) := ⟨⟨by decide +kernel, by decide +kernel⟩, List.mem_of_getElem? (i := 1047) (by decide +kernel), List.mem_of_getElem? (i := 1260) (by decide +kernel), List.mem_of_getElem? (i := 1261) (by decide +kernel)⟩
theorem lw_p35 : lw_okq (⟨"WhyRoomModel", "readFor", "(I)I"⟩, 40) := ⟨⟨by decide +kernel, by decide +kernel⟩, List.mem_of_getElem? (i := 1047) (by decide +kernel), List.mem_of_getElem? (i := 1267) (by decide +kernel), List.mem_of_getElem? (i := 1268) (by decide +kernel)⟩
theorem lw_p36 : lw_okq (⟨"WhyRoomModel", "figure", "(III)Z"⟩, 40) := ⟨⟨by decide +kernel, by decide +kernel⟩, List.mem_of_getElem? (i := 1047) (by decide +kernel), List.mem_of_getElem? (i := 1271) (by decide +kernel), List.mem_of_getElem? (i := 1272) (by decide +kernel)⟩
theorem lw_p37 : lw_okq (⟨"WhyRoomModel", "readsClaim", "(I)Z"⟩, 40) := ⟨⟨by decide +kernel, by decide +kernel⟩, List.mem_of_getElem? (i := 1047) (by decide +kernel), List.mem_of_getElem? (i := 1278) (by decide +kernel), List.mem_of_getElem? (i := 1279) (by decide +kernel)⟩
theorem lw_p38 : lw_okq (⟨"WhyRoomModel", "isClaim", "(I)Z"⟩, 40) := ⟨⟨by decide +kernel, by decide +kernel⟩, List.mem_of_getElem? (i := 1047) (by decide +kernel), List.mem_of_getElem? (i := 1293) (by decide +kernel), List.mem_of_getElem? (i := 1294) (by decide +kernel)⟩
theorem lw_p39 : lw_okq (⟨"WhyRoomModel", "claimTells", "(II)I"⟩, 40) := ⟨⟨by decide +kernel, by decide +kernel⟩, List.mem_of_getElem? (i := 1047) (by decide +kernel), List.mem_of_getElem? (i := 1297) (by decide +kernel), List.mem_of_getElem? (i := 1298) (by decide +kernel)⟩
theorem lw_p40 : lw_okq (⟨"WhyRoomModel", "reasonsFor", "(I)I"⟩, 40) := ⟨⟨by decide +kernel, by decide +kernel⟩, List.mem_of_getElem? (i := 1047) (by decide +kernel), List.mem_of_getElem? (i := 1301) (by decide +kernel), List.mem_of_getElem? (i := 1302) (by decide +kernel)⟩
theorem lw_p41 : lw_okq (⟨"WhyRoomModel", "reasonsWith", "(I)I"⟩, 40) := ⟨⟨by decide +kernel, by decide +kernel⟩, List.mem_of_getElem? (i := 1047) (by decide +kernel), List.mem_of_getElem? (i := 1305) (by decide +kernel), List.mem_of_getElem? (i := 1306) (by decide +kernel)⟩
theorem lw_p42 : lw_okq (⟨"WhyRoomModel", "standNow", "()I"⟩, 40) := ⟨⟨by decide +kernel, by decide +kernel⟩, List.mem_of_getElem? (i := 1047) (by decide +kernel), List.mem_of_getElem? (i := 1309) (by decide +kernel), List.mem_of_getElem? (i := 1310) (by decide +kernel)⟩
theorem lw_p43 : lw_okq (⟨"WhyRoomModel", "allClaims", "()I"⟩, 40) := ⟨⟨by decide +kernel, by decide +kernel⟩, List.mem_of_getElem? (i := 1047) (by decide +kernel), List.mem_of_getElem? (i := 1313) (by decide +kernel), List.mem_of_getElem? (i := 1314) (by decide +kernel)⟩
theorem lw_p44 : lw_okq (⟨"WhyRoomModel", "allReasons", "()I"⟩, 40) := ⟨⟨by decide +kernel, by decide +kernel⟩, List.mem_of_getElem? (i := 1047) (by decide +kernel), List.mem_of_getElem? (i := 1317) (by decide +kernel), List.mem_of_getElem? (i := 1318) (by decide +kernel)⟩
theorem lw_p45 : lw_okq (⟨"WhyRoomModel", "standing", "(II)I"⟩, 40) := ⟨⟨by decide +kernel, by decide +kernel⟩, List.mem_of_getElem? (i := 1047) (by decide +kernel), List.mem_of_getElem? (i := 1321) (by decide +kernel), List.mem_of_getElem? (i := 1322) (by decide +kernel)⟩
theorem lw_p46 : lw_okq (⟨"WhyRoomModel", "isUsable", "(I)Z"⟩, 40) := ⟨⟨by decide +kernel, by decide +kernel⟩, List.mem_of_getElem? (i := 1047) (by decide +kernel), List.mem_of_getElem? (i := 1325) (by decide +kernel), List.mem_of_getElem? (i := 1326) (by decide +kernel)⟩
theorem lw_p47 : lw_okq (⟨"WhyRoomModel", "isReason", "(I)Z"⟩, 40) := ⟨⟨by decide +kernel, by decide +kernel⟩, List.mem_of_getElem? (i := 1047) (by decide +kernel), List.mem_of_getElem? (i := 1333) (by decide +kernel), List.mem_of_getElem? (i := 1334) (by decide +kernel)⟩
def lw_privs_3 : List (MethodName × Nat) := [(⟨"WhyRoomModel", "faultOf", "(I)I"⟩, 40), (⟨"WhyRoomModel", "byteAt", "(II)I"⟩, 40), (⟨"WhyRoomModel", "readsReason", "(I)Z"⟩, 40), (⟨"WhyRoomModel", "readFor", "(I)I"⟩, 40), (⟨"WhyRoomModel", "figure", "(III)Z"⟩, 40), (⟨"WhyRoomModel", "readsClaim", "(I)Z"⟩, 40), (⟨"WhyRoomModel", "isClaim", "(I)Z"⟩, 40), (⟨"WhyRoomModel", "claimTells", "(II)I"⟩, 40), (⟨"WhyRoomModel", "reasonsFor", "(I)I"⟩, 40), (⟨"WhyRoomModel", "reasonsWith", "(I)I"⟩, 40), (⟨"WhyRoomModel", "standNow", "()I"⟩, 40), (⟨"WhyRoomModel", "allClaims", "()I"⟩, 40), (⟨"WhyRoomModel", "allReasons", "()I"⟩, 40), (⟨"WhyRoomModel", "standing", "(II)I"⟩, 40), (⟨"WhyRoomModel", "isUsable", "(I)Z"⟩, 40), (⟨"WhyRoomModel", "isReason", "(I)Z"⟩, 40)]
theorem lw_r3 : ∀ q ∈ lw_privs_3, lw_okq q := List.forall_mem_cons.mpr ⟨lw_p32, List.forall_mem_cons.mpr ⟨lw_p33, List.forall_mem_cons.mpr ⟨lw_p34, List.forall_mem_cons.mpr ⟨lw_p35, List.forall_mem_cons.mpr ⟨lw_p36, List.forall_mem_cons.mpr ⟨lw_p37, List.forall_mem_cons.mpr ⟨lw_p38, List.forall_mem_cons.mpr ⟨lw_p39, List.forall_mem_cons.mpr ⟨lw_p40, List.forall_mem_cons.mpr ⟨lw_p41, List.forall_mem_cons.mpr ⟨lw_p42, List.forall_mem_cons.mpr ⟨lw_p43, List.forall_mem_cons.mpr ⟨lw_p44, List.forall_mem_cons.mpr ⟨lw_p45, List.forall_mem_cons.mpr ⟨lw_p46, List.forall_mem_cons.mpr ⟨lw_p47, fun _ h => absurd h List.not_mem_nil⟩⟩⟩⟩⟩⟩⟩⟩⟩⟩⟩⟩⟩⟩⟩⟩
theorem lw_p48 : lw_okq (⟨"WhyRoomModel", "reasonTells", "(II)I"⟩, 40) := ⟨⟨by decide +kernel, by decide +kernel⟩, List.mem_of_getElem? (i := 1047) (by decide +kernel), List.mem_of_getElem? (i := 1337) (by decide +kernel), List.mem_of_getElem? (i := 1338) (by decide +kernel)⟩
theorem lw_p49 : lw_okq (⟨"WhyRoomModel", "lossSet", "()I"⟩, 40) := ⟨⟨by decide +kernel, by decide +kernel⟩, List.mem_of_getElem? (i := 1047) (by decide +kernel), List.mem_of_getElem? (i := 1348) (by decide +kernel), List.mem_of_getElem? (i := 1349) (by decide +kernel)⟩
theorem lw_p50 : lw_okq (⟨"WhyRoomModel", "isAtLoss", "(I)Z"⟩, 40) := ⟨⟨by decide +kernel, by decide +kernel⟩, List.mem_of_getElem? (i := 1047) (by decide +kernel), List.mem_of_getElem? (i := 1352) (by decide +kernel), List.mem_of_getElem? (i := 1353) (by decide +kernel)⟩
theorem lw_p51 : lw_okq (⟨"WhyRoomModel", "usableFor", "(I)I"⟩, 40) := ⟨⟨by decide +kernel, by decide +kernel⟩, List.mem_of_getElem? (i := 1047) (by decide +kernel), List.mem_of_getElem? (i := 1356) (by decide +kernel), List.mem_of_getElem? (i := 1357) (by decide +kernel)⟩
theorem lw_p52 : lw_okq (⟨"WhyRoomModel", "fallSet", "(I)I"⟩, 40) := ⟨⟨by decide +kernel, by decide +kernel⟩, List.mem_of_getElem? (i := 1047) (by decide +kernel), List.mem_of_getElem? (i := 1360) (by decide +kernel), List.mem_of_getElem? (i := 1361) (by decide +kernel)⟩
theorem lw_p53 : lw_okq (⟨"WhyRoomModel", "standWithout", "(I)I"⟩, 40) := ⟨⟨by decide +kernel, by decide +kernel⟩, List.mem_of_getElem? (i := 1047) (by decide +kernel), List.mem_of_getElem? (i := 1364) (by decide +kernel), List.mem_of_getElem? (i := 1365) (by decide +kernel)⟩
theorem lw_p54 : lw_okq (⟨"WhyRoomModel", "actSet", "()I"⟩, 40) := ⟨⟨by decide +kernel, by decide +kernel⟩, List.mem_of_getElem? (i := 1047) (by decide +kernel), List.mem_of_getElem? (i := 1368) (by decide +kernel), List.mem_of_getElem? (i := 1369) (by decide +kernel)⟩
theorem lw_p55 : lw_okq (⟨"WhyRoomModel", "isAct", "(I)Z"⟩, 40) := ⟨⟨by decide +kernel, by decide +kernel⟩, List.mem_of_getElem? (i := 1047) (by decide +kernel), List.mem_of_getElem? (i := 1372) (by decide +kernel), List.mem_of_getElem? (i := 1373) (by decide +kernel)⟩
theorem lw_p56 : lw_okq (⟨"WhyRoomModel", "isOver", "(I)Z"⟩, 40) := ⟨⟨by decide +kernel, by decide +kernel⟩, List.mem_of_getElem? (i := 1047) (by decide +kernel), List.mem_of_getElem? (i := 1396) (by decide +kernel), List.mem_of_getElem? (i := 1397) (by decide +kernel)⟩
theorem lw_p57 : lw_okq (⟨"WhyRoomModel", "isEnd", "(I)Z"⟩, 40) := ⟨⟨by decide +kernel, by decide +kernel⟩, List.mem_of_getElem? (i := 1047) (by decide +kernel), List.mem_of_getElem? (i := 1400) (by decide +kernel), List.mem_of_getElem? (i := 1401) (by decide +kernel)⟩
theorem lw_p58 : lw_okq (⟨"WhyRoomModel", "canAnswer", "([IIII)Z"⟩, 40) := ⟨⟨by decide +kernel, by decide +kernel⟩, List.mem_of_getElem? (i := 1047) (by decide +kernel), List.mem_of_getElem? (i := 1408) (by decide +kernel), List.mem_of_getElem? (i := 1409) (by decide +kernel)⟩
theorem lw_p59 : lw_okq (⟨"WhyRoomModel", "mayAnswer", "([II)I"⟩, 40) := ⟨⟨by decide +kernel, by decide +kernel⟩, List.mem_of_getElem? (i := 1047) (by decide +kernel), List.mem_of_getElem? (i := 1412) (by decide +kernel), List.mem_of_getElem? (i := 1413) (by decide +kernel)⟩
theorem lw_p60 : lw_okq (⟨"WhyRoomModel", "mayAsk", "(I[II)I"⟩, 40) := ⟨⟨by decide +kernel, by decide +kernel⟩, List.mem_of_getElem? (i := 1047) (by decide +kernel), List.mem_of_getElem? (i := 1416) (by decide +kernel), List.mem_of_getElem? (i := 1417) (by decide +kernel)⟩
theorem lw_p61 : lw_okq (⟨"WhyRoomModel", "answerMany", "()I"⟩, 40) := ⟨⟨by decide +kernel, by decide +kernel⟩, List.mem_of_getElem? (i := 1047) (by decide +kernel), List.mem_of_getElem? (i := 1424) (by decide +kernel), List.mem_of_getElem? (i := 1425) (by decide +kernel)⟩
theorem lw_p62 : lw_okq (⟨"WhyRoomModel", "endOf", "([II)I"⟩, 40) := ⟨⟨by decide +kernel, by decide +kernel⟩, List.mem_of_getElem? (i := 1047) (by decide +kernel), List.mem_of_getElem? (i := 1440) (by decide +kernel), List.mem_of_getElem? (i := 1441) (by decide +kernel)⟩
theorem lw_p63 : lw_okq (⟨"WhyRoomModel", "layRow", "(I[II)V"⟩, 40) := ⟨⟨by decide +kernel, by decide +kernel⟩, List.mem_of_getElem? (i := 1047) (by decide +kernel), List.mem_of_getElem? (i := 1451) (by decide +kernel), List.mem_of_getElem? (i := 1452) (by decide +kernel)⟩
def lw_privs_4 : List (MethodName × Nat) := [(⟨"WhyRoomModel", "reasonTells", "(II)I"⟩, 40), (⟨"WhyRoomModel", "lossSet", "()I"⟩, 40), (⟨"WhyRoomModel", "isAtLoss", "(I)Z"⟩, 40), (⟨"WhyRoomModel", "usableFor", "(I)I"⟩, 40), (⟨"WhyRoomModel", "fallSet", "(I)I"⟩, 40), (⟨"WhyRoomModel", "standWithout", "(I)I"⟩, 40), (⟨"WhyRoomModel", "actSet", "()I"⟩, 40), (⟨"WhyRoomModel", "isAct", "(I)Z"⟩, 40), (⟨"WhyRoomModel", "isOver", "(I)Z"⟩, 40), (⟨"WhyRoomModel", "isEnd", "(I)Z"⟩, 40), (⟨"WhyRoomModel", "canAnswer", "([IIII)Z"⟩, 40), (⟨"WhyRoomModel", "mayAnswer", "([II)I"⟩, 40), (⟨"WhyRoomModel", "mayAsk", "(I[II)I"⟩, 40), (⟨"WhyRoomModel", "answerMany", "()I"⟩, 40), (⟨"WhyRoomModel", "endOf", "([II)I"⟩, 40), (⟨"WhyRoomModel", "layRow", "(I[II)V"⟩, 40)]
theorem lw_r4 : ∀ q ∈ lw_privs_4, lw_okq q := List.forall_mem_cons.mpr ⟨lw_p48, List.forall_mem_cons.mpr ⟨lw_p49, List.forall_mem_cons.mpr ⟨lw_p50, List.forall_mem_cons.mpr ⟨lw_p51, List.forall_mem_cons.mpr ⟨lw_p52, List.forall_mem_cons.mpr ⟨lw_p53, List.forall_mem_cons.mpr ⟨lw_p54, List.forall_mem_cons.mpr ⟨lw_p55, List.forall_mem_cons.mpr ⟨lw_p56, List.forall_mem_cons.mpr ⟨lw_p57, List.forall_mem_cons.mpr ⟨lw_p58, List.forall_mem_cons.mpr ⟨lw_p59, List.forall_mem_cons.mpr ⟨lw_p60, List.forall_mem_cons.mpr ⟨lw_p61, List.forall_mem_cons.mpr ⟨lw_p62, List.forall_mem_cons.mpr ⟨lw_p63, fun _ h => absurd h List.not_mem_nil⟩⟩⟩⟩⟩⟩⟩⟩⟩⟩⟩⟩⟩⟩⟩⟩
theorem lw_p64 : lw_okq (⟨"WhyRoomModel", "layFar", "()V"⟩, 40) := ⟨⟨by decide +kernel, by decide +kernel⟩, List.mem_of_getElem? (i := 1047) (by decide +kernel), List.mem_of_getElem? (i := 1471) (by decide +kernel), List.mem_of_getElem? (i := 1472) (by decide +kernel)⟩
theorem lw_p65 : lw_okq (⟨"WhyRoomModel", "takeThens", "()V"⟩, 40) := ⟨⟨by decide +kernel, by decide +kernel⟩, List.mem_of_getElem? (i := 1047) (by decide +kernel), List.mem_of_getElem? (i := 1475) (by decide +kernel), List.mem_of_getElem? (i := 1476) (by decide +kernel)⟩
theorem lw_p66 : lw_okq (⟨"WhyRoomModel", "greatestPart", "(I)I"⟩, 40) := ⟨⟨by decide +kernel, by decide +kernel⟩, List.mem_of_getElem? (i := 1047) (by decide +kernel), List.mem_of_getElem? (i := 1479) (by decide +kernel), List.mem_of_getElem? (i := 1480) (by decide +kernel)⟩
theorem lw_p67 : lw_okq (⟨"WhyRoomModel", "sumParts", "(I)I"⟩, 40) := ⟨⟨by decide +kernel, by decide +kernel⟩, List.mem_of_getElem? (i := 1047) (by decide +kernel), List.mem_of_getElem? (i := 1490) (by decide +kernel), List.mem_of_getElem? (i := 1491) (by decide +kernel)⟩
theorem lw_p68 : lw_okq (⟨"WhyRoomModel", "leastSure", "(I)I"⟩, 40) := ⟨⟨by decide +kernel, by decide +kernel⟩, List.mem_of_getElem? (i := 1047) (by decide +kernel), List.mem_of_getElem? (i := 1498) (by decide +kernel), List.mem_of_getElem? (i := 1499) (by decide +kernel)⟩
theorem lw_p69 : lw_okq (⟨"WhyRoomModel", "layLongest", "(II)V"⟩, 40) := ⟨⟨by decide +kernel, by decide +kernel⟩, List.mem_of_getElem? (i := 1047) (by decide +kernel), List.mem_of_getElem? (i := 1506) (by decide +kernel), List.mem_of_getElem? (i := 1507) (by decide +kernel)⟩
theorem lw_p70 : lw_okq (⟨"WhyRoomModel", "nextSet", "(I)I"⟩, 40) := ⟨⟨by decide +kernel, by decide +kernel⟩, List.mem_of_getElem? (i := 1047) (by decide +kernel), List.mem_of_getElem? (i := 1510) (by decide +kernel), List.mem_of_getElem? (i := 1511) (by decide +kernel)⟩
theorem lw_p71 : lw_okq (⟨"WhyRoomModel", "layLoss", "()V"⟩, 40) := ⟨⟨by decide +kernel, by decide +kernel⟩, List.mem_of_getElem? (i := 1047) (by decide +kernel), List.mem_of_getElem? (i := 1518) (by decide +kernel), List.mem_of_getElem? (i := 1519) (by decide +kernel)⟩
theorem lw_p72 : lw_okq (⟨"WhyRoomModel", "areAllLost", "(I)Z"⟩, 40) := ⟨⟨by decide +kernel, by decide +kernel⟩, List.mem_of_getElem? (i := 1047) (by decide +kernel), List.mem_of_getElem? (i := 1522) (by decide +kernel), List.mem_of_getElem? (i := 1523) (by decide +kernel)⟩
theorem lw_p73 : lw_okq (⟨"WhyRoomModel", "hasLost", "(I)Z"⟩, 40) := ⟨⟨by decide +kernel, by decide +kernel⟩, List.mem_of_getElem? (i := 1047) (by decide +kernel), List.mem_of_getElem? (i := 1526) (by decide +kernel), List.mem_of_getElem? (i := 1527) (by decide +kernel)⟩
theorem lw_p74 : lw_okq (⟨"WhyRoomModel", "comesTo", "(I)I"⟩, 40) := ⟨⟨by decide +kernel, by decide +kernel⟩, List.mem_of_getElem? (i := 1047) (by decide +kernel), List.mem_of_getElem? (i := 1546) (by decide +kernel), List.mem_of_getElem? (i := 1547) (by decide +kernel)⟩
theorem lw_p75 : lw_okq (⟨"WhyRoomModel", "isLean", "(II)Z"⟩, 40) := ⟨⟨by decide +kernel, by decide +kernel⟩, List.mem_of_getElem? (i := 1047) (by decide +kernel), List.mem_of_getElem? (i := 1566) (by decide +kernel), List.mem_of_getElem? (i := 1567) (by decide +kernel)⟩
theorem lw_p76 : lw_okq (⟨"WhyRoomModel", "needTold", "(I)I"⟩, 40) := ⟨⟨by decide +kernel, by decide +kernel⟩, List.mem_of_getElem? (i := 1047) (by decide +kernel), List.mem_of_getElem? (i := 1574) (by decide +kernel), List.mem_of_getElem? (i := 1575) (by decide +kernel)⟩
theorem lw_p77 : lw_okq (⟨"WhyRoomModel", "fitsFrom", "(III)I"⟩, 40) := ⟨⟨by decide +kernel, by decide +kernel⟩, List.mem_of_getElem? (i := 1047) (by decide +kernel), List.mem_of_getElem? (i := 1590) (by decide +kernel), List.mem_of_getElem? (i := 1591) (by decide +kernel)⟩
theorem lw_p78 : lw_okq (⟨"WhyRoomModel", "lossFrom", "(IIJ)J"⟩, 40) := ⟨⟨by decide +kernel, by decide +kernel⟩, List.mem_of_getElem? (i := 1047) (by decide +kernel), List.mem_of_getElem? (i := 1599) (by decide +kernel), List.mem_of_getElem? (i := 1600) (by decide +kernel)⟩
theorem lw_p79 : lw_okq (⟨"WhyRoomModel", "part", "(JJ)I"⟩, 40) := ⟨⟨by decide +kernel, by decide +kernel⟩, List.mem_of_getElem? (i := 1047) (by decide +kernel), List.mem_of_getElem? (i := 1603) (by decide +kernel), List.mem_of_getElem? (i := 1604) (by decide +kernel)⟩
def lw_privs_5 : List (MethodName × Nat) := [(⟨"WhyRoomModel", "layFar", "()V"⟩, 40), (⟨"WhyRoomModel", "takeThens", "()V"⟩, 40), (⟨"WhyRoomModel", "greatestPart", "(I)I"⟩, 40), (⟨"WhyRoomModel", "sumParts", "(I)I"⟩, 40), (⟨"WhyRoomModel", "leastSure", "(I)I"⟩, 40), (⟨"WhyRoomModel", "layLongest", "(II)V"⟩, 40), (⟨"WhyRoomModel", "nextSet", "(I)I"⟩, 40), (⟨"WhyRoomModel", "layLoss", "()V"⟩, 40), (⟨"WhyRoomModel", "areAllLost", "(I)Z"⟩, 40), (⟨"WhyRoomModel", "hasLost", "(I)Z"⟩, 40), (⟨"WhyRoomModel", "comesTo", "(I)I"⟩, 40), (⟨"WhyRoomModel", "isLean", "(II)Z"⟩, 40), (⟨"WhyRoomModel", "needTold", "(I)I"⟩, 40), (⟨"WhyRoomModel", "fitsFrom", "(III)I"⟩, 40), (⟨"WhyRoomModel", "lossFrom", "(IIJ)J"⟩, 40), (⟨"WhyRoomModel", "part", "(JJ)I"⟩, 40)]
theorem lw_r5 : ∀ q ∈ lw_privs_5, lw_okq q := List.forall_mem_cons.mpr ⟨lw_p64, List.forall_mem_cons.mpr ⟨lw_p65, List.forall_mem_cons.mpr ⟨lw_p66, List.forall_mem_cons.mpr ⟨lw_p67, List.forall_mem_cons.mpr ⟨lw_p68, List.forall_mem_cons.mpr ⟨lw_p69, List.forall_mem_cons.mpr ⟨lw_p70, List.forall_mem_cons.mpr ⟨lw_p71, List.forall_mem_cons.mpr ⟨lw_p72, List.forall_mem_cons.mpr ⟨lw_p73, List.forall_mem_cons.mpr ⟨lw_p74, List.forall_mem_cons.mpr ⟨lw_p75, List.forall_mem_cons.mpr ⟨lw_p76, List.forall_mem_cons.mpr ⟨lw_p77, List.forall_mem_cons.mpr ⟨lw_p78, List.forall_mem_cons.mpr ⟨lw_p79, fun _ h => absurd h List.not_mem_nil⟩⟩⟩⟩⟩⟩⟩⟩⟩⟩⟩⟩⟩⟩⟩⟩
theorem lw_p80 : lw_okq (⟨"WhyRoomModel", "counted", "(I)I"⟩, 40) := ⟨⟨by decide +kernel, by decide +kernel⟩, List.mem_of_getElem? (i := 1047) (by decide +kernel), List.mem_of_getElem? (i := 1622) (by decide +kernel), List.mem_of_getElem? (i := 1623) (by decide +kernel)⟩
theorem lw_p81 : lw_okq (⟨"WhyRoomModel", "mix", "(J)V"⟩, 40) := ⟨⟨by decide +kernel, by decide +kernel⟩, List.mem_of_getElem? (i := 1047) (by decide +kernel), List.mem_of_getElem? (i := 1631) (by decide +kernel), List.mem_of_getElem? (i := 1632) (by decide +kernel)⟩
theorem lw_p82 : lw_okq (⟨"WhyRoomModel", "mixRoom", "()V"⟩, 40) := ⟨⟨by decide +kernel, by decide +kernel⟩, List.mem_of_getElem? (i := 1047) (by decide +kernel), List.mem_of_getElem? (i := 1636) (by decide +kernel), List.mem_of_getElem? (i := 1637) (by decide +kernel)⟩
def lw_privs_6 : List (MethodName × Nat) := [(⟨"WhyRoomModel", "counted", "(I)I"⟩, 40), (⟨"WhyRoomModel", "mix", "(J)V"⟩, 40), (⟨"WhyRoomModel", "mixRoom", "()V"⟩, 40)]
theorem lw_r6 : ∀ q ∈ lw_privs_6, lw_okq q := List.forall_mem_cons.mpr ⟨lw_p80, List.forall_mem_cons.mpr ⟨lw_p81, List.forall_mem_cons.mpr ⟨lw_p82, fun _ h => absurd h List.not_mem_nil⟩⟩⟩
def lw_privs : List (MethodName × Nat) := lw_privs_1 ++ (lw_privs_2 ++ (lw_privs_3 ++ (lw_privs_4 ++ (lw_privs_5 ++ (lw_privs_6)))))
def lw_tbl : List Cond := k2_sels lw_privs ++ tables_1
theorem lw_privs_ok : ∀ q ∈ lw_privs, lw_okq q := by
  show ∀ q ∈ lw_privs_1 ++ (lw_privs_2 ++ (lw_privs_3 ++ (lw_privs_4 ++ (lw_privs_5 ++ (lw_privs_6))))), lw_okq q
  exact List.forall_mem_append.mpr ⟨lw_r1, List.forall_mem_append.mpr ⟨lw_r2, List.forall_mem_append.mpr ⟨lw_r3, List.forall_mem_append.mpr ⟨lw_r4, List.forall_mem_append.mpr ⟨lw_r5, lw_r6⟩⟩⟩⟩⟩

theorem am_mem {ws big : List Cond} (ps : List Nat) (h : ps.filterMap (fun i => big[i]?) = ws) : ∀ w ∈ ws, w ∈ big := by
  intro w hw
  rw [← h] at hw
  obtain ⟨i, -, hi⟩ := List.mem_filterMap.mp hw
  exact List.mem_of_getElem? hi
def RX0 : String := "WhyRoom$Ground"
def TX0 : u_T := fun k => match k with
  | 0 => ("WhyRoom$Ground", "plan", "LWhyRoom$Scheme;", true)
  | _ => ("WhyRoom$Ground", "now", "LWhyRoom$State;", true)
def tyX0 : Nat → FieldType := fun k => match k with
  | 0 => .object "WhyRoom$Scheme"
  | _ => .object "WhyRoom$State"
abbrev wsX00 : List Cond := u_ws RX0 TX0 2
theorem nmX0 : ∀ a, a < 2 → ∀ b, b < 2 → a ≠ b → (TX0 a).2.1 ≠ (TX0 b).2.1 := by decide +kernel
theorem tyX0_ok : ∀ k, k < 2 → parseFieldDescriptor (TX0 k).2.2.1 = some (tyX0 k) := by decide +kernel
def RX1 : String := "WhyRoom$Losses"
def TX1 : u_T := fun k => match k with
  | 0 => ("WhyRoom$Losses", "plan", "LWhyRoom$Scheme;", true)
  | 1 => ("WhyRoom$Losses", "ground", "LWhyRoom$Ground;", true)
  | _ => ("WhyRoom$Losses", "answers", "[I", true)
def tyX1 : Nat → FieldType := fun k => match k with
  | 0 => .object "WhyRoom$Scheme"
  | 1 => .object "WhyRoom$Ground"
  | _ => .array .int
abbrev wsX10 : List Cond := u_ws RX1 TX1 3
theorem nmX1 : ∀ a, a < 3 → ∀ b, b < 3 → a ≠ b → (TX1 a).2.1 ≠ (TX1 b).2.1 := by decide +kernel
theorem tyX1_ok : ∀ k, k < 3 → parseFieldDescriptor (TX1 k).2.2.1 = some (tyX1 k) := by decide +kernel
def RX2 : String := "WhyRoom$Lots"
def TX2 : u_T := fun k => match k with
  | 0 => ("WhyRoom$Lots", "plan", "LWhyRoom$Scheme;", true)
  | 1 => ("WhyRoom$Lots", "now", "LWhyRoom$State;", true)
  | 2 => ("WhyRoom$Lots", "ground", "LWhyRoom$Ground;", true)
  | 3 => ("WhyRoom$Lots", "share", "[J", true)
  | 4 => ("WhyRoom$Lots", "shareBefore", "[J", true)
  | _ => ("WhyRoom$Lots", "links", "[I", true)
def tyX2 : Nat → FieldType := fun k => match k with
  | 0 => .object "WhyRoom$Scheme"
  | 1 => .object "WhyRoom$State"
  | 2 => .object "WhyRoom$Ground"
  | 3 => .array .long
  | 4 => .array .long
  | _ => .array .int
abbrev wsX20 : List Cond := u_ws RX2 TX2 6
theorem nmX2 : ∀ a, a < 6 → ∀ b, b < 6 → a ≠ b → (TX2 a).2.1 ≠ (TX2 b).2.1 := by decide +kernel
theorem tyX2_ok : ∀ k, k < 6 → parseFieldDescriptor (TX2 k).2.2.1 = some (tyX2 k) := by decide +kernel
def RX3 : String := "WhyRoom$Needs"
def TX3 : u_T := fun k => match k with
  | 0 => ("WhyRoom$Needs", "plan", "LWhyRoom$Scheme;", true)
  | 1 => ("WhyRoom$Needs", "now", "LWhyRoom$State;", true)
  | 2 => ("WhyRoom$Needs", "ground", "LWhyRoom$Ground;", true)
  | _ => ("WhyRoom$Needs", "enough", "[I", true)
def tyX3 : Nat → FieldType := fun k => match k with
  | 0 => .object "WhyRoom$Scheme"
  | 1 => .object "WhyRoom$State"
  | 2 => .object "WhyRoom$Ground"
  | _ => .array .int
abbrev wsX30 : List Cond := u_ws RX3 TX3 4
theorem nmX3 : ∀ a, a < 4 → ∀ b, b < 4 → a ≠ b → (TX3 a).2.1 ≠ (TX3 b).2.1 := by decide +kernel
theorem tyX3_ok : ∀ k, k < 4 → parseFieldDescriptor (TX3 k).2.2.1 = some (tyX3 k) := by decide +kernel
def RX4 : String := "WhyRoom$Reader"
def TX4 : u_T := fun k => match k with
  | 0 => ("WhyRoom$Reader", "draft", "LWhyRoom$Scheme;", true)
  | _ => ("WhyRoom$Reader", "place", "I", false)
def tyX4 : Nat → FieldType := fun k => match k with
  | 0 => .object "WhyRoom$Scheme"
  | _ => .int
abbrev wsX40 : List Cond := u_ws RX4 TX4 2
theorem nmX4 : ∀ a, a < 2 → ∀ b, b < 2 → a ≠ b → (TX4 a).2.1 ≠ (TX4 b).2.1 := by decide +kernel
theorem tyX4_ok : ∀ k, k < 2 → parseFieldDescriptor (TX4 k).2.2.1 = some (tyX4 k) := by decide +kernel
def RX5 : String := "WhyRoom$Row"
def TX5 : u_T := fun k => match k with
  | 0 => ("WhyRoom$Row", "cells", "[I", true)
  | _ => ("WhyRoom$Row", "size", "I", false)
def tyX5 : Nat → FieldType := fun k => match k with
  | 0 => .array .int
  | _ => .int
abbrev wsX50 : List Cond := u_ws RX5 TX5 2
theorem nmX5 : ∀ a, a < 2 → ∀ b, b < 2 → a ≠ b → (TX5 a).2.1 ≠ (TX5 b).2.1 := by decide +kernel
theorem tyX5_ok : ∀ k, k < 2 → parseFieldDescriptor (TX5 k).2.2.1 = some (tyX5 k) := by decide +kernel
def RX6 : String := "WhyRoom$Scheme"
def TX6 : u_T := fun k => match k with
  | 0 => ("WhyRoom$Scheme", "kinds", "[I", true)
  | 1 => ("WhyRoom$Scheme", "kindBits", "[I", true)
  | 2 => ("WhyRoom$Scheme", "claimOf", "[I", true)
  | 3 => ("WhyRoom$Scheme", "parts", "[I", true)
  | 4 => ("WhyRoom$Scheme", "sureness", "[I", true)
  | 5 => ("WhyRoom$Scheme", "claims", "I", false)
  | _ => ("WhyRoom$Scheme", "reasons", "I", false)
def tyX6 : Nat → FieldType := fun k => match k with
  | 0 => .array .int
  | 1 => .array .int
  | 2 => .array .int
  | 3 => .array .int
  | 4 => .array .int
  | 5 => .int
  | _ => .int
abbrev wsX60 : List Cond := u_ws RX6 TX6 7
theorem nmX6 : ∀ a, a < 7 → ∀ b, b < 7 → a ≠ b → (TX6 a).2.1 ≠ (TX6 b).2.1 := by decide +kernel
theorem tyX6_ok : ∀ k, k < 7 → parseFieldDescriptor (TX6 k).2.2.1 = some (tyX6 k) := by decide +kernel
def RX7 : String := "WhyRoom$State"
def TX7 : u_T := fun k => match k with
  | 0 => ("WhyRoom$State", "sureness", "[I", true)
  | 1 => ("WhyRoom$State", "trail", "[I", true)
  | 2 => ("WhyRoom$State", "trailSize", "I", false)
  | 3 => ("WhyRoom$State", "away", "I", false)
  | 4 => ("WhyRoom$State", "known", "I", false)
  | 5 => ("WhyRoom$State", "law", "I", false)
  | _ => ("WhyRoom$State", "isKept", "Z", false)
def tyX7 : Nat → FieldType := fun k => match k with
  | 0 => .array .int
  | 1 => .array .int
  | 2 => .int
  | 3 => .int
  | 4 => .int
  | 5 => .int
  | _ => .boolean
abbrev wsX70 : List Cond := u_ws RX7 TX7 7
theorem nmX7 : ∀ a, a < 7 → ∀ b, b < 7 → a ≠ b → (TX7 a).2.1 ≠ (TX7 b).2.1 := by decide +kernel
theorem tyX7_ok : ∀ k, k < 7 → parseFieldDescriptor (TX7 k).2.2.1 = some (tyX7 k) := by decide +kernel
def RX8 : String := "WhyRoom$Tale"
def TX8 : u_T := fun k => match k with
  | 0 => ("WhyRoom$Tale", "plan", "LWhyRoom$Scheme;", true)
  | 1 => ("WhyRoom$Tale", "now", "LWhyRoom$State;", true)
  | 2 => ("WhyRoom$Tale", "ground", "LWhyRoom$Ground;", true)
  | 3 => ("WhyRoom$Tale", "wayOut", "I", false)
  | _ => ("WhyRoom$Tale", "firstLie", "I", false)
def tyX8 : Nat → FieldType := fun k => match k with
  | 0 => .object "WhyRoom$Scheme"
  | 1 => .object "WhyRoom$State"
  | 2 => .object "WhyRoom$Ground"
  | 3 => .int
  | _ => .int
abbrev wsX80 : List Cond := u_ws RX8 TX8 5
theorem nmX8 : ∀ a, a < 5 → ∀ b, b < 5 → a ≠ b → (TX8 a).2.1 ≠ (TX8 b).2.1 := by decide +kernel
theorem tyX8_ok : ∀ k, k < 5 → parseFieldDescriptor (TX8 k).2.2.1 = some (tyX8 k) := by decide +kernel
def RX9 : String := "WhyRoom$Text"
def TX9 : u_T := fun k => match k with
  | 0 => ("WhyRoom$Text", "signs", "[B", true)
  | _ => ("WhyRoom$Text", "size", "I", false)
def tyX9 : Nat → FieldType := fun k => match k with
  | 0 => .array .byte
  | _ => .int
abbrev wsX90 : List Cond := u_ws RX9 TX9 2
theorem nmX9 : ∀ a, a < 2 → ∀ b, b < 2 → a ≠ b → (TX9 a).2.1 ≠ (TX9 b).2.1 := by decide +kernel
theorem tyX9_ok : ∀ k, k < 2 → parseFieldDescriptor (TX9 k).2.2.1 = some (tyX9 k) := by decide +kernel
def RX10 : String := "WhyRoom$Ways"
def TX10 : u_T := fun k => match k with
  | 0 => ("WhyRoom$Ways", "longTrail", "[I", true)
  | 1 => ("WhyRoom$Ways", "plan", "LWhyRoom$Scheme;", true)
  | 2 => ("WhyRoom$Ways", "now", "LWhyRoom$State;", true)
  | 3 => ("WhyRoom$Ways", "ground", "LWhyRoom$Ground;", true)
  | 4 => ("WhyRoom$Ways", "cost", "[I", true)
  | 5 => ("WhyRoom$Ways", "next", "[I", true)
  | 6 => ("WhyRoom$Ways", "trail", "[I", true)
  | _ => ("WhyRoom$Ways", "longestYet", "I", false)
def tyX10 : Nat → FieldType := fun k => match k with
  | 0 => .array .int
  | 1 => .object "WhyRoom$Scheme"
  | 2 => .object "WhyRoom$State"
  | 3 => .object "WhyRoom$Ground"
  | 4 => .array .int
  | 5 => .array .int
  | 6 => .array .int
  | _ => .int
abbrev wsX100 : List Cond := u_ws RX10 TX10 8
theorem nmX10 : ∀ a, a < 8 → ∀ b, b < 8 → a ≠ b → (TX10 a).2.1 ≠ (TX10 b).2.1 := by decide +kernel
theorem tyX10_ok : ∀ k, k < 8 → parseFieldDescriptor (TX10 k).2.2.1 = some (tyX10 k) := by decide +kernel
def RX11 : String := "WhyRoom"
def TX11 : u_T := fun k => match k with
  | 0 => ("WhyRoom", "rows", "[LWhyRoom$Row;", true)
  | 1 => ("WhyRoom", "texts", "[LWhyRoom$Text;", true)
  | 2 => ("WhyRoom", "images", "[LWhyRoom$State;", true)
  | 3 => ("WhyRoom", "reader", "LWhyRoom$Reader;", true)
  | 4 => ("WhyRoom", "plan", "LWhyRoom$Scheme;", true)
  | 5 => ("WhyRoom", "now", "LWhyRoom$State;", true)
  | 6 => ("WhyRoom", "ground", "LWhyRoom$Ground;", true)
  | 7 => ("WhyRoom", "ways", "LWhyRoom$Ways;", true)
  | 8 => ("WhyRoom", "losses", "LWhyRoom$Losses;", true)
  | 9 => ("WhyRoom", "needs", "LWhyRoom$Needs;", true)
  | 10 => ("WhyRoom", "tale", "LWhyRoom$Tale;", true)
  | 11 => ("WhyRoom", "lots", "LWhyRoom$Lots;", true)
  | 12 => ("WhyRoom", "found", "[I", true)
  | 13 => ("WhyRoom", "latest", "I", false)
  | 14 => ("WhyRoom", "told", "I", false)
  | 15 => ("WhyRoom", "above", "J", false)
  | _ => ("WhyRoom", "below", "J", false)
def tyX11 : Nat → FieldType := fun k => match k with
  | 0 => .array (.object "WhyRoom$Row")
  | 1 => .array (.object "WhyRoom$Text")
  | 2 => .array (.object "WhyRoom$State")
  | 3 => .object "WhyRoom$Reader"
  | 4 => .object "WhyRoom$Scheme"
  | 5 => .object "WhyRoom$State"
  | 6 => .object "WhyRoom$Ground"
  | 7 => .object "WhyRoom$Ways"
  | 8 => .object "WhyRoom$Losses"
  | 9 => .object "WhyRoom$Needs"
  | 10 => .object "WhyRoom$Tale"
  | 11 => .object "WhyRoom$Lots"
  | 12 => .array .int
  | 13 => .int
  | 14 => .int
  | 15 => .long
  | _ => .long
abbrev wsX110 : List Cond := u_ws RX11 TX11 17
theorem nmX11 : ∀ a, a < 17 → ∀ b, b < 17 → a ≠ b → (TX11 a).2.1 ≠ (TX11 b).2.1 := by decide +kernel
theorem tyX11_ok : ∀ k, k < 17 → parseFieldDescriptor (TX11 k).2.2.1 = some (tyX11 k) := by decide +kernel
def RX12 : String := "WhyRoomModel"
def TX12 : u_T := fun k => match k with
  | 0 => ("WhyRoomModel", "latest", "I", false)
  | 1 => ("WhyRoomModel", "came", "[I", true)
  | 2 => ("WhyRoomModel", "asked", "I", false)
  | 3 => ("WhyRoomModel", "upper", "J", false)
  | 4 => ("WhyRoomModel", "lower", "J", false)
  | 5 => ("WhyRoomModel", "sizes", "[I", true)
  | 6 => ("WhyRoomModel", "rows", "[I", true)
  | 7 => ("WhyRoomModel", "copied", "[I", true)
  | 8 => ("WhyRoomModel", "textSizes", "[I", true)
  | 9 => ("WhyRoomModel", "bytes", "[B", true)
  | 10 => ("WhyRoomModel", "n", "I", false)
  | 11 => ("WhyRoomModel", "reasonMany", "I", false)
  | 12 => ("WhyRoomModel", "kinds", "[I", true)
  | 13 => ("WhyRoomModel", "claimOf", "[I", true)
  | 14 => ("WhyRoomModel", "partsOf", "[I", true)
  | 15 => ("WhyRoomModel", "sureOf", "[I", true)
  | 16 => ("WhyRoomModel", "awaySet", "I", false)
  | 17 => ("WhyRoomModel", "knownSet", "I", false)
  | 18 => ("WhyRoomModel", "lawOn", "I", false)
  | 19 => ("WhyRoomModel", "readAt", "I", false)
  | 20 => ("WhyRoomModel", "readNumber", "I", false)
  | 21 => ("WhyRoomModel", "readMany", "I", false)
  | 22 => ("WhyRoomModel", "readReasons", "I", false)
  | 23 => ("WhyRoomModel", "readKinds", "[I", true)
  | 24 => ("WhyRoomModel", "readClaims", "[I", true)
  | 25 => ("WhyRoomModel", "readParts", "[I", true)
  | 26 => ("WhyRoomModel", "readSures", "[I", true)
  | 27 => ("WhyRoomModel", "askedMany", "I", false)
  | 28 => ("WhyRoomModel", "askedOf", "[I", true)
  | 29 => ("WhyRoomModel", "isKept", "[Z", true)
  | 30 => ("WhyRoomModel", "keptMany", "[I", true)
  | 31 => ("WhyRoomModel", "keptAsked", "[I", true)
  | 32 => ("WhyRoomModel", "keptSets", "[I", true)
  | 33 => ("WhyRoomModel", "keptSures", "[I", true)
  | 34 => ("WhyRoomModel", "values", "[I", true)
  | 35 => ("WhyRoomModel", "thens", "[I", true)
  | 36 => ("WhyRoomModel", "tried", "[I", true)
  | 37 => ("WhyRoomModel", "bestTried", "[I", true)
  | 38 => ("WhyRoomModel", "bestMany", "I", false)
  | _ => ("WhyRoomModel", "hash", "J", false)
def tyX12 : Nat → FieldType := fun k => match k with
  | 0 => .int
  | 1 => .array .int
  | 2 => .int
  | 3 => .long
  | 4 => .long
  | 5 => .array .int
  | 6 => .array .int
  | 7 => .array .int
  | 8 => .array .int
  | 9 => .array .byte
  | 10 => .int
  | 11 => .int
  | 12 => .array .int
  | 13 => .array .int
  | 14 => .array .int
  | 15 => .array .int
  | 16 => .int
  | 17 => .int
  | 18 => .int
  | 19 => .int
  | 20 => .int
  | 21 => .int
  | 22 => .int
  | 23 => .array .int
  | 24 => .array .int
  | 25 => .array .int
  | 26 => .array .int
  | 27 => .int
  | 28 => .array .int
  | 29 => .array .boolean
  | 30 => .array .int
  | 31 => .array .int
  | 32 => .array .int
  | 33 => .array .int
  | 34 => .array .int
  | 35 => .array .int
  | 36 => .array .int
  | 37 => .array .int
  | 38 => .int
  | _ => .long
abbrev wsX120 : List Cond := u_ws RX12 TX12 40
theorem nmX12 : ∀ a, a < 40 → ∀ b, b < 40 → a ≠ b → (TX12 a).2.1 ≠ (TX12 b).2.1 := by decide +kernel
theorem tyX12_ok : ∀ k, k < 40 → parseFieldDescriptor (TX12 k).2.2.1 = some (tyX12 k) := by decide +kernel
abbrev vwCl : List vw_C := [(RX0, TX0, 2), (RX1, TX1, 3), (RX2, TX2, 6), (RX3, TX3, 4), (RX4, TX4, 2), (RX5, TX5, 2), (RX6, TX6, 7), (RX7, TX7, 7), (RX8, TX8, 5), (RX9, TX9, 2), (RX10, TX10, 8), (RX11, TX11, 17), (RX12, TX12, 40)]
theorem am_in0 : ∀ w ∈ u_ws RX0 TX0 2, w ∈ lw_tbl := am_mem [266, 268] (by decide +kernel)
theorem am_in1 : ∀ w ∈ u_ws RX1 TX1 3, w ∈ lw_tbl := am_mem [312, 314, 316] (by decide +kernel)
theorem am_in2 : ∀ w ∈ u_ws RX2 TX2 6, w ∈ lw_tbl := am_mem [374, 376, 378, 380, 382, 384] (by decide +kernel)
theorem am_in3 : ∀ w ∈ u_ws RX3 TX3 4, w ∈ lw_tbl := am_mem [329, 331, 333, 335] (by decide +kernel)
theorem am_in4 : ∀ w ∈ u_ws RX4 TX4 2, w ∈ lw_tbl := am_mem [251, 253] (by decide +kernel)
theorem am_in5 : ∀ w ∈ u_ws RX5 TX5 2, w ∈ lw_tbl := am_mem [122, 124] (by decide +kernel)
theorem am_in6 : ∀ w ∈ u_ws RX6 TX6 7, w ∈ lw_tbl := am_mem [233, 235, 237, 239, 241, 243, 245] (by decide +kernel)
theorem am_in7 : ∀ w ∈ u_ws RX7 TX7 7, w ∈ lw_tbl := am_mem [172, 174, 176, 178, 180, 182, 184] (by decide +kernel)
theorem am_in8 : ∀ w ∈ u_ws RX8 TX8 5, w ∈ lw_tbl := am_mem [351, 353, 355, 357, 359] (by decide +kernel)
theorem am_in9 : ∀ w ∈ u_ws RX9 TX9 2, w ∈ lw_tbl := am_mem [140, 142] (by decide +kernel)
theorem am_in10 : ∀ w ∈ u_ws RX10 TX10 8, w ∈ lw_tbl := am_mem [286, 288, 290, 292, 294, 296, 298, 300] (by decide +kernel)
theorem am_in11 : ∀ w ∈ u_ws RX11 TX11 17, w ∈ lw_tbl := am_mem [405, 407, 409, 411, 413, 415, 417, 419, 421, 423, 425, 427, 429, 431, 433, 435, 437] (by decide +kernel)
theorem am_in12 : ∀ w ∈ u_ws RX12 TX12 40, w ∈ lw_tbl := am_mem [1175, 1177, 1179, 1181, 1183, 1185, 1187, 1189, 1191, 1193, 1195, 1197, 1199, 1201, 1203, 1205, 1207, 1209, 1211, 1213, 1215, 1217, 1219, 1221, 1223, 1225, 1227, 1229, 1231, 1233, 1235, 1237, 1239, 1241, 1243, 1245, 1247, 1249, 1251, 1253] (by decide +kernel)
def lw_g : List Cond := lw_tbl.filter goodWord
theorem lw_gi {w : Cond} (h : w ∈ lw_tbl) (hg : goodWord w = true) : w ∈ lw_g := List.mem_filter.mpr ⟨h, hg⟩
/-- links to nest mates: they stay, but by a law of their own -/
def NW : List (String × Nat × MethodName × String) := [("WhyRoom", 15, ⟨"WhyRoom$Row", "<init>", "()V"⟩, "WhyRoom"), ("WhyRoom", 22, ⟨"WhyRoom$Text", "<init>", "()V"⟩, "WhyRoom"), ("WhyRoom", 29, ⟨"WhyRoom$State", "<init>", "()V"⟩, "WhyRoom"), ("WhyRoom", 32, ⟨"WhyRoom$Reader", "<init>", "()V"⟩, "WhyRoom"), ("WhyRoom$Reader", 11, ⟨"WhyRoom$Scheme", "<init>", "()V"⟩, "WhyRoom"), ("WhyRoom", 39, ⟨"WhyRoom$Scheme", "<init>", "()V"⟩, "WhyRoom"), ("WhyRoom$Scheme", 50, ⟨"WhyRoom", "has", "(II)Z"⟩, "WhyRoom"), ("WhyRoom$Reader", 72, ⟨"WhyRoom", "has", "(II)Z"⟩, "WhyRoom"), ("WhyRoom$Ground", 31, ⟨"WhyRoom", "has", "(II)Z"⟩, "WhyRoom"), ("WhyRoom$Ways", 52, ⟨"WhyRoom", "has", "(II)Z"⟩, "WhyRoom"), ("WhyRoom$Losses", 35, ⟨"WhyRoom", "has", "(II)Z"⟩, "WhyRoom"), ("WhyRoom$Needs", 60, ⟨"WhyRoom", "has", "(II)Z"⟩, "WhyRoom"), ("WhyRoom$Lots", 70, ⟨"WhyRoom", "has", "(II)Z"⟩, "WhyRoom"), ("WhyRoom$Lots", 81, ⟨"WhyRoom", "bit", "(II)I"⟩, "WhyRoom")]
theorem nw_in : ∀ t ∈ NW, Cond.methodLinkNest t.1 t.2.1 t.2.2.1 t.2.2.2 ∈ lw_tbl := by
  intro t ht
  exact am_mem (ws := NW.map (fun t => Cond.methodLinkNest t.1 t.2.1 t.2.2.1 t.2.2.2)) [112, 131, 149, 189, 195, 257, 561, 578, 630, 802, 866, 904, 1018, 1032] (by decide +kernel) _ (List.mem_map.mpr ⟨t, ht, rfl⟩)
