section
-- ===== PART A: goes FIRST, ahead of the names: the tables' words, and 'selects' of the private methods out of them =====
/-- a private method of a class that the tables say can be made, by its rows of tables_1 -/
def lw_okq (q : MethodName × Nat) : Prop := (q.1.cls ≠ "java/lang/invoke/MethodHandle" ∧ q.1.cls ≠ "java/lang/invoke/VarHandle") ∧ Cond.instantiable q.1.cls q.2 ∈ tables_1 ∧ Cond.privateMethod q.1 ∈ tables_1 ∧ Cond.instanceMethod q.1 ∈ tables_1
theorem lw_p0 : lw_okq (⟨"ColdShares", "noRow", "(I)Z"⟩, 12) := ⟨⟨by decide +kernel, by decide +kernel⟩, List.mem_of_getElem? (i := 14) (by decide +kernel), List.mem_of_getElem? (i := 224) (by decide +kernel), List.mem_of_getElem? (i := 225) (by decide +kernel)⟩
theorem lw_p1 : lw_okq (⟨"ColdShares", "answer", "(I)I"⟩, 12) := ⟨⟨by decide +kernel, by decide +kernel⟩, List.mem_of_getElem? (i := 14) (by decide +kernel), List.mem_of_getElem? (i := 228) (by decide +kernel), List.mem_of_getElem? (i := 229) (by decide +kernel)⟩
theorem lw_p2 : lw_okq (⟨"ColdShares", "noText", "(I)Z"⟩, 12) := ⟨⟨by decide +kernel, by decide +kernel⟩, List.mem_of_getElem? (i := 14) (by decide +kernel), List.mem_of_getElem? (i := 278) (by decide +kernel), List.mem_of_getElem? (i := 279) (by decide +kernel)⟩
theorem lw_p3 : lw_okq (⟨"ColdShares$Reader", "skipBlanks", "()V"⟩, 3) := ⟨⟨by decide +kernel, by decide +kernel⟩, List.mem_of_getElem? (i := 112) (by decide +kernel), List.mem_of_getElem? (i := 298) (by decide +kernel), List.mem_of_getElem? (i := 299) (by decide +kernel)⟩
theorem lw_p4 : lw_okq (⟨"ColdShares$Reader", "sign", "()I"⟩, 3) := ⟨⟨by decide +kernel, by decide +kernel⟩, List.mem_of_getElem? (i := 112) (by decide +kernel), List.mem_of_getElem? (i := 302) (by decide +kernel), List.mem_of_getElem? (i := 303) (by decide +kernel)⟩
theorem lw_p5 : lw_okq (⟨"ColdShares$Reader", "readNights", "()Z"⟩, 3) := ⟨⟨by decide +kernel, by decide +kernel⟩, List.mem_of_getElem? (i := 112) (by decide +kernel), List.mem_of_getElem? (i := 307) (by decide +kernel), List.mem_of_getElem? (i := 308) (by decide +kernel)⟩
theorem lw_p6 : lw_okq (⟨"ColdShares$Reader", "isFigure", "()Z"⟩, 3) := ⟨⟨by decide +kernel, by decide +kernel⟩, List.mem_of_getElem? (i := 112) (by decide +kernel), List.mem_of_getElem? (i := 311) (by decide +kernel), List.mem_of_getElem? (i := 312) (by decide +kernel)⟩
theorem lw_p7 : lw_okq (⟨"ColdShares$Reader", "takeFigure", "()I"⟩, 3) := ⟨⟨by decide +kernel, by decide +kernel⟩, List.mem_of_getElem? (i := 112) (by decide +kernel), List.mem_of_getElem? (i := 315) (by decide +kernel), List.mem_of_getElem? (i := 316) (by decide +kernel)⟩
theorem lw_p8 : lw_okq (⟨"ColdShares$Reader", "readHouse", "()Z"⟩, 3) := ⟨⟨by decide +kernel, by decide +kernel⟩, List.mem_of_getElem? (i := 112) (by decide +kernel), List.mem_of_getElem? (i := 319) (by decide +kernel), List.mem_of_getElem? (i := 320) (by decide +kernel)⟩
theorem lw_p9 : lw_okq (⟨"ColdShares$Reader", "kindOfSign", "()I"⟩, 3) := ⟨⟨by decide +kernel, by decide +kernel⟩, List.mem_of_getElem? (i := 112) (by decide +kernel), List.mem_of_getElem? (i := 323) (by decide +kernel), List.mem_of_getElem? (i := 324) (by decide +kernel)⟩
theorem lw_p10 : lw_okq (⟨"ColdShares$Street", "perform", "(I)V"⟩, 9) := ⟨⟨by decide +kernel, by decide +kernel⟩, List.mem_of_getElem? (i := 24) (by decide +kernel), List.mem_of_getElem? (i := 356) (by decide +kernel), List.mem_of_getElem? (i := 357) (by decide +kernel)⟩
theorem lw_p11 : lw_okq (⟨"ColdShares$Street", "passNight", "()V"⟩, 9) := ⟨⟨by decide +kernel, by decide +kernel⟩, List.mem_of_getElem? (i := 24) (by decide +kernel), List.mem_of_getElem? (i := 360) (by decide +kernel), List.mem_of_getElem? (i := 361) (by decide +kernel)⟩
theorem lw_p12 : lw_okq (⟨"ColdShares", "noHouse", "(I)Z"⟩, 12) := ⟨⟨by decide +kernel, by decide +kernel⟩, List.mem_of_getElem? (i := 14) (by decide +kernel), List.mem_of_getElem? (i := 385) (by decide +kernel), List.mem_of_getElem? (i := 386) (by decide +kernel)⟩
theorem lw_p13 : lw_okq (⟨"ColdShares", "sideOf", "(II)I"⟩, 12) := ⟨⟨by decide +kernel, by decide +kernel⟩, List.mem_of_getElem? (i := 14) (by decide +kernel), List.mem_of_getElem? (i := 389) (by decide +kernel), List.mem_of_getElem? (i := 390) (by decide +kernel)⟩
theorem lw_p14 : lw_okq (⟨"ColdShares", "noNight", "(I)Z"⟩, 12) := ⟨⟨by decide +kernel, by decide +kernel⟩, List.mem_of_getElem? (i := 14) (by decide +kernel), List.mem_of_getElem? (i := 423) (by decide +kernel), List.mem_of_getElem? (i := 424) (by decide +kernel)⟩
theorem lw_p15 : lw_okq (⟨"ColdShares$House", "mostWithoutPain", "()I"⟩, 6) := ⟨⟨by decide +kernel, by decide +kernel⟩, List.mem_of_getElem? (i := 31) (by decide +kernel), List.mem_of_getElem? (i := 436) (by decide +kernel), List.mem_of_getElem? (i := 437) (by decide +kernel)⟩
def lw_privs_1 : List (MethodName × Nat) := [(⟨"ColdShares", "noRow", "(I)Z"⟩, 12), (⟨"ColdShares", "answer", "(I)I"⟩, 12), (⟨"ColdShares", "noText", "(I)Z"⟩, 12), (⟨"ColdShares$Reader", "skipBlanks", "()V"⟩, 3), (⟨"ColdShares$Reader", "sign", "()I"⟩, 3), (⟨"ColdShares$Reader", "readNights", "()Z"⟩, 3), (⟨"ColdShares$Reader", "isFigure", "()Z"⟩, 3), (⟨"ColdShares$Reader", "takeFigure", "()I"⟩, 3), (⟨"ColdShares$Reader", "readHouse", "()Z"⟩, 3), (⟨"ColdShares$Reader", "kindOfSign", "()I"⟩, 3), (⟨"ColdShares$Street", "perform", "(I)V"⟩, 9), (⟨"ColdShares$Street", "passNight", "()V"⟩, 9), (⟨"ColdShares", "noHouse", "(I)Z"⟩, 12), (⟨"ColdShares", "sideOf", "(II)I"⟩, 12), (⟨"ColdShares", "noNight", "(I)Z"⟩, 12), (⟨"ColdShares$House", "mostWithoutPain", "()I"⟩, 6)]
theorem lw_r1 : ∀ q ∈ lw_privs_1, lw_okq q := List.forall_mem_cons.mpr ⟨lw_p0, List.forall_mem_cons.mpr ⟨lw_p1, List.forall_mem_cons.mpr ⟨lw_p2, List.forall_mem_cons.mpr ⟨lw_p3, List.forall_mem_cons.mpr ⟨lw_p4, List.forall_mem_cons.mpr ⟨lw_p5, List.forall_mem_cons.mpr ⟨lw_p6, List.forall_mem_cons.mpr ⟨lw_p7, List.forall_mem_cons.mpr ⟨lw_p8, List.forall_mem_cons.mpr ⟨lw_p9, List.forall_mem_cons.mpr ⟨lw_p10, List.forall_mem_cons.mpr ⟨lw_p11, List.forall_mem_cons.mpr ⟨lw_p12, List.forall_mem_cons.mpr ⟨lw_p13, List.forall_mem_cons.mpr ⟨lw_p14, List.forall_mem_cons.mpr ⟨lw_p15, fun _ h => absurd h List.not_mem_nil⟩⟩⟩⟩⟩⟩⟩⟩⟩⟩⟩⟩⟩⟩⟩⟩
theorem lw_p16 : lw_okq (⟨"ColdShares$House", "leastWithPain", "()I"⟩, 6) := ⟨⟨by decide +kernel, by decide +kernel⟩, List.mem_of_getElem? (i := 31) (by decide +kernel), List.mem_of_getElem? (i := 444) (by decide +kernel), List.mem_of_getElem? (i := 445) (by decide +kernel)⟩
theorem lw_p17 : lw_okq (⟨"ColdShares", "noKept", "(I)Z"⟩, 12) := ⟨⟨by decide +kernel, by decide +kernel⟩, List.mem_of_getElem? (i := 14) (by decide +kernel), List.mem_of_getElem? (i := 479) (by decide +kernel), List.mem_of_getElem? (i := 480) (by decide +kernel)⟩
theorem lw_p18 : lw_okq (⟨"ColdShares$Plans", "firstTonight", "(LColdShares$House;III)I"⟩, 3) := ⟨⟨by decide +kernel, by decide +kernel⟩, List.mem_of_getElem? (i := 131) (by decide +kernel), List.mem_of_getElem? (i := 528) (by decide +kernel), List.mem_of_getElem? (i := 529) (by decide +kernel)⟩
theorem lw_p19 : lw_okq (⟨"ColdShares", "gainOf", "(II)I"⟩, 12) := ⟨⟨by decide +kernel, by decide +kernel⟩, List.mem_of_getElem? (i := 14) (by decide +kernel), List.mem_of_getElem? (i := 549) (by decide +kernel), List.mem_of_getElem? (i := 550) (by decide +kernel)⟩
theorem lw_p20 : lw_okq (⟨"ColdShares$Plans", "join", "(II)V"⟩, 3) := ⟨⟨by decide +kernel, by decide +kernel⟩, List.mem_of_getElem? (i := 131) (by decide +kernel), List.mem_of_getElem? (i := 573) (by decide +kernel), List.mem_of_getElem? (i := 574) (by decide +kernel)⟩
theorem lw_p21 : lw_okq (⟨"ColdShares$Plans", "firstShare", "(III)I"⟩, 3) := ⟨⟨by decide +kernel, by decide +kernel⟩, List.mem_of_getElem? (i := 131) (by decide +kernel), List.mem_of_getElem? (i := 585) (by decide +kernel), List.mem_of_getElem? (i := 586) (by decide +kernel)⟩
theorem lw_p22 : lw_okq (⟨"ColdShares", "savedBy", "(I)I"⟩, 12) := ⟨⟨by decide +kernel, by decide +kernel⟩, List.mem_of_getElem? (i := 14) (by decide +kernel), List.mem_of_getElem? (i := 615) (by decide +kernel), List.mem_of_getElem? (i := 616) (by decide +kernel)⟩
theorem lw_p23 : lw_okq (⟨"ColdShares", "tell", "(JJ)I"⟩, 12) := ⟨⟨by decide +kernel, by decide +kernel⟩, List.mem_of_getElem? (i := 14) (by decide +kernel), List.mem_of_getElem? (i := 620) (by decide +kernel), List.mem_of_getElem? (i := 621) (by decide +kernel)⟩
theorem lw_p24 : lw_okq (⟨"ColdShares", "sureAt", "(III)I"⟩, 12) := ⟨⟨by decide +kernel, by decide +kernel⟩, List.mem_of_getElem? (i := 14) (by decide +kernel), List.mem_of_getElem? (i := 642) (by decide +kernel), List.mem_of_getElem? (i := 643) (by decide +kernel)⟩
theorem lw_p25 : lw_okq (⟨"ColdShares", "bearByLot", "(IJ)I"⟩, 12) := ⟨⟨by decide +kernel, by decide +kernel⟩, List.mem_of_getElem? (i := 14) (by decide +kernel), List.mem_of_getElem? (i := 667) (by decide +kernel), List.mem_of_getElem? (i := 668) (by decide +kernel)⟩
theorem lw_p26 : lw_okq (⟨"ColdShares", "thereOf", "([LColdShares$Row;I)I"⟩, 12) := ⟨⟨by decide +kernel, by decide +kernel⟩, List.mem_of_getElem? (i := 14) (by decide +kernel), List.mem_of_getElem? (i := 697) (by decide +kernel), List.mem_of_getElem? (i := 698) (by decide +kernel)⟩
theorem lw_p27 : lw_okq (⟨"ColdShares", "keptStreets", "()I"⟩, 12) := ⟨⟨by decide +kernel, by decide +kernel⟩, List.mem_of_getElem? (i := 14) (by decide +kernel), List.mem_of_getElem? (i := 701) (by decide +kernel), List.mem_of_getElem? (i := 702) (by decide +kernel)⟩
theorem lw_p28 : lw_okq (⟨"ColdSharesModel", "meets", "(I)I"⟩, 37) := ⟨⟨by decide +kernel, by decide +kernel⟩, List.mem_of_getElem? (i := 725) (by decide +kernel), List.mem_of_getElem? (i := 875) (by decide +kernel), List.mem_of_getElem? (i := 876) (by decide +kernel)⟩
theorem lw_p29 : lw_okq (⟨"ColdSharesModel", "rowAt", "(II)I"⟩, 37) := ⟨⟨by decide +kernel, by decide +kernel⟩, List.mem_of_getElem? (i := 725) (by decide +kernel), List.mem_of_getElem? (i := 883) (by decide +kernel), List.mem_of_getElem? (i := 884) (by decide +kernel)⟩
theorem lw_p30 : lw_okq (⟨"ColdSharesModel", "tells", "(II)I"⟩, 37) := ⟨⟨by decide +kernel, by decide +kernel⟩, List.mem_of_getElem? (i := 725) (by decide +kernel), List.mem_of_getElem? (i := 887) (by decide +kernel), List.mem_of_getElem? (i := 888) (by decide +kernel)⟩
theorem lw_p31 : lw_okq (⟨"ColdSharesModel", "faultOf", "(I)I"⟩, 37) := ⟨⟨by decide +kernel, by decide +kernel⟩, List.mem_of_getElem? (i := 725) (by decide +kernel), List.mem_of_getElem? (i := 922) (by decide +kernel), List.mem_of_getElem? (i := 923) (by decide +kernel)⟩
def lw_privs_2 : List (MethodName × Nat) := [(⟨"ColdShares$House", "leastWithPain", "()I"⟩, 6), (⟨"ColdShares", "noKept", "(I)Z"⟩, 12), (⟨"ColdShares$Plans", "firstTonight", "(LColdShares$House;III)I"⟩, 3), (⟨"ColdShares", "gainOf", "(II)I"⟩, 12), (⟨"ColdShares$Plans", "join", "(II)V"⟩, 3), (⟨"ColdShares$Plans", "firstShare", "(III)I"⟩, 3), (⟨"ColdShares", "savedBy", "(I)I"⟩, 12), (⟨"ColdShares", "tell", "(JJ)I"⟩, 12), (⟨"ColdShares", "sureAt", "(III)I"⟩, 12), (⟨"ColdShares", "bearByLot", "(IJ)I"⟩, 12), (⟨"ColdShares", "thereOf", "([LColdShares$Row;I)I"⟩, 12), (⟨"ColdShares", "keptStreets", "()I"⟩, 12), (⟨"ColdSharesModel", "meets", "(I)I"⟩, 37), (⟨"ColdSharesModel", "rowAt", "(II)I"⟩, 37), (⟨"ColdSharesModel", "tells", "(II)I"⟩, 37), (⟨"ColdSharesModel", "faultOf", "(I)I"⟩, 37)]
theorem lw_r2 : ∀ q ∈ lw_privs_2, lw_okq q := List.forall_mem_cons.mpr ⟨lw_p16, List.forall_mem_cons.mpr ⟨lw_p17, List.forall_mem_cons.mpr ⟨lw_p18, List.forall_mem_cons.mpr ⟨lw_p19, List.forall_mem_cons.mpr ⟨lw_p20, List.forall_mem_cons.mpr ⟨lw_p21, List.forall_mem_cons.mpr ⟨lw_p22, List.forall_mem_cons.mpr ⟨lw_p23, List.forall_mem_cons.mpr ⟨lw_p24, List.forall_mem_cons.mpr ⟨lw_p25, List.forall_mem_cons.mpr ⟨lw_p26, List.forall_mem_cons.mpr ⟨lw_p27, List.forall_mem_cons.mpr ⟨lw_p28, List.forall_mem_cons.mpr ⟨lw_p29, List.forall_mem_cons.mpr ⟨lw_p30, List.forall_mem_cons.mpr ⟨lw_p31, fun _ h => absurd h List.not_mem_nil⟩⟩⟩⟩⟩⟩⟩⟩⟩⟩⟩⟩⟩⟩⟩⟩
theorem lw_p32 : lw_okq (⟨"ColdSharesModel", "byteAt", "(II)I"⟩, 37) := ⟨⟨by decide +kernel, by decide +kernel⟩, List.mem_of_getElem? (i := 725) (by decide +kernel), List.mem_of_getElem? (i := 926) (by decide +kernel), List.mem_of_getElem? (i := 927) (by decide +kernel)⟩
theorem lw_p33 : lw_okq (⟨"ColdSharesModel", "readsNights", "(I)Z"⟩, 37) := ⟨⟨by decide +kernel, by decide +kernel⟩, List.mem_of_getElem? (i := 725) (by decide +kernel), List.mem_of_getElem? (i := 930) (by decide +kernel), List.mem_of_getElem? (i := 931) (by decide +kernel)⟩
theorem lw_p34 : lw_okq (⟨"ColdSharesModel", "isFigure", "(I)Z"⟩, 37) := ⟨⟨by decide +kernel, by decide +kernel⟩, List.mem_of_getElem? (i := 725) (by decide +kernel), List.mem_of_getElem? (i := 934) (by decide +kernel), List.mem_of_getElem? (i := 935) (by decide +kernel)⟩
theorem lw_p35 : lw_okq (⟨"ColdSharesModel", "readsHouse", "(I)Z"⟩, 37) := ⟨⟨by decide +kernel, by decide +kernel⟩, List.mem_of_getElem? (i := 725) (by decide +kernel), List.mem_of_getElem? (i := 938) (by decide +kernel), List.mem_of_getElem? (i := 939) (by decide +kernel)⟩
theorem lw_p36 : lw_okq (⟨"ColdSharesModel", "isHouse", "(I)Z"⟩, 37) := ⟨⟨by decide +kernel, by decide +kernel⟩, List.mem_of_getElem? (i := 725) (by decide +kernel), List.mem_of_getElem? (i := 953) (by decide +kernel), List.mem_of_getElem? (i := 954) (by decide +kernel)⟩
theorem lw_p37 : lw_okq (⟨"ColdSharesModel", "houseTells", "(II)I"⟩, 37) := ⟨⟨by decide +kernel, by decide +kernel⟩, List.mem_of_getElem? (i := 725) (by decide +kernel), List.mem_of_getElem? (i := 957) (by decide +kernel), List.mem_of_getElem? (i := 958) (by decide +kernel)⟩
theorem lw_p38 : lw_okq (⟨"ColdSharesModel", "canTonight", "(I)I"⟩, 37) := ⟨⟨by decide +kernel, by decide +kernel⟩, List.mem_of_getElem? (i := 725) (by decide +kernel), List.mem_of_getElem? (i := 961) (by decide +kernel), List.mem_of_getElem? (i := 962) (by decide +kernel)⟩
theorem lw_p39 : lw_okq (⟨"ColdSharesModel", "isCandlemas", "()Z"⟩, 37) := ⟨⟨by decide +kernel, by decide +kernel⟩, List.mem_of_getElem? (i := 725) (by decide +kernel), List.mem_of_getElem? (i := 965) (by decide +kernel), List.mem_of_getElem? (i := 966) (by decide +kernel)⟩
theorem lw_p40 : lw_okq (⟨"ColdSharesModel", "canOn", "(II)I"⟩, 37) := ⟨⟨by decide +kernel, by decide +kernel⟩, List.mem_of_getElem? (i := 725) (by decide +kernel), List.mem_of_getElem? (i := 969) (by decide +kernel), List.mem_of_getElem? (i := 970) (by decide +kernel)⟩
theorem lw_p41 : lw_okq (⟨"ColdSharesModel", "didBear", "(I)Z"⟩, 37) := ⟨⟨by decide +kernel, by decide +kernel⟩, List.mem_of_getElem? (i := 725) (by decide +kernel), List.mem_of_getElem? (i := 973) (by decide +kernel), List.mem_of_getElem? (i := 974) (by decide +kernel)⟩
theorem lw_p42 : lw_okq (⟨"ColdSharesModel", "canIn", "(II)I"⟩, 37) := ⟨⟨by decide +kernel, by decide +kernel⟩, List.mem_of_getElem? (i := 725) (by decide +kernel), List.mem_of_getElem? (i := 977) (by decide +kernel), List.mem_of_getElem? (i := 978) (by decide +kernel)⟩
theorem lw_p43 : lw_okq (⟨"ColdSharesModel", "isMiser", "(I)Z"⟩, 37) := ⟨⟨by decide +kernel, by decide +kernel⟩, List.mem_of_getElem? (i := 725) (by decide +kernel), List.mem_of_getElem? (i := 981) (by decide +kernel), List.mem_of_getElem? (i := 982) (by decide +kernel)⟩
theorem lw_p44 : lw_okq (⟨"ColdSharesModel", "isNight", "(I)Z"⟩, 37) := ⟨⟨by decide +kernel, by decide +kernel⟩, List.mem_of_getElem? (i := 725) (by decide +kernel), List.mem_of_getElem? (i := 992) (by decide +kernel), List.mem_of_getElem? (i := 993) (by decide +kernel)⟩
theorem lw_p45 : lw_okq (⟨"ColdSharesModel", "painless", "(I)I"⟩, 37) := ⟨⟨by decide +kernel, by decide +kernel⟩, List.mem_of_getElem? (i := 725) (by decide +kernel), List.mem_of_getElem? (i := 1000) (by decide +kernel), List.mem_of_getElem? (i := 1001) (by decide +kernel)⟩
theorem lw_p46 : lw_okq (⟨"ColdSharesModel", "hurtOf", "(II)I"⟩, 37) := ⟨⟨by decide +kernel, by decide +kernel⟩, List.mem_of_getElem? (i := 725) (by decide +kernel), List.mem_of_getElem? (i := 1004) (by decide +kernel), List.mem_of_getElem? (i := 1005) (by decide +kernel)⟩
theorem lw_p47 : lw_okq (⟨"ColdSharesModel", "firstHurt", "(I)I"⟩, 37) := ⟨⟨by decide +kernel, by decide +kernel⟩, List.mem_of_getElem? (i := 725) (by decide +kernel), List.mem_of_getElem? (i := 1011) (by decide +kernel), List.mem_of_getElem? (i := 1012) (by decide +kernel)⟩
def lw_privs_3 : List (MethodName × Nat) := [(⟨"ColdSharesModel", "byteAt", "(II)I"⟩, 37), (⟨"ColdSharesModel", "readsNights", "(I)Z"⟩, 37), (⟨"ColdSharesModel", "isFigure", "(I)Z"⟩, 37), (⟨"ColdSharesModel", "readsHouse", "(I)Z"⟩, 37), (⟨"ColdSharesModel", "isHouse", "(I)Z"⟩, 37), (⟨"ColdSharesModel", "houseTells", "(II)I"⟩, 37), (⟨"ColdSharesModel", "canTonight", "(I)I"⟩, 37), (⟨"ColdSharesModel", "isCandlemas", "()Z"⟩, 37), (⟨"ColdSharesModel", "canOn", "(II)I"⟩, 37), (⟨"ColdSharesModel", "didBear", "(I)Z"⟩, 37), (⟨"ColdSharesModel", "canIn", "(II)I"⟩, 37), (⟨"ColdSharesModel", "isMiser", "(I)Z"⟩, 37), (⟨"ColdSharesModel", "isNight", "(I)Z"⟩, 37), (⟨"ColdSharesModel", "painless", "(I)I"⟩, 37), (⟨"ColdSharesModel", "hurtOf", "(II)I"⟩, 37), (⟨"ColdSharesModel", "firstHurt", "(I)I"⟩, 37)]
theorem lw_r3 : ∀ q ∈ lw_privs_3, lw_okq q := List.forall_mem_cons.mpr ⟨lw_p32, List.forall_mem_cons.mpr ⟨lw_p33, List.forall_mem_cons.mpr ⟨lw_p34, List.forall_mem_cons.mpr ⟨lw_p35, List.forall_mem_cons.mpr ⟨lw_p36, List.forall_mem_cons.mpr ⟨lw_p37, List.forall_mem_cons.mpr ⟨lw_p38, List.forall_mem_cons.mpr ⟨lw_p39, List.forall_mem_cons.mpr ⟨lw_p40, List.forall_mem_cons.mpr ⟨lw_p41, List.forall_mem_cons.mpr ⟨lw_p42, List.forall_mem_cons.mpr ⟨lw_p43, List.forall_mem_cons.mpr ⟨lw_p44, List.forall_mem_cons.mpr ⟨lw_p45, List.forall_mem_cons.mpr ⟨lw_p46, List.forall_mem_cons.mpr ⟨lw_p47, fun _ h => absurd h List.not_mem_nil⟩⟩⟩⟩⟩⟩⟩⟩⟩⟩⟩⟩⟩⟩⟩⟩
theorem lw_p48 : lw_okq (⟨"ColdSharesModel", "bears", "(II)I"⟩, 37) := ⟨⟨by decide +kernel, by decide +kernel⟩, List.mem_of_getElem? (i := 725) (by decide +kernel), List.mem_of_getElem? (i := 1023) (by decide +kernel), List.mem_of_getElem? (i := 1024) (by decide +kernel)⟩
theorem lw_p49 : lw_okq (⟨"ColdSharesModel", "remember", "()V"⟩, 37) := ⟨⟨by decide +kernel, by decide +kernel⟩, List.mem_of_getElem? (i := 725) (by decide +kernel), List.mem_of_getElem? (i := 1027) (by decide +kernel), List.mem_of_getElem? (i := 1028) (by decide +kernel)⟩
theorem lw_p50 : lw_okq (⟨"ColdSharesModel", "passes", "()V"⟩, 37) := ⟨⟨by decide +kernel, by decide +kernel⟩, List.mem_of_getElem? (i := 725) (by decide +kernel), List.mem_of_getElem? (i := 1039) (by decide +kernel), List.mem_of_getElem? (i := 1040) (by decide +kernel)⟩
theorem lw_p51 : lw_okq (⟨"ColdSharesModel", "mostOf", "(I)I"⟩, 37) := ⟨⟨by decide +kernel, by decide +kernel⟩, List.mem_of_getElem? (i := 725) (by decide +kernel), List.mem_of_getElem? (i := 1063) (by decide +kernel), List.mem_of_getElem? (i := 1064) (by decide +kernel)⟩
theorem lw_p52 : lw_okq (⟨"ColdSharesModel", "layPlans", "(I)V"⟩, 37) := ⟨⟨by decide +kernel, by decide +kernel⟩, List.mem_of_getElem? (i := 725) (by decide +kernel), List.mem_of_getElem? (i := 1071) (by decide +kernel), List.mem_of_getElem? (i := 1072) (by decide +kernel)⟩
theorem lw_p53 : lw_okq (⟨"ColdSharesModel", "layRow", "(I[II)V"⟩, 37) := ⟨⟨by decide +kernel, by decide +kernel⟩, List.mem_of_getElem? (i := 725) (by decide +kernel), List.mem_of_getElem? (i := 1076) (by decide +kernel), List.mem_of_getElem? (i := 1077) (by decide +kernel)⟩
theorem lw_p54 : lw_okq (⟨"ColdSharesModel", "layLeasts", "()V"⟩, 37) := ⟨⟨by decide +kernel, by decide +kernel⟩, List.mem_of_getElem? (i := 725) (by decide +kernel), List.mem_of_getElem? (i := 1084) (by decide +kernel), List.mem_of_getElem? (i := 1085) (by decide +kernel)⟩
theorem lw_p55 : lw_okq (⟨"ColdSharesModel", "leastOf", "(II)I"⟩, 37) := ⟨⟨by decide +kernel, by decide +kernel⟩, List.mem_of_getElem? (i := 725) (by decide +kernel), List.mem_of_getElem? (i := 1088) (by decide +kernel), List.mem_of_getElem? (i := 1089) (by decide +kernel)⟩
theorem lw_p56 : lw_okq (⟨"ColdSharesModel", "gainOf", "(II)I"⟩, 37) := ⟨⟨by decide +kernel, by decide +kernel⟩, List.mem_of_getElem? (i := 725) (by decide +kernel), List.mem_of_getElem? (i := 1100) (by decide +kernel), List.mem_of_getElem? (i := 1101) (by decide +kernel)⟩
theorem lw_p57 : lw_okq (⟨"ColdSharesModel", "everybody", "()I"⟩, 37) := ⟨⟨by decide +kernel, by decide +kernel⟩, List.mem_of_getElem? (i := 725) (by decide +kernel), List.mem_of_getElem? (i := 1112) (by decide +kernel), List.mem_of_getElem? (i := 1113) (by decide +kernel)⟩
theorem lw_p58 : lw_okq (⟨"ColdSharesModel", "shareOf", "(I)I"⟩, 37) := ⟨⟨by decide +kernel, by decide +kernel⟩, List.mem_of_getElem? (i := 725) (by decide +kernel), List.mem_of_getElem? (i := 1116) (by decide +kernel), List.mem_of_getElem? (i := 1117) (by decide +kernel)⟩
theorem lw_p59 : lw_okq (⟨"ColdSharesModel", "owedBy", "(I)I"⟩, 37) := ⟨⟨by decide +kernel, by decide +kernel⟩, List.mem_of_getElem? (i := 725) (by decide +kernel), List.mem_of_getElem? (i := 1120) (by decide +kernel), List.mem_of_getElem? (i := 1121) (by decide +kernel)⟩
theorem lw_p60 : lw_okq (⟨"ColdSharesModel", "savesOf", "(I)I"⟩, 37) := ⟨⟨by decide +kernel, by decide +kernel⟩, List.mem_of_getElem? (i := 725) (by decide +kernel), List.mem_of_getElem? (i := 1134) (by decide +kernel), List.mem_of_getElem? (i := 1135) (by decide +kernel)⟩
theorem lw_p61 : lw_okq (⟨"ColdSharesModel", "byThemselves", "(I)I"⟩, 37) := ⟨⟨by decide +kernel, by decide +kernel⟩, List.mem_of_getElem? (i := 725) (by decide +kernel), List.mem_of_getElem? (i := 1138) (by decide +kernel), List.mem_of_getElem? (i := 1139) (by decide +kernel)⟩
theorem lw_p62 : lw_okq (⟨"ColdSharesModel", "fraction", "(JJ)I"⟩, 37) := ⟨⟨by decide +kernel, by decide +kernel⟩, List.mem_of_getElem? (i := 725) (by decide +kernel), List.mem_of_getElem? (i := 1152) (by decide +kernel), List.mem_of_getElem? (i := 1153) (by decide +kernel)⟩
theorem lw_p63 : lw_okq (⟨"ColdSharesModel", "waysOf", "(III)I"⟩, 37) := ⟨⟨by decide +kernel, by decide +kernel⟩, List.mem_of_getElem? (i := 725) (by decide +kernel), List.mem_of_getElem? (i := 1160) (by decide +kernel), List.mem_of_getElem? (i := 1161) (by decide +kernel)⟩
def lw_privs_4 : List (MethodName × Nat) := [(⟨"ColdSharesModel", "bears", "(II)I"⟩, 37), (⟨"ColdSharesModel", "remember", "()V"⟩, 37), (⟨"ColdSharesModel", "passes", "()V"⟩, 37), (⟨"ColdSharesModel", "mostOf", "(I)I"⟩, 37), (⟨"ColdSharesModel", "layPlans", "(I)V"⟩, 37), (⟨"ColdSharesModel", "layRow", "(I[II)V"⟩, 37), (⟨"ColdSharesModel", "layLeasts", "()V"⟩, 37), (⟨"ColdSharesModel", "leastOf", "(II)I"⟩, 37), (⟨"ColdSharesModel", "gainOf", "(II)I"⟩, 37), (⟨"ColdSharesModel", "everybody", "()I"⟩, 37), (⟨"ColdSharesModel", "shareOf", "(I)I"⟩, 37), (⟨"ColdSharesModel", "owedBy", "(I)I"⟩, 37), (⟨"ColdSharesModel", "savesOf", "(I)I"⟩, 37), (⟨"ColdSharesModel", "byThemselves", "(I)I"⟩, 37), (⟨"ColdSharesModel", "fraction", "(JJ)I"⟩, 37), (⟨"ColdSharesModel", "waysOf", "(III)I"⟩, 37)]
theorem lw_r4 : ∀ q ∈ lw_privs_4, lw_okq q := List.forall_mem_cons.mpr ⟨lw_p48, List.forall_mem_cons.mpr ⟨lw_p49, List.forall_mem_cons.mpr ⟨lw_p50, List.forall_mem_cons.mpr ⟨lw_p51, List.forall_mem_cons.mpr ⟨lw_p52, List.forall_mem_cons.mpr ⟨lw_p53, List.forall_mem_cons.mpr ⟨lw_p54, List.forall_mem_cons.mpr ⟨lw_p55, List.forall_mem_cons.mpr ⟨lw_p56, List.forall_mem_cons.mpr ⟨lw_p57, List.forall_mem_cons.mpr ⟨lw_p58, List.forall_mem_cons.mpr ⟨lw_p59, List.forall_mem_cons.mpr ⟨lw_p60, List.forall_mem_cons.mpr ⟨lw_p61, List.forall_mem_cons.mpr ⟨lw_p62, List.forall_mem_cons.mpr ⟨lw_p63, fun _ h => absurd h List.not_mem_nil⟩⟩⟩⟩⟩⟩⟩⟩⟩⟩⟩⟩⟩⟩⟩⟩
theorem lw_p64 : lw_okq (⟨"ColdSharesModel", "counted", "(I)I"⟩, 37) := ⟨⟨by decide +kernel, by decide +kernel⟩, List.mem_of_getElem? (i := 725) (by decide +kernel), List.mem_of_getElem? (i := 1188) (by decide +kernel), List.mem_of_getElem? (i := 1189) (by decide +kernel)⟩
theorem lw_p65 : lw_okq (⟨"ColdSharesModel", "mix", "(J)V"⟩, 37) := ⟨⟨by decide +kernel, by decide +kernel⟩, List.mem_of_getElem? (i := 725) (by decide +kernel), List.mem_of_getElem? (i := 1197) (by decide +kernel), List.mem_of_getElem? (i := 1198) (by decide +kernel)⟩
theorem lw_p66 : lw_okq (⟨"ColdSharesModel", "mixStreet", "()V"⟩, 37) := ⟨⟨by decide +kernel, by decide +kernel⟩, List.mem_of_getElem? (i := 725) (by decide +kernel), List.mem_of_getElem? (i := 1202) (by decide +kernel), List.mem_of_getElem? (i := 1203) (by decide +kernel)⟩
def lw_privs_5 : List (MethodName × Nat) := [(⟨"ColdSharesModel", "counted", "(I)I"⟩, 37), (⟨"ColdSharesModel", "mix", "(J)V"⟩, 37), (⟨"ColdSharesModel", "mixStreet", "()V"⟩, 37)]
theorem lw_r5 : ∀ q ∈ lw_privs_5, lw_okq q := List.forall_mem_cons.mpr ⟨lw_p64, List.forall_mem_cons.mpr ⟨lw_p65, List.forall_mem_cons.mpr ⟨lw_p66, fun _ h => absurd h List.not_mem_nil⟩⟩⟩
def lw_privs : List (MethodName × Nat) := lw_privs_1 ++ (lw_privs_2 ++ (lw_privs_3 ++ (lw_privs_4 ++ (lw_privs_5))))
def lw_tbl : List Cond := k2_sels lw_privs ++ tables_1
theorem lw_privs_ok : ∀ q ∈ lw_privs, lw_okq q := by
  show ∀ q ∈ lw_privs_1 ++ (lw_privs_2 ++ (lw_privs_3 ++ (lw_privs_4 ++ (lw_privs_5)))), lw_okq q
  exact List.forall_mem_append.mpr ⟨lw_r1, List.forall_mem_append.mpr ⟨lw_r2, List.forall_mem_append.mpr ⟨lw_r3, List.forall_mem_append.mpr ⟨lw_r4, lw_r5⟩⟩⟩⟩
end
section
def RX0 : String := "ColdShares$House"
def TX0 : u_T := fun k => match k with
  | 0 => ("ColdShares$House", "kind", "I", false)
  | 1 => ("ColdShares$House", "warm", "I", false)
  | 2 => ("ColdShares$House", "owed", "I", false)
  | 3 => ("ColdShares$House", "owes", "I", false)
  | 4 => ("ColdShares$House", "pain", "I", false)
  | _ => ("ColdShares$House", "bore", "I", false)
def tyX0 : Nat → FieldType := fun k => match k with
  | 0 => .int
  | 1 => .int
  | 2 => .int
  | 3 => .int
  | 4 => .int
  | _ => .int
theorem nmX0 : ∀ a, a < 6 → ∀ b, b < 6 → a ≠ b → (TX0 a).2.1 ≠ (TX0 b).2.1 := by decide +kernel
theorem tyX0_ok : ∀ k, k < 6 → parseFieldDescriptor (TX0 k).2.2.1 = some (tyX0 k) := by decide +kernel
def RX1 : String := "ColdShares$Plans"
def TX1 : u_T := fun k => match k with
  | 0 => ("ColdShares$Plans", "onward", "[[I", true)
  | 1 => ("ColdShares$Plans", "alone", "[[I", true)
  | _ => ("ColdShares$Plans", "pooled", "[[I", true)
def tyX1 : Nat → FieldType := fun k => match k with
  | 0 => .array (.array .int)
  | 1 => .array (.array .int)
  | _ => .array (.array .int)
theorem nmX1 : ∀ a, a < 3 → ∀ b, b < 3 → a ≠ b → (TX1 a).2.1 ≠ (TX1 b).2.1 := by decide +kernel
theorem tyX1_ok : ∀ k, k < 3 → parseFieldDescriptor (TX1 k).2.2.1 = some (tyX1 k) := by decide +kernel
def RX2 : String := "ColdShares$Reader"
def TX2 : u_T := fun k => match k with
  | 0 => ("ColdShares$Reader", "draft", "LColdShares$Street;", true)
  | 1 => ("ColdShares$Reader", "text", "LColdShares$Row;", false)
  | _ => ("ColdShares$Reader", "place", "I", false)
def tyX2 : Nat → FieldType := fun k => match k with
  | 0 => .object "ColdShares$Street"
  | 1 => .object "ColdShares$Row"
  | _ => .int
theorem nmX2 : ∀ a, a < 3 → ∀ b, b < 3 → a ≠ b → (TX2 a).2.1 ≠ (TX2 b).2.1 := by decide +kernel
theorem tyX2_ok : ∀ k, k < 3 → parseFieldDescriptor (TX2 k).2.2.1 = some (tyX2 k) := by decide +kernel
def RX3 : String := "ColdShares$Row"
def TX3 : u_T := fun k => match k with
  | 0 => ("ColdShares$Row", "places", "[I", true)
  | _ => ("ColdShares$Row", "size", "I", false)
def tyX3 : Nat → FieldType := fun k => match k with
  | 0 => .array .int
  | _ => .int
theorem nmX3 : ∀ a, a < 2 → ∀ b, b < 2 → a ≠ b → (TX3 a).2.1 ≠ (TX3 b).2.1 := by decide +kernel
theorem tyX3_ok : ∀ k, k < 2 → parseFieldDescriptor (TX3 k).2.2.1 = some (tyX3 k) := by decide +kernel
def RX4 : String := "ColdShares$Street"
def TX4 : u_T := fun k => match k with
  | 0 => ("ColdShares$Street", "cold", "[I", true)
  | 1 => ("ColdShares$Street", "houses", "[LColdShares$House;", true)
  | 2 => ("ColdShares$Street", "who", "[I", true)
  | 3 => ("ColdShares$Street", "whom", "[I", true)
  | 4 => ("ColdShares$Street", "degrees", "[I", true)
  | 5 => ("ColdShares$Street", "nights", "I", false)
  | 6 => ("ColdShares$Street", "size", "I", false)
  | 7 => ("ColdShares$Street", "night", "I", false)
  | _ => ("ColdShares$Street", "deeds", "I", false)
def tyX4 : Nat → FieldType := fun k => match k with
  | 0 => .array .int
  | 1 => .array (.object "ColdShares$House")
  | 2 => .array .int
  | 3 => .array .int
  | 4 => .array .int
  | 5 => .int
  | 6 => .int
  | 7 => .int
  | _ => .int
theorem nmX4 : ∀ a, a < 9 → ∀ b, b < 9 → a ≠ b → (TX4 a).2.1 ≠ (TX4 b).2.1 := by decide +kernel
theorem tyX4_ok : ∀ k, k < 9 → parseFieldDescriptor (TX4 k).2.2.1 = some (tyX4 k) := by decide +kernel
def RX5 : String := "ColdShares$Ways"
def TX5 : u_T := fun k => match k with
  | 0 => ("ColdShares$Ways", "number", "[J", true)
  | _ => ("ColdShares$Ways", "ahead", "[J", true)
def tyX5 : Nat → FieldType := fun k => match k with
  | 0 => .array .long
  | _ => .array .long
theorem nmX5 : ∀ a, a < 2 → ∀ b, b < 2 → a ≠ b → (TX5 a).2.1 ≠ (TX5 b).2.1 := by decide +kernel
theorem tyX5_ok : ∀ k, k < 2 → parseFieldDescriptor (TX5 k).2.2.1 = some (tyX5 k) := by decide +kernel
def RX6 : String := "ColdShares"
def TX6 : u_T := fun k => match k with
  | 0 => ("ColdShares", "rows", "[LColdShares$Row;", true)
  | 1 => ("ColdShares", "texts", "[LColdShares$Row;", true)
  | 2 => ("ColdShares", "now", "LColdShares$Street;", true)
  | 3 => ("ColdShares", "kept", "[LColdShares$Street;", true)
  | 4 => ("ColdShares", "reader", "LColdShares$Reader;", true)
  | 5 => ("ColdShares", "plans", "LColdShares$Plans;", true)
  | 6 => ("ColdShares", "ways", "LColdShares$Ways;", true)
  | 7 => ("ColdShares", "found", "[I", true)
  | 8 => ("ColdShares", "latestFinding", "I", false)
  | 9 => ("ColdShares", "told", "I", false)
  | 10 => ("ColdShares", "upperTold", "J", false)
  | _ => ("ColdShares", "lowerTold", "J", false)
def tyX6 : Nat → FieldType := fun k => match k with
  | 0 => .array (.object "ColdShares$Row")
  | 1 => .array (.object "ColdShares$Row")
  | 2 => .object "ColdShares$Street"
  | 3 => .array (.object "ColdShares$Street")
  | 4 => .object "ColdShares$Reader"
  | 5 => .object "ColdShares$Plans"
  | 6 => .object "ColdShares$Ways"
  | 7 => .array .int
  | 8 => .int
  | 9 => .int
  | 10 => .long
  | _ => .long
theorem nmX6 : ∀ a, a < 12 → ∀ b, b < 12 → a ≠ b → (TX6 a).2.1 ≠ (TX6 b).2.1 := by decide +kernel
theorem tyX6_ok : ∀ k, k < 12 → parseFieldDescriptor (TX6 k).2.2.1 = some (tyX6 k) := by decide +kernel
def RX7 : String := "ColdSharesModel"
def TX7 : u_T := fun k => match k with
  | 0 => ("ColdSharesModel", "latest", "I", false)
  | 1 => ("ColdSharesModel", "came", "[I", true)
  | 2 => ("ColdSharesModel", "asked", "I", false)
  | 3 => ("ColdSharesModel", "upper", "J", false)
  | 4 => ("ColdSharesModel", "lower", "J", false)
  | 5 => ("ColdSharesModel", "sizes", "[I", true)
  | 6 => ("ColdSharesModel", "rows", "[I", true)
  | 7 => ("ColdSharesModel", "copied", "[I", true)
  | 8 => ("ColdSharesModel", "textSizes", "[I", true)
  | 9 => ("ColdSharesModel", "bytes", "[B", true)
  | 10 => ("ColdSharesModel", "n", "I", false)
  | 11 => ("ColdSharesModel", "nights", "I", false)
  | 12 => ("ColdSharesModel", "kinds", "[I", true)
  | 13 => ("ColdSharesModel", "warm", "[I", true)
  | 14 => ("ColdSharesModel", "cold", "[I", true)
  | 15 => ("ColdSharesModel", "readAt", "I", false)
  | 16 => ("ColdSharesModel", "readMany", "I", false)
  | 17 => ("ColdSharesModel", "readNights", "I", false)
  | 18 => ("ColdSharesModel", "readHouse", "[I", true)
  | 19 => ("ColdSharesModel", "readCold", "[I", true)
  | 20 => ("ColdSharesModel", "now", "[I", true)
  | 21 => ("ColdSharesModel", "deedMany", "I", false)
  | 22 => ("ColdSharesModel", "log", "[I", true)
  | 23 => ("ColdSharesModel", "isKept", "[Z", true)
  | 24 => ("ColdSharesModel", "keptMany", "[I", true)
  | 25 => ("ColdSharesModel", "keptCold", "[I", true)
  | 26 => ("ColdSharesModel", "keptNow", "[I", true)
  | 27 => ("ColdSharesModel", "keptLog", "[I", true)
  | 28 => ("ColdSharesModel", "plans", "[I", true)
  | 29 => ("ColdSharesModel", "leasts", "[I", true)
  | 30 => ("ColdSharesModel", "plan", "[I", true)
  | 31 => ("ColdSharesModel", "shared", "[I", true)
  | 32 => ("ColdSharesModel", "parts", "[I", true)
  | 33 => ("ColdSharesModel", "ways", "[I", true)
  | 34 => ("ColdSharesModel", "chances", "[J", true)
  | 35 => ("ColdSharesModel", "then", "[J", true)
  | _ => ("ColdSharesModel", "hash", "J", false)
def tyX7 : Nat → FieldType := fun k => match k with
  | 0 => .int
  | 1 => .array .int
  | 2 => .int
  | 3 => .long
  | 4 => .long
  | 5 => .array .int
  | 6 => .array .int
  | 7 => .array .int
  | 8 => .array .int
  | 9 => .array .byte
  | 10 => .int
  | 11 => .int
  | 12 => .array .int
  | 13 => .array .int
  | 14 => .array .int
  | 15 => .int
  | 16 => .int
  | 17 => .int
  | 18 => .array .int
  | 19 => .array .int
  | 20 => .array .int
  | 21 => .int
  | 22 => .array .int
  | 23 => .array .boolean
  | 24 => .array .int
  | 25 => .array .int
  | 26 => .array .int
  | 27 => .array .int
  | 28 => .array .int
  | 29 => .array .int
  | 30 => .array .int
  | 31 => .array .int
  | 32 => .array .int
  | 33 => .array .int
  | 34 => .array .long
  | 35 => .array .long
  | _ => .long
theorem nmX7 : ∀ a, a < 37 → ∀ b, b < 37 → a ≠ b → (TX7 a).2.1 ≠ (TX7 b).2.1 := by decide +kernel
theorem tyX7_ok : ∀ k, k < 37 → parseFieldDescriptor (TX7 k).2.2.1 = some (tyX7 k) := by decide +kernel
abbrev vwCl : List vw_C := [(RX0, TX0, 6), (RX1, TX1, 3), (RX2, TX2, 3), (RX3, TX3, 2), (RX4, TX4, 9), (RX5, TX5, 2), (RX6, TX6, 12), (RX7, TX7, 37)]
end
section
/-! The abstract machine: a reference is (kind, number); memory is two tables (ints, longs) by kind, number, slot; the shape of the heap is fixed. -/
abbrev Vl : Type := Value × Nat
abbrev Mm : Type := (Nat → Nat → Nat → Int32) × (Nat → Nat → Nat → Int64)
abbrev vi (x : Int32) : Vl := (.int x, 0)
abbrev vl (x : Int64) : Vl := (.long x, 0)
abbrev vr (k i : Nat) : Vl := (.ref k, i)
abbrev vn : Vl := (.null, 0)
abbrev un : Vl := (.retAddr 0, 0)
/-- launch, number of each object's type, slot of each field, number of each array's type, addresses, first new address, the script's length, the script -/
abbrev Ge : Type := Launch × (Nat → ClassId) × (Nat → Nat → Nat) × (Nat → ClassId) × (Nat → Nat → Nat) × Nat × Nat × (Nat → Int32)
abbrev gl (G : Ge) : Launch := G.1
abbrev gC (G : Ge) : Nat → ClassId := G.2.1
abbrev gI (G : Ge) : Nat → Nat → Nat := G.2.2.1
abbrev gA (G : Ge) : Nat → ClassId := G.2.2.2.1
abbrev gad (G : Ge) : Nat → Nat → Nat := G.2.2.2.2.1
abbrev gb (G : Ge) : Nat := G.2.2.2.2.2.1
abbrev gL (G : Ge) : Nat := G.2.2.2.2.2.2.1
abbrev gxs (G : Ge) : Nat → Int32 := G.2.2.2.2.2.2.2
/-- by kind: what it is (0 an object, 1 ints, 2 longs, 3 bytes, 4 booleans, 5 references, 6 a table that nobody writes, 7 the script), number of its type, length, how many -/
def kTab : List (Nat × Nat × Nat × Nat) := [
  (0, 0, 6, 25), (0, 1, 3, 1), (0, 2, 3, 1), (0, 3, 2, 6), (0, 4, 9, 5), (0, 5, 2, 1), (0, 6, 12, 1), (0, 7, 37, 1), (0, 3, 2, 4),
  (5, 4, 6, 1), (5, 4, 4, 1), (5, 5, 3, 1), (5, 6, 5, 5), (5, 7, 9, 1), (5, 7, 5, 1), (5, 7, 32, 1),
  (1, 0, 47, 46), (1, 0, 6, 1), (1, 0, 40, 6), (1, 0, 60, 4), (1, 0, 8, 5), (1, 0, 60, 5), (1, 0, 60, 5), (1, 0, 60, 5),
  (2, 1, 73, 1), (2, 1, 73, 1),
  (1, 0, 6, 1), (1, 0, 6, 1), (1, 0, 240, 1), (1, 0, 40, 1), (1, 0, 4, 1), (3, 2, 240, 1), (1, 0, 5, 1), (1, 0, 5, 1), (1, 0, 8, 1), (1, 0, 15, 1), (1, 0, 8, 1), (1, 0, 16, 1), (1, 0, 960, 1),
  (4, 3, 3, 1), (1, 0, 3, 1), (1, 0, 24, 1), (1, 0, 48, 1), (1, 0, 2880, 1), (1, 0, 909, 1), (1, 0, 505, 1), (1, 0, 8, 1), (1, 0, 3006, 1), (1, 0, 5, 1), (1, 0, 276, 1),
  (2, 1, 101, 1), (2, 1, 101, 1),
  (6, 0, 6, 1), (6, 0, 6, 1), (6, 0, 6, 1), (6, 0, 6, 1), (6, 0, 6, 1), (7, 0, 0, 1)]
def kt (k : Nat) : Nat × Nat × Nat × Nat := kTab.getD k (9, 0, 0, 0)
abbrev ktag (k : Nat) : Nat := (kt k).1
abbrev kcl (k : Nat) : Nat := (kt k).2.1
abbrev klen (k : Nat) : Nat := (kt k).2.2.1
abbrev knum (k : Nat) : Nat := (kt k).2.2.2
/-- by type and field: 0 an int, 1 a long, 2 a reference that stays, 3 the reader's text -/
def fcT : List (List Nat) := [[0, 0, 0, 0, 0, 0], [2, 2, 2], [2, 3, 0], [2, 0], [2, 2, 2, 2, 2, 0, 0, 0, 0], [2, 2], [2, 2, 2, 2, 2, 2, 2, 2, 0, 0, 1, 1],
  [0, 2, 0, 1, 1, 2, 2, 2, 2, 2, 0, 0, 2, 2, 2, 0, 0, 0, 2, 2, 2, 0, 2, 2, 2, 2, 2, 2, 2, 2, 2, 2, 2, 2, 2, 2, 1]]
def fc (c f : Nat) : Nat := (fcT.getD c []).getD f 9
/-- which kind a field of the reference's object holds -/
def mkT : List Nat := [0, 26, 0, 0, 0, 27, 28, 29, 30, 31, 0, 0, 32, 33, 34, 0, 0, 0, 35, 36, 37, 0, 38, 39, 40, 41, 42, 43, 44, 45, 46, 47, 48, 49, 50, 51, 0]
/-- where a reference that stays leads -/
def rf (k i s : Nat) : Vl := match k with
  | 1 => match s with
    | 0 => (.ref 13, 0)
    | 1 => (.ref 14, 0)
    | _ => (.ref 15, 0)
  | 2 => (.ref 4, 4)
  | 3 => (.ref 18, i)
  | 4 => match s with
    | 0 => (.ref 20, i)
    | 1 => (.ref 12, i)
    | 2 => (.ref 21, i)
    | 3 => (.ref 22, i)
    | _ => (.ref 23, i)
  | 5 => match s with
    | 0 => (.ref 24, 0)
    | _ => (.ref 25, 0)
  | 6 => match s with
    | 0 => (.ref 9, 0)
    | 1 => (.ref 10, 0)
    | 2 => (.ref 4, 0)
    | 3 => (.ref 11, 0)
    | 4 => (.ref 2, 0)
    | 5 => (.ref 1, 0)
    | 6 => (.ref 5, 0)
    | _ => (.ref 17, 0)
  | 7 => (.ref (mkT.getD s 0), 0)
  | 8 => (.ref 19, i)
  | 9 => (.ref 3, s)
  | 10 => (.ref 8, s)
  | 11 => (.ref 4, 1 + s)
  | 12 => (.ref 0, 5 * i + s)
  | 13 => (.ref 16, s)
  | 14 => (.ref 16, 9 + s)
  | 15 => (.ref 16, 14 + s)
  | _ => (.null, 0)
def romT : List (List Int32) := [[104, 115, 112, 109, 121, 99], [0, 0, 0, 0, 3, 2], [0, 2, 0, 0, 0, -1], [1, 1, 2, 1, 0, 2], [1, 1, 2, 6, 24, 120]]
def rom (k j : Nat) : Int32 := (romT.getD (k - 52) []).getD j 0
def romN : List String := ["LETTER", "ALSO", "WARMER", "TIMES", "FACTORIAL"]
def mv (G : Ge) (v : Vl) : Value := match v.1 with
  | .ref k => .ref (gad G k v.2)
  | w => w
def vokB (v : Vl) : Bool := match v.1 with
  | .ref k => Nat.blt v.2 (knum k)
  | _ => true
def vok (v : Vl) : Prop := vokB v = true
def vld (vs : List Vl) : Prop := ∀ v ∈ vs, vok v
/-- what a slot holds -/
def sv (G : Ge) (μ : Mm) (k i s : Nat) : Value := match ktag k with
  | 0 => match fc (kcl k) s with
    | 0 => .int (μ.1 k i s)
    | 1 => .long (μ.2 k i s)
    | 2 => mv G (rf k i s)
    | _ => if μ.1 k i s = 0 then .null else .ref (gad G 8 ((μ.1 k i s).toNatClampNeg - 1))
  | 2 => .long (μ.2 k i s)
  | 5 => mv G (rf k i s)
  | _ => .int (μ.1 k i s)
def cellAt (G : Ge) (μ : Mm) (k i : Nat) (H : Heap) : Prop := match ktag k with
  | 0 => t_OB (gad G k i) (gC G (kcl k)) (klen k) (gI G (kcl k)) H (fun f => sv G μ k i f)
  | _ => H[gad G k i]? = some (arrV (gA G (kcl k)) (klen k) (fun j => sv G μ k i j))
def Hd (G : Ge) (μ : Mm) (H : Heap) : Prop := (∀ k i, k < 52 → i < knum k → cellAt G μ k i H) ∧ (μ.1 2 0 1).toInt ≤ 4
def Aw (G : Ge) : Nat → Prop := fun q => gb G ≤ q
def aty : Nat → FieldType := fun t => match t with
  | 0 => .int
  | 1 => .long
  | 2 => .byte
  | 3 => .boolean
  | 4 => .object "ColdShares$Row"
  | 5 => .object "ColdShares$Street"
  | 6 => .object "ColdShares$House"
  | _ => .array .int
/-- the words that pass over to a callee by themselves, and those across a nest -/
def lw_g : List Cond := lw_tbl.filter goodWord
theorem lw_gm {w : Cond} (h : w ∈ lw_g) : w ∈ lw_tbl := (List.mem_filter.mp h).1
def isNest : Cond → Bool
  | .methodLinkNest .. => true
  | .fieldLinkNest .. => true
  | _ => false
theorem nest_warm {s U : State} (hW : s.WarmedH U.vm) : ∀ w : Cond, isNest w = true → va_Nw w s → va_Nw w U := by
  intro w h hz
  cases w <;> first | exact va_Nw.warmM hW hz | exact va_Nw.warmF hW hz | cases h
theorem nest_same {s U : State} (hv : s.vm = U.vm) : ∀ w : Cond, isNest w = true → va_Nw w s → va_Nw w U := by
  intro w h hz
  cases w <;> first | exact va_Nw.same rfl hv hz | cases h
/-- what the tables and the old cells say, at a state -/
def Kn (G : Ge) (U : State) : Prop := va_K (gC G, gI G) vwCl [] U ∧ (∀ t, t < 8 → ArrOfT U (gA G t) (aty t)) ∧
  (∀ k i k' i', k < 52 → i < knum k → k' < 52 → i' < knum k' → gad G k i = gad G k' i' → k = k' ∧ i = i') ∧ (∀ k i, k < 52 → i < knum k → Aw G (gad G k i)) ∧
  (∀ r, r < 5 → va_Z "ColdShares" (romN.getD r "") "[I" (.ref (gad G (52 + r) 0)) (Aw G) U U.heap ∧ va_T .int (gad G (52 + r) 0) 6 (fun j => .int (rom (52 + r) j)) (Aw G) U U.heap) ∧
  va_T .int (gad G 57 0) (gL G) (fun j => .int (gxs G j)) (Aw G) U U.heap ∧ gL G ≤ 3072 ∧ ∀ w ∈ lw_tbl, isNest w = true → va_Nw w U
theorem Kn_moved {G : Ge} {u U : State} (hvm : u.vm.Alike U.vm) (hnest : ∀ w : Cond, isNest w = true → va_Nw w u → va_Nw w U) (hq : ∀ a : Nat, a < u.heap.size → ¬ Aw G a → U.heap[a]? = u.heap[a]?) (h : Kn G u) : Kn G U := by
  obtain ⟨h1, h2, h3, h4, h5, h6, h7, h8⟩ := h
  exact ⟨h1.moved hvm, fun t ht => arrOfT_moved hvm (h2 t ht), h3, h4, fun r hr => ⟨((h5 r hr).1.moved hvm).kept hq, ((h5 r hr).2.moved hvm).kept hq⟩, (h6.moved hvm).kept hq, h7, fun w hw hn => hnest w hn (h8 w hw hn)⟩
/-- a method: its name, code, locals, answer, room, parameters, number of its type -/
abbrev MS : Type := MethodName × ByteArray × Nat × Option FieldType × Room × Nat × Nat
abbrev my (M : MS) : MethodName := M.1
abbrev mc (M : MS) : ByteArray := M.2.1
abbrev mL (M : MS) : Nat := M.2.2.1
abbrev mr (M : MS) : Option FieldType := M.2.2.2.1
abbrev mR (M : MS) : Room := M.2.2.2.2.1
abbrev mN (M : MS) : Nat := M.2.2.2.2.2.1
abbrev mK (M : MS) : Nat := M.2.2.2.2.2.2
def mws (M : MS) : List Cond := Cond.code (my M) (mc M) (mL M) (mr M) :: lw_g
abbrev Ph : Type := Option Value → Mm → Prop
def RI (K : Int32 → Mm → Prop) : Ph := fun r μ => match r with
  | some (.int v) => K v μ
  | _ => False
def RL (K : Int64 → Mm → Prop) : Ph := fun r μ => match r with
  | some (.long v) => K v μ
  | _ => False
def RV (K : Mm → Prop) : Ph := fun r μ => match r with
  | none => K μ
  | _ => False
def Pq (G : Ge) (as : List Vl) (μ : Mm) : Array Value → State → Prop := fun a U => a = (as.map (mv G)).toArray ∧ vld as ∧ Kn G U ∧ Hd G μ U.heap
def Qq (G : Ge) (Φ : Ph) : Array Value → State → Outcome → State → Prop := fun _ st oc t => (∃ (r : Option Value) (μ : Mm), oc = .returned r ∧ Φ r μ ∧ Hd G μ t.heap) ∧ va_F (Aw G) st t
/-- a method, called with as over μ, comes back with Φ -/
def CS (G : Ge) (M : MS) (as : List Vl) (μ : Mm) (Φ : Ph) : Prop := Met (gl G) (my M) (mws M) (mR M) (Pq G as μ) (Qq G Φ) 0 0 (Aw G)
theorem Pq_blind (G : Ge) (as : List Vl) (μ : Mm) : FrameBlind (Pq G as μ) := by
  intro a U g mk h
  obtain ⟨h1, h2, h3, h4⟩ := h
  exact ⟨h1, h2, Kn_moved (u := U) (U := U.calling g mk a) (Vm.Alike.refl U.vm) (nest_same rfl) (fun _ _ _ => rfl) h3, h4⟩
/-- locals by places -/
def lp (G : Ge) : Nat → List Vl → List (Nat × Value)
  | _, [] => []
  | j, v :: vs => match v.1 with
    | .retAddr _ => lp G (j + 1) vs
    | _ => (j, mv G v) :: lp G (j + 1) vs
def lR (G : Ge) (L : Array Slot) (n : Nat) (ls : List Vl) : Prop := lv_has L n (lp G 0 ls)
def lget : List Vl → Nat → Vl
  | [], _ => un
  | a :: _, 0 => a
  | _ :: l, n + 1 => lget l n
def st1 : List Vl → Nat → Vl → List Vl
  | [], _, _ => []
  | _ :: l, 0, v => v :: l
  | a :: l, n + 1, v => (match n with
    | 0 => match a.1 with
      | .long _ => un
      | .double _ => un
      | _ => a
    | _ => a) :: st1 l n v
def st2 : List Vl → Nat → Vl → List Vl
  | [], _, _ => []
  | [_], _, _ => []
  | _ :: _ :: l, 0, v => v :: un :: l
  | a :: b :: l, n + 1, v => (match n with
    | 0 => match a.1 with
      | .long _ => un
      | .double _ => un
      | _ => a
    | _ => a) :: st2 (b :: l) n v
/-- what holds of the machine while a method runs -/
def Ev (G : Ge) (M : MS) (p : Program) (s : State) (m : MethodId) (args : Array Value) (meth : Method) (c : Code) (cells slots : Nat) : Prop :=
  p.tables.exec = Jvm.exec ∧ c.code = mc M ∧ meth.sig.returnType = mr M ∧ meth.locks = false ∧ c.maxLocals = mL M ∧ s.vm.findClass (my M).cls = some m.cls ∧ (∀ w ∈ lw_g, w.before args s = true) ∧ Kn G s ∧ cells ≤ (mR M).cells ∧ slots ≤ (mR M).slots
/-- how it may end -/
def Rt (G : Ge) (M : MS) (p : Program) (e : Env) (s : State) (m : MethodId) (args : Array Value) (below : List Frame) (meth : Method) (c : Code) (cells slots : Nat) (Q : State → Prop) (Φ : Ph) : Prop :=
  ∀ (r : Option Value) (μ : Mm) (H : Heap) (locs : List Loc) (L : Array Slot) (pc : Nat), Φ r μ → Hd G μ H → va_S (Aw G) s.heap H locs →
    (match r with
      | some (.int v) => decode (mc M) pc = .ok (.ireturn, 1) ∧ (mr M = some .int ∨ (mr M = some .boolean ∧ (v = 0 ∨ v = 1)))
      | some (.long _) => decode (mc M) pc = .ok (.lreturn, 1) ∧ mr M = some .long
      | none => decode (mc M) pc = .ok (.return_, 1) ∧ mr M = none
      | _ => False) → W p (gl G) e (mR M) s m args below meth c H locs cells slots Q (F0 m pc L r.toList)
/-- from here the method comes to its end with Φ -/
def SS (G : Ge) (M : MS) (pc : Nat) (ls st : List Vl) (μ : Mm) (Φ : Ph) : Prop :=
  ∀ (p : Program) (e : Env) (s : State) (m : MethodId) (args : Array Value) (below : List Frame) (meth : Method) (c : Code) (cells slots : Nat) (Q : State → Prop), Ev G M p s m args meth c cells slots → Rt G M p e s m args below meth c cells slots Q Φ →
    ∀ (H : Heap) (locs : List Loc) (L : Array Slot), Hd G μ H → va_S (Aw G) s.heap H locs → lR G L (mL M) ls → vld ls → vld st → W p (gl G) e (mR M) s m args below meth c H locs cells slots Q (F0 m pc L (st.map (mv G)))
/-! stores -/
def wI (μ : Mm) (k i s : Nat) (v : Int32) : Mm := (fun k' i' s' => if k' = k ∧ i' = i ∧ s' = s then v else μ.1 k' i' s', μ.2)
def wL (μ : Mm) (k i s : Nat) (v : Int64) : Mm := (μ.1, fun k' i' s' => if k' = k ∧ i' = i ∧ s' = s then v else μ.2 k' i' s')
def cI (μ : Mm) (k0 i0 s0 k i s n : Nat) : Mm := (fun k' i' s' => if k' = k ∧ i' = i ∧ s ≤ s' ∧ s' < s + n then μ.1 k0 i0 (s0 + (s' - s)) else μ.1 k' i' s', μ.2)
def cL (μ : Mm) (k0 i0 s0 k i s n : Nat) : Mm := (μ.1, fun k' i' s' => if k' = k ∧ i' = i ∧ s ≤ s' ∧ s' < s + n then μ.2 k0 i0 (s0 + (s' - s)) else μ.2 k' i' s')
/-! one instruction: place, instruction, length, two numbers, an int, a long, a switch's rows -/
abbrev En : Type := Nat × Instr × Nat × Nat × Nat × Int32 × Int64 × List (Int32 × Nat)
abbrev e0 (pc : Nat) (i : Instr) (len : Nat) : En := (pc, i, len, 0, 0, 0, 0, [])
abbrev eT (pc : Nat) (i : Instr) (len tgt : Nat) : En := (pc, i, len, tgt, 0, 0, 0, [])
abbrev eC (pc : Nat) (i : Instr) (len : Nat) (c : Int32) : En := (pc, i, len, 0, 0, c, 0, [])
abbrev eD (pc : Nat) (i : Instr) (len : Nat) (d : Int64) : En := (pc, i, len, 0, 0, 0, d, [])
abbrev eF (pc : Nat) (i : Instr) (len a b : Nat) : En := (pc, i, len, a, b, 0, 0, [])
abbrev eS (pc : Nat) (i : Instr) (len dflt : Nat) (cs : List (Int32 × Nat)) : En := (pc, i, len, dflt, 0, 0, 0, cs)
/-- links of a type: fields (entry, type, field), calls (entry, how, method), ints, longs, tables -/
abbrev Lk : Type := List (Nat × Nat × Nat) × List (Nat × Nat × MS) × List (Nat × Int32) × List (Nat × Int64) × List (Nat × Nat)
def m0 : MS := (⟨"", "", ""⟩, ⟨#[]⟩, 0, none, { frames := 0, cells := 0, slots := 0, locals := 0 }, 0, 99)
/-- what the stack must bear -/
def p1 (st : List Vl) (k : Int32 → List Vl → Prop) : Prop := match st with
  | (.int x, _) :: r => k x r
  | _ => False
def p2 (st : List Vl) (k : Int32 → Int32 → List Vl → Prop) : Prop := match st with
  | (.int y, _) :: (.int x, _) :: r => k x y r
  | _ => False
def q1 (st : List Vl) (k : Int64 → List Vl → Prop) : Prop := match st with
  | (.long x, _) :: r => k x r
  | _ => False
def q2 (st : List Vl) (k : Int64 → Int64 → List Vl → Prop) : Prop := match st with
  | (.long y, _) :: (.long x, _) :: r => k x y r
  | _ => False
def pr (st : List Vl) (k : Nat → Nat → List Vl → Prop) : Prop := match st with
  | (.ref a, i) :: r => k a i r
  | _ => False
def pa (st : List Vl) (k : Int32 → Nat → Nat → List Vl → Prop) : Prop := match st with
  | (.int j, _) :: (.ref a, i) :: r => k j a i r
  | _ => False
def ps (st : List Vl) (k : Int32 → Int32 → Nat → Nat → List Vl → Prop) : Prop := match st with
  | (.int x, _) :: (.int j, _) :: (.ref a, i) :: r => k x j a i r
  | _ => False
def pls (st : List Vl) (k : Int64 → Int32 → Nat → Nat → List Vl → Prop) : Prop := match st with
  | (.long x, _) :: (.int j, _) :: (.ref a, i) :: r => k x j a i r
  | _ => False
def bq (b : Bool) (P : Prop) : Prop := match b with
  | true => P
  | false => False
def vcat (v : Vl) : Nat := match v.1 with
  | .long _ => 2
  | .double _ => 2
  | _ => 1
def wsum : List Vl → Nat
  | [] => 0
  | v :: l => vcat v + wsum l
def popA : Nat → List Vl → List Vl → (List Vl → List Vl → Prop) → Prop
  | 0, st, acc, k => k acc st
  | n + 1, v :: st, acc, k => popA n st (v :: acc) k
  | _ + 1, [], _, _ => False
def swt (x : Int32) (nx : Nat → Prop) (d : Nat) : List (Int32 × Nat) → Prop
  | [] => nx d
  | q :: l => if x = q.1 then nx q.2 else swt x nx d l
def callK (G : Ge) (M' : MS) (as : List Vl) (μ : Mm) (r : List Vl) (nx : List Vl → Mm → Prop) : Prop := match mr M' with
  | none => CS G M' as μ (RV (fun μ' => nx r μ'))
  | some .int => CS G M' as μ (RI (fun v μ' => nx (vi v :: r) μ'))
  | some .boolean => CS G M' as μ (RI (fun v μ' => nx (vi v :: r) μ'))
  | some .long => CS G M' as μ (RL (fun v μ' => nx (vl v :: r) μ'))
  | _ => False
def cpy (st : List Vl) (μ : Mm) (nx : List Vl → Mm → Prop) : Prop := match st with
  | (.int n, _) :: (.int dp, _) :: (.ref k, i) :: (.int sp, _) :: (.ref k0, i0) :: r => (match ktag k0 with
    | 1 => bq (Nat.beq (ktag k) 1 && Nat.ble (wsum r) 8) ((¬ sp < 0 ∧ ¬ dp < 0 ∧ ¬ n < 0 ∧ sp.toNatClampNeg + n.toNatClampNeg ≤ klen k0 ∧ dp.toNatClampNeg + n.toNatClampNeg ≤ klen k) ∧ nx r (cI μ k0 i0 sp.toNatClampNeg k i dp.toNatClampNeg n.toNatClampNeg))
    | 2 => bq (Nat.beq (ktag k) 2 && Nat.ble (wsum r) 8) ((¬ sp < 0 ∧ ¬ dp < 0 ∧ ¬ n < 0 ∧ sp.toNatClampNeg + n.toNatClampNeg ≤ klen k0 ∧ dp.toNatClampNeg + n.toNatClampNeg ≤ klen k) ∧ nx r (cL μ k0 i0 sp.toNatClampNeg k i dp.toNatClampNeg n.toNatClampNeg))
    | _ => False)
  | _ => False
def cV (G : Ge) (q : Nat × Nat × MS) (st : List Vl) (μ : Mm) (nx : List Vl → Mm → Prop) : Prop := match q.2.1 with
  | 0 => popA (mN q.2.2) st [] (fun as r0 => pr r0 (fun k i r => match ktag k with
    | 0 => bq (Nat.beq (kcl k) (mK q.2.2) && Nat.ble (wsum r) 8) (callK G q.2.2 (vr k i :: as) μ r nx)
    | _ => False))
  | _ => False
def cS (G : Ge) (q : Nat × Nat × MS) (st : List Vl) (μ : Mm) (nx : List Vl → Mm → Prop) : Prop := match q.2.1 with
  | 0 => False
  | 1 => popA (mN q.2.2) st [] (fun as r => bq (Nat.ble (wsum r) 8) (callK G q.2.2 as μ r nx))
  | 2 => popA (mN q.2.2) st [] (fun as r => bq (Nat.ble (wsum r) 8) (callK G q.2.2 as μ r nx))
  | 3 => cpy st μ nx
  | _ => False
def gF (k i a b : Nat) (μ : Mm) (nx : Vl → Prop) : Prop := match ktag k with
  | 0 => bq (Nat.beq (kcl k) a) (match fc (kcl k) b with
    | 0 => nx (vi (μ.1 k i b))
    | 1 => nx (vl (μ.2 k i b))
    | 2 => nx (rf k i b)
    | 3 => if μ.1 k i b = 0 then nx vn else nx (vr 8 ((μ.1 k i b).toNatClampNeg - 1))
    | _ => False)
  | _ => False
def pF (st : List Vl) (a b : Nat) (μ : Mm) (nx : List Vl → Mm → Prop) : Prop := match st with
  | (.int x, _) :: (.ref k, i) :: r => (match ktag k with
    | 0 => bq (Nat.beq (kcl k) a && Nat.beq (fc (kcl k) b) 0) (nx r (wI μ k i b x))
    | _ => False)
  | (.long x, _) :: (.ref k, i) :: r => (match ktag k with
    | 0 => bq (Nat.beq (kcl k) a && Nat.beq (fc (kcl k) b) 1) (nx r (wL μ k i b x))
    | _ => False)
  | (.ref k', i') :: (.ref k, i) :: r => (match ktag k with
    | 0 => bq (Nat.beq (kcl k) a && Nat.beq (fc (kcl k) b) 3 && Nat.beq k' 8) (nx r (wI μ k i b (nI (i' + 1))))
    | _ => False)
  | _ => False
def lI (ls : List Vl) (k : Nat) (nx : Int32 → Prop) : Prop := match lget ls k with
  | (.int x, _) => nx x
  | _ => False
def lJ (ls : List Vl) (k : Nat) (nx : Int64 → Prop) : Prop := match lget ls k with
  | (.long x, _) => nx x
  | _ => False
def lA (ls : List Vl) (k : Nat) (nx : Nat → Nat → Prop) : Prop := match lget ls k with
  | (.ref x, i) => nx x i
  | _ => False
def eI (M : MS) (st : List Vl) (μ : Mm) (Φ : Ph) : Prop := match st with
  | [(.int v, _)] => (match mr M with
    | some .int => Φ (some (.int v)) μ
    | some .boolean => (v = 0 ∨ v = 1) ∧ Φ (some (.int v)) μ
    | _ => False)
  | _ => False
def eJ (M : MS) (st : List Vl) (μ : Mm) (Φ : Ph) : Prop := match st with
  | [(.long v, _)] => (match mr M with
    | some .long => Φ (some (.long v)) μ
    | _ => False)
  | _ => False
def eV (M : MS) (st : List Vl) (μ : Mm) (Φ : Ph) : Prop := match st with
  | [] => (match mr M with
    | none => Φ none μ
    | _ => False)
  | _ => False
/-- an instruction's demand, nx what is to hold at the next one (place, locals, stack, memory) -/
def stp (G : Ge) (M : MS) (ml : List (Nat × Nat × MS)) (e : En) (nx : Nat → List Vl → List Vl → Mm → Prop) (ls st : List Vl) (μ : Mm) (Φ : Ph) : Prop :=
  match e with
  | (pc, ins, len, a, b, c, d, cs) =>
  match ins with
  | .iconst _ => nx (pc + len) ls (vi c :: st) μ
  | .bipush _ => nx (pc + len) ls (vi c :: st) μ
  | .sipush _ => nx (pc + len) ls (vi c :: st) μ
  | .ldc _ => nx (pc + len) ls (vi c :: st) μ
  | .ldc_w _ => nx (pc + len) ls (vi c :: st) μ
  | .lconst _ => nx (pc + len) ls (vl d :: st) μ
  | .ldc2_w _ => nx (pc + len) ls (vl d :: st) μ
  | .iload_n k => lI ls k.val (fun x => nx (pc + len) ls (vi x :: st) μ)
  | .iload k => lI ls k (fun x => nx (pc + len) ls (vi x :: st) μ)
  | .lload_n k => lJ ls k.val (fun x => nx (pc + len) ls (vl x :: st) μ)
  | .lload k => lJ ls k (fun x => nx (pc + len) ls (vl x :: st) μ)
  | .aload_n k => lA ls k.val (fun x i => nx (pc + len) ls (vr x i :: st) μ)
  | .aload k => lA ls k (fun x i => nx (pc + len) ls (vr x i :: st) μ)
  | .istore_n k => p1 st (fun x r => bq (Nat.blt k.val (mL M)) (nx (pc + len) (st1 ls k.val (vi x)) r μ))
  | .istore k => p1 st (fun x r => bq (Nat.blt k (mL M)) (nx (pc + len) (st1 ls k (vi x)) r μ))
  | .lstore_n k => q1 st (fun x r => bq (Nat.blt (k.val + 1) (mL M)) (nx (pc + len) (st2 ls k.val (vl x)) r μ))
  | .lstore k => q1 st (fun x r => bq (Nat.blt (k + 1) (mL M)) (nx (pc + len) (st2 ls k (vl x)) r μ))
  | .astore_n k => pr st (fun x i r => bq (Nat.blt k.val (mL M)) (nx (pc + len) (st1 ls k.val (vr x i)) r μ))
  | .astore k => pr st (fun x i r => bq (Nat.blt k (mL M)) (nx (pc + len) (st1 ls k (vr x i)) r μ))
  | .iinc k _ => lI ls k (fun x => bq (Nat.blt k (mL M)) (nx (pc + len) (st1 ls k (vi (x + c))) st μ))
  | .iadd => p2 st (fun x y r => nx (pc + len) ls (vi (x + y) :: r) μ)
  | .isub => p2 st (fun x y r => nx (pc + len) ls (vi (x - y) :: r) μ)
  | .imul => p2 st (fun x y r => nx (pc + len) ls (vi (x * y) :: r) μ)
  | .iand => p2 st (fun x y r => nx (pc + len) ls (vi (x &&& y) :: r) μ)
  | .ior => p2 st (fun x y r => nx (pc + len) ls (vi (x ||| y) :: r) μ)
  | .ishl => p2 st (fun x y r => nx (pc + len) ls (vi (x <<< (y &&& 31)) :: r) μ)
  | .ishr => p2 st (fun x y r => nx (pc + len) ls (vi (x >>> (y &&& 31)) :: r) μ)
  | .iushr => p2 st (fun x y r => nx (pc + len) ls (vi ((x.toUInt32 >>> (y.toUInt32 &&& Int32.toUInt32 31)).toInt32) :: r) μ)
  | .idiv => p2 st (fun x y r => ¬ y = 0 ∧ nx (pc + len) ls (vi (x / y) :: r) μ)
  | .ladd => q2 st (fun x y r => nx (pc + len) ls (vl (x + y) :: r) μ)
  | .lmul => q2 st (fun x y r => nx (pc + len) ls (vl (x * y) :: r) μ)
  | .ldiv => q2 st (fun x y r => ¬ y = 0 ∧ nx (pc + len) ls (vl (x / y) :: r) μ)
  | .lrem => q2 st (fun x y r => ¬ y = 0 ∧ nx (pc + len) ls (vl (x - x / y * y) :: r) μ)
  | .lneg => q1 st (fun x r => nx (pc + len) ls (vl (-x) :: r) μ)
  | .lcmp => q2 st (fun x y r => nx (pc + len) ls (vi (lg_cmp x y) :: r) μ)
  | .i2l => p1 st (fun x r => nx (pc + len) ls (vl x.toInt64 :: r) μ)
  | .l2i => q1 st (fun x r => nx (pc + len) ls (vi x.toInt32 :: r) μ)
  | .i2b => p1 st (fun x r => nx (pc + len) ls (vi x.toInt8.toInt32 :: r) μ)
  | .dup => match st with
    | v :: r => bq (Nat.beq (vcat v) 1) (nx (pc + len) ls (v :: v :: r) μ)
    | _ => False
  | .dup2 => match st with
    | v :: w :: r => bq (Nat.beq (vcat v) 1 && Nat.beq (vcat w) 1) (nx (pc + len) ls (v :: w :: v :: w :: r) μ)
    | _ => False
  | .pop => match st with
    | v :: r => bq (Nat.beq (vcat v) 1) (nx (pc + len) ls r μ)
    | _ => False
  | .goto _ => nx a ls st μ
  | .ifCond .eq _ => p1 st (fun x r => if x = 0 then nx a ls r μ else nx (pc + len) ls r μ)
  | .ifCond .ne _ => p1 st (fun x r => if x = 0 then nx (pc + len) ls r μ else nx a ls r μ)
  | .ifCond .lt _ => p1 st (fun x r => if x < 0 then nx a ls r μ else nx (pc + len) ls r μ)
  | .ifCond .ge _ => p1 st (fun x r => if 0 ≤ x then nx a ls r μ else nx (pc + len) ls r μ)
  | .ifCond .gt _ => p1 st (fun x r => if 0 < x then nx a ls r μ else nx (pc + len) ls r μ)
  | .ifCond .le _ => p1 st (fun x r => if x ≤ 0 then nx a ls r μ else nx (pc + len) ls r μ)
  | .if_icmp .eq _ => p2 st (fun x y r => if x = y then nx a ls r μ else nx (pc + len) ls r μ)
  | .if_icmp .ne _ => p2 st (fun x y r => if x = y then nx (pc + len) ls r μ else nx a ls r μ)
  | .if_icmp .lt _ => p2 st (fun x y r => if x < y then nx a ls r μ else nx (pc + len) ls r μ)
  | .if_icmp .ge _ => p2 st (fun x y r => if y ≤ x then nx a ls r μ else nx (pc + len) ls r μ)
  | .if_icmp .gt _ => p2 st (fun x y r => if y < x then nx a ls r μ else nx (pc + len) ls r μ)
  | .if_icmp .le _ => p2 st (fun x y r => if x ≤ y then nx a ls r μ else nx (pc + len) ls r μ)
  | .ifnull _ => match st with
    | (.null, _) :: r => nx a ls r μ
    | (.ref _, _) :: r => nx (pc + len) ls r μ
    | _ => False
  | .tableswitch _ _ _ _ => p1 st (fun x r => swt x (fun t => nx t ls r μ) a cs)
  | .lookupswitch _ _ => p1 st (fun x r => swt x (fun t => nx t ls r μ) a cs)
  | .getfield _ => pr st (fun k i r => gF k i a b μ (fun v => nx (pc + len) ls (v :: r) μ))
  | .putfield _ => pF st a b μ (fun r μ' => nx (pc + len) ls r μ')
  | .iaload => pa st (fun j k i r => match ktag k with
    | 1 => vp_in j (klen k) ∧ nx (pc + len) ls (vi (μ.1 k i j.toNatClampNeg) :: r) μ
    | 6 => vp_in j 6 ∧ nx (pc + len) ls (vi (rom k j.toNatClampNeg) :: r) μ
    | 7 => vp_in j (gL G) ∧ nx (pc + len) ls (vi (gxs G j.toNatClampNeg) :: r) μ
    | _ => False)
  | .laload => pa st (fun j k i r => match ktag k with
    | 2 => vp_in j (klen k) ∧ nx (pc + len) ls (vl (μ.2 k i j.toNatClampNeg) :: r) μ
    | _ => False)
  | .baload => pa st (fun j k i r => match ktag k with
    | 3 => vp_in j (klen k) ∧ nx (pc + len) ls (vi (μ.1 k i j.toNatClampNeg) :: r) μ
    | 4 => vp_in j (klen k) ∧ nx (pc + len) ls (vi (μ.1 k i j.toNatClampNeg) :: r) μ
    | _ => False)
  | .aaload => pa st (fun j k i r => match ktag k with
    | 5 => vp_in j (klen k) ∧ nx (pc + len) ls (rf k i j.toNatClampNeg :: r) μ
    | _ => False)
  | .iastore => ps st (fun x j k i r => match ktag k with
    | 1 => vp_in j (klen k) ∧ nx (pc + len) ls r (wI μ k i j.toNatClampNeg x)
    | _ => False)
  | .lastore => pls st (fun x j k i r => match ktag k with
    | 2 => vp_in j (klen k) ∧ nx (pc + len) ls r (wL μ k i j.toNatClampNeg x)
    | _ => False)
  | .bastore => ps st (fun x j k i r => match ktag k with
    | 3 => vp_in j (klen k) ∧ nx (pc + len) ls r (wI μ k i j.toNatClampNeg x.toInt8.toInt32)
    | 4 => vp_in j (klen k) ∧ nx (pc + len) ls r (wI μ k i j.toNatClampNeg (x &&& 1))
    | _ => False)
  | .arraylength => pr st (fun k _ r => match ktag k with
    | 1 => nx (pc + len) ls (vi (nI (klen k)) :: r) μ
    | 2 => nx (pc + len) ls (vi (nI (klen k)) :: r) μ
    | 7 => nx (pc + len) ls (vi (nI (gL G)) :: r) μ
    | _ => False)
  | .getstatic _ => nx (pc + len) ls (vr a 0 :: st) μ
  | .invokevirtual _ => cV G (ml.getD a (0, 9, m0)) st μ (fun st' μ' => nx (pc + len) ls st' μ')
  | .invokestatic _ => cS G (ml.getD a (0, 9, m0)) st μ (fun st' μ' => nx (pc + len) ls st' μ')
  | .ireturn => eI M st μ Φ
  | .lreturn => eJ M st μ Φ
  | .return_ => eV M st μ Φ
  | _ => False
def fnd (pc : Nat) : List En → Option En
  | [] => none
  | e :: l => match Nat.beq e.1 pc with
    | true => some e
    | false => fnd pc l
def fcut (pc : Nat) : List (Nat × List Bool) → Option (List Bool)
  | [] => none
  | q :: l => match Nat.beq q.1 pc with
    | true => some q.2
    | false => fcut pc l
def msk : List Bool → List Vl → List Vl
  | [], _ => []
  | _, [] => []
  | true :: b, v :: l => v :: msk b l
  | false :: b, _ :: l => un :: msk b l
/-- the demand at a place, down to the cuts -/
def wp (G : Ge) (M : MS) (ml : List (Nat × Nat × MS)) (tb : List En) (cu : List (Nat × List Bool)) (Φ : Ph) : Nat → Bool → Nat → List Vl → List Vl → Mm → Prop
  | 0, _, _, _, _, _ => False
  | n + 1, fst, pc, ls, st, μ => match fst, fcut pc cu with
    | false, some bs => SS G M pc (msk bs ls) st μ Φ
    | _, _ => match fnd pc tb with
      | some e => stp G M ml e (fun pc' ls' st' μ' => wp G M ml tb cu Φ n false pc' ls' st' μ') ls st μ Φ
      | none => False
end
section
/-! locals by places, and the rows of the kit -/
theorem lp_mem (G : Ge) : ∀ (ls : List Vl) (b j : Nat) (w : Value), (j, w) ∈ lp G b ls ↔ ∃ v : Vl, b ≤ j ∧ ls[j - b]? = some v ∧ (∀ q, v.1 ≠ .retAddr q) ∧ w = mv G v := by
  intro ls
  induction ls with
  | nil =>
    intro b j w
    constructor
    · intro h
      simp [lp] at h
    · rintro ⟨v, -, h, -⟩
      simp at h
  | cons a l ih =>
    intro b j w
    obtain ⟨a1, a2⟩ := a
    have step : (∃ v : Vl, b + 1 ≤ j ∧ l[j - (b + 1)]? = some v ∧ (∀ q, v.1 ≠ .retAddr q) ∧ w = mv G v) → ∃ v : Vl, b ≤ j ∧ ((a1, a2) :: l)[j - b]? = some v ∧ (∀ q, v.1 ≠ .retAddr q) ∧ w = mv G v := by
      rintro ⟨v, h1, h2, h3⟩
      refine ⟨v, by omega, ?_, h3⟩
      rw [show j - b = (j - (b + 1)) + 1 by omega, List.getElem?_cons_succ]
      exact h2
    have back : ∀ v : Vl, b ≤ j → ((a1, a2) :: l)[j - b]? = some v → (j = b ∧ v = (a1, a2)) ∨ (b + 1 ≤ j ∧ l[j - (b + 1)]? = some v) := by
      intro v h1 h2
      by_cases e : j = b
      · subst e
        rw [Nat.sub_self, List.getElem?_cons_zero] at h2
        exact Or.inl ⟨rfl, (Option.some.inj h2).symm⟩
      · right
        refine ⟨by omega, ?_⟩
        rw [show j - b = (j - (b + 1)) + 1 by omega, List.getElem?_cons_succ] at h2
        exact h2
    by_cases hr : ∃ q, a1 = .retAddr q
    · obtain ⟨q, rfl⟩ := hr
      rw [show lp G b ((Value.retAddr q, a2) :: l) = lp G (b + 1) l from rfl, ih]
      refine ⟨step, ?_⟩
      rintro ⟨v, h1, h2, h3, h4⟩
      rcases back v h1 h2 with ⟨-, rfl⟩ | ⟨h5, h6⟩
      · exact absurd rfl (h3 q)
      · exact ⟨v, h5, h6, h3, h4⟩
    · have e : lp G b ((a1, a2) :: l) = (b, mv G (a1, a2)) :: lp G (b + 1) l := by
        cases a1 <;> first | rfl | exact absurd ⟨_, rfl⟩ hr
      rw [e, List.mem_cons, ih]
      constructor
      · rintro (h | h)
        · cases h
          refine ⟨(a1, a2), Nat.le_refl b, ?_, fun q hq => hr ⟨q, hq⟩, rfl⟩
          rw [Nat.sub_self]
          rfl
        · exact step h
      · rintro ⟨v, h1, h2, h3, h4⟩
        rcases back v h1 h2 with ⟨rfl, rfl⟩ | ⟨h5, h6⟩
        · left
          rw [h4]
        · exact Or.inr ⟨v, h5, h6, h3, h4⟩
theorem lget_some : ∀ (ls : List Vl) (k : Nat) (v : Vl), lget ls k = v → (∀ q, v.1 ≠ .retAddr q) → ls[k]? = some v := by
  intro ls
  induction ls with
  | nil =>
    intro k v h hn
    exact absurd (by rw [← h]; rfl) (hn 0)
  | cons a l ih =>
    intro k v h hn
    cases k with
    | zero => rw [← h]; rfl
    | succ n =>
      rw [List.getElem?_cons_succ]
      exact ih n v h hn
theorem lR_get {G : Ge} {L : Array Slot} {n : Nat} {ls : List Vl} {k : Nat} {v : Vl} (h : lR G L n ls) (hv : lget ls k = v) (hn : ∀ q, v.1 ≠ .retAddr q) : L[k]? = some (.val (mv G v)) :=
  h.2.2 (k, mv G v) ((lp_mem G ls 0 k _).mpr ⟨v, Nat.zero_le k, by rw [Nat.sub_zero]; exact lget_some ls k v hv hn, hn, rfl⟩)
theorem lR_vok {ls : List Vl} {k : Nat} {v : Vl} (h : vld ls) (hv : lget ls k = v) (hn : ∀ q, v.1 ≠ .retAddr q) : vok v := h v (List.mem_of_getElem? (lget_some ls k v hv hn))
def clr (a : Vl) : Vl := match a.1 with
  | .long _ => un
  | .double _ => un
  | _ => a
theorem clr_cases (a : Vl) : clr a = un ∨ (clr a = a ∧ a.1.category = 1) := by
  obtain ⟨a1, a2⟩ := a
  cases a1 <;> first | exact Or.inl rfl | exact Or.inr ⟨rfl, rfl⟩
theorem mv_cat (G : Ge) (v : Vl) : (mv G v).category = v.1.category := by
  obtain ⟨a1, a2⟩ := v
  cases a1 <;> rfl
theorem st1_get : ∀ (ls : List Vl) (k j : Nat) (v u : Vl), (st1 ls k v)[j]? = some u → (j = k ∧ u = v) ∨ (j ≠ k ∧ j + 1 ≠ k ∧ ls[j]? = some u) ∨ (j + 1 = k ∧ ∃ a, ls[j]? = some a ∧ u = clr a) := by
  intro ls
  induction ls with
  | nil => intro k j v u h; simp [st1] at h
  | cons a l ih =>
    intro k j v u h
    cases k with
    | zero =>
      cases j with
      | zero => left; exact ⟨rfl, by simpa [st1] using h.symm⟩
      | succ j => right; left; exact ⟨by omega, by omega, by simpa [st1] using h⟩
    | succ k =>
      cases j with
      | zero =>
        cases k with
        | zero =>
          right; right
          refine ⟨rfl, a, rfl, ?_⟩
          have h' : (clr a :: st1 l 0 v)[0]? = some u := h
          simpa using h'.symm
        | succ k =>
          right; left
          have h' : (a :: st1 l (k + 1) v)[0]? = some u := h
          exact ⟨by omega, by omega, by simpa using h'⟩
      | succ j =>
        have h' : (st1 l k v)[j]? = some u := by
          have h2 : (_ :: st1 l k v)[j + 1]? = some u := h
          simpa using h2
        rcases ih k j v u h' with ⟨h1, h2⟩ | ⟨h1, h2, h3⟩ | ⟨h1, b, h2, h3⟩
        · exact Or.inl ⟨by omega, h2⟩
        · exact Or.inr (Or.inl ⟨by omega, by omega, by simpa using h3⟩)
        · exact Or.inr (Or.inr ⟨by omega, b, by simpa using h2, h3⟩)
theorem st2_get : ∀ (ls : List Vl) (k j : Nat) (v u : Vl), (st2 ls k v)[j]? = some u → (j = k ∧ u = v) ∨ (j = k + 1 ∧ u = un) ∨ (j ≠ k ∧ j ≠ k + 1 ∧ j + 1 ≠ k ∧ ls[j]? = some u) ∨ (j + 1 = k ∧ ∃ a, ls[j]? = some a ∧ u = clr a) := by
  intro ls
  induction ls with
  | nil => intro k j v u h; simp [st2] at h
  | cons a l ih =>
    intro k j v u h
    cases l with
    | nil => simp [st2] at h
    | cons b l =>
    cases k with
    | zero =>
      have h' : (v :: un :: l)[j]? = some u := h
      cases j with
      | zero => left; exact ⟨rfl, by simpa using h'.symm⟩
      | succ j =>
        cases j with
        | zero => right; left; exact ⟨rfl, by simpa using h'.symm⟩
        | succ j => right; right; left; exact ⟨by omega, by omega, by omega, by simpa using h'⟩
    | succ k =>
      cases j with
      | zero =>
        cases k with
        | zero =>
          right; right; right
          refine ⟨rfl, a, rfl, ?_⟩
          have h' : (clr a :: st2 (b :: l) 0 v)[0]? = some u := h
          simpa using h'.symm
        | succ k =>
          right; right; left
          have h' : (a :: st2 (b :: l) (k + 1) v)[0]? = some u := h
          exact ⟨by omega, by omega, by omega, by simpa using h'⟩
      | succ j =>
        have h' : (st2 (b :: l) k v)[j]? = some u := by
          have h2 : (_ :: st2 (b :: l) k v)[j + 1]? = some u := h
          simpa using h2
        rcases ih k j v u h' with ⟨h1, h2⟩ | ⟨h1, h2⟩ | ⟨h1, h2, h4, h3⟩ | ⟨h1, c, h2, h3⟩
        · exact Or.inl ⟨by omega, h2⟩
        · exact Or.inr (Or.inl ⟨by omega, h2⟩)
        · exact Or.inr (Or.inr (Or.inl ⟨by omega, by omega, by omega, by simpa using h3⟩))
        · exact Or.inr (Or.inr (Or.inr ⟨by omega, c, by simpa using h2, h3⟩))
theorem lv_mono {L : Array Slot} {n : Nat} {l1 l2 : List (Nat × Value)} (h : lv_has L n l1) (hs : ∀ q ∈ l2, q ∈ l1) : lv_has L n l2 := ⟨h.1, h.2.1, fun q hq => h.2.2 q (hs q hq)⟩
theorem lR_st1 {G : Ge} {L : Array Slot} {n : Nat} {ls : List Vl} {k : Nat} {v : Vl} (h : lv_has L n ((k, mv G v) :: (lp G 0 ls).filter (fun q => !(q.1 == k) && !(q.1 + 1 == k && q.2.category == 2)))) : lR G L n (st1 ls k v) := by
  refine lv_mono h ?_
  rintro ⟨j, w⟩ hq
  obtain ⟨u, -, h1, h2, h3⟩ := (lp_mem G _ 0 j w).mp hq
  rw [Nat.sub_zero] at h1
  subst h3
  rcases st1_get ls k j v u h1 with ⟨rfl, rfl⟩ | ⟨g1, g2, g3⟩ | ⟨g1, a, g2, g3⟩
  · exact List.mem_cons_self
  · refine List.mem_cons_of_mem _ (List.mem_filter.mpr ⟨(lp_mem G ls 0 j _).mpr ⟨u, Nat.zero_le j, g3, h2, rfl⟩, ?_⟩)
    simp [g1, g2]
  · rcases clr_cases a with e | ⟨e, ec⟩
    · rw [g3, e] at h2
      exact absurd rfl (h2 0)
    · rw [e] at g3
      subst g3
      refine List.mem_cons_of_mem _ (List.mem_filter.mpr ⟨(lp_mem G ls 0 j _).mpr ⟨u, Nat.zero_le j, g2, h2, rfl⟩, ?_⟩)
      simp [mv_cat, ec]
      omega
theorem lR_st2 {G : Ge} {L : Array Slot} {n : Nat} {ls : List Vl} {k : Nat} {v : Vl} (h : lv_has L n ((k, mv G v) :: (lp G 0 ls).filter (fun q => !(q.1 == k) && (!(q.1 == k + 1) && !(q.1 + 1 == k && q.2.category == 2))))) : lR G L n (st2 ls k v) := by
  refine lv_mono h ?_
  rintro ⟨j, w⟩ hq
  obtain ⟨u, -, h1, h2, h3⟩ := (lp_mem G _ 0 j w).mp hq
  rw [Nat.sub_zero] at h1
  subst h3
  rcases st2_get ls k j v u h1 with ⟨rfl, rfl⟩ | ⟨g1, g2⟩ | ⟨g1, g2, g4, g3⟩ | ⟨g1, a, g2, g3⟩
  · exact List.mem_cons_self
  · rw [g2] at h2
    exact absurd rfl (h2 0)
  · refine List.mem_cons_of_mem _ (List.mem_filter.mpr ⟨(lp_mem G ls 0 j _).mpr ⟨u, Nat.zero_le j, g3, h2, rfl⟩, ?_⟩)
    simp [g1, g2, g4]
  · rcases clr_cases a with e | ⟨e, ec⟩
    · rw [g3, e] at h2
      exact absurd rfl (h2 0)
    · rw [e] at g3
      subst g3
      refine List.mem_cons_of_mem _ (List.mem_filter.mpr ⟨(lp_mem G ls 0 j _).mpr ⟨u, Nat.zero_le j, g2, h2, rfl⟩, ?_⟩)
      simp [mv_cat, ec]
      omega
theorem vok_un : vok un := rfl
theorem vld_st1 {ls : List Vl} {k : Nat} {v : Vl} (h : vld ls) (hv : vok v) : vld (st1 ls k v) := by
  intro u hu
  obtain ⟨j, hj⟩ := List.getElem?_of_mem hu
  rcases st1_get ls k j v u hj with ⟨-, rfl⟩ | ⟨-, -, g3⟩ | ⟨-, a, g2, g3⟩
  · exact hv
  · exact h u (List.mem_of_getElem? g3)
  · rcases clr_cases a with e | ⟨e, -⟩
    · rw [g3, e]; exact vok_un
    · rw [g3, e]; exact h a (List.mem_of_getElem? g2)
theorem vld_st2 {ls : List Vl} {k : Nat} {v : Vl} (h : vld ls) (hv : vok v) : vld (st2 ls k v) := by
  intro u hu
  obtain ⟨j, hj⟩ := List.getElem?_of_mem hu
  rcases st2_get ls k j v u hj with ⟨-, rfl⟩ | ⟨-, rfl⟩ | ⟨-, -, -, g3⟩ | ⟨-, a, g2, g3⟩
  · exact hv
  · exact vok_un
  · exact h u (List.mem_of_getElem? g3)
  · rcases clr_cases a with e | ⟨e, -⟩
    · rw [g3, e]; exact vok_un
    · rw [g3, e]; exact h a (List.mem_of_getElem? g2)
theorem msk_get : ∀ (bs : List Bool) (ls : List Vl) (j : Nat) (u : Vl), (msk bs ls)[j]? = some u → u = un ∨ ls[j]? = some u := by
  intro bs
  induction bs with
  | nil => intro ls j u h; simp [msk] at h
  | cons b bs ih =>
    intro ls j u h
    cases ls with
    | nil => cases b <;> simp [msk] at h
    | cons a l =>
      cases j with
      | zero =>
        cases b
        · left
          have h' : (un :: msk bs l)[0]? = some u := h
          simpa using h'.symm
        · right
          have h' : (a :: msk bs l)[0]? = some u := h
          simpa using h'
      | succ j =>
        have h' : (msk bs l)[j]? = some u := by
          cases b
          · have h2 : (un :: msk bs l)[j + 1]? = some u := h
            simpa using h2
          · have h2 : (a :: msk bs l)[j + 1]? = some u := h
            simpa using h2
        rcases ih l j u h' with e | e
        · exact Or.inl e
        · right; simpa using e
theorem lR_msk {G : Ge} {L : Array Slot} {n : Nat} {ls : List Vl} (bs : List Bool) (h : lR G L n ls) : lR G L n (msk bs ls) := by
  refine lv_mono h ?_
  rintro ⟨j, w⟩ hq
  obtain ⟨u, -, h1, h2, h3⟩ := (lp_mem G _ 0 j w).mp hq
  rw [Nat.sub_zero] at h1
  rcases msk_get bs ls j u h1 with e | e
  · rw [e] at h2
    exact absurd rfl (h2 0)
  · exact (lp_mem G ls 0 j w).mpr ⟨u, Nat.zero_le j, e, h2, h3⟩
theorem vld_msk {ls : List Vl} (bs : List Bool) (h : vld ls) : vld (msk bs ls) := by
  intro u hu
  obtain ⟨j, hj⟩ := List.getElem?_of_mem hu
  rcases msk_get bs ls j u hj with e | e
  · rw [e]; exact vok_un
  · exact h u (List.mem_of_getElem? e)
theorem vld_cons {v : Vl} {l : List Vl} (hv : vok v) (h : vld l) : vld (v :: l) := by
  intro u hu
  rcases List.mem_cons.mp hu with rfl | h1
  · exact hv
  · exact h u h1
theorem vld_hd {v : Vl} {l : List Vl} (h : vld (v :: l)) : vok v := h v List.mem_cons_self
theorem vld_tl {v : Vl} {l : List Vl} (h : vld (v :: l)) : vld l := fun u hu => h u (List.mem_cons_of_mem _ hu)
end
section
/-! one instruction after another: the demands are enough. First what only moves the frame. -/
theorem p1_c {st : List Vl} {k : Int32 → List Vl → Prop} (h : p1 st k) : ∃ x e r, st = (.int x, e) :: r ∧ k x r := by
  unfold p1 at h
  split at h
  · exact ⟨_, _, _, rfl, h⟩
  · exact h.elim
theorem p2_c {st : List Vl} {k : Int32 → Int32 → List Vl → Prop} (h : p2 st k) : ∃ x y e1 e2 r, st = (.int y, e1) :: (.int x, e2) :: r ∧ k x y r := by
  unfold p2 at h
  split at h
  · exact ⟨_, _, _, _, _, rfl, h⟩
  · exact h.elim
theorem q1_c {st : List Vl} {k : Int64 → List Vl → Prop} (h : q1 st k) : ∃ x e r, st = (.long x, e) :: r ∧ k x r := by
  unfold q1 at h
  split at h
  · exact ⟨_, _, _, rfl, h⟩
  · exact h.elim
theorem q2_c {st : List Vl} {k : Int64 → Int64 → List Vl → Prop} (h : q2 st k) : ∃ x y e1 e2 r, st = (.long y, e1) :: (.long x, e2) :: r ∧ k x y r := by
  unfold q2 at h
  split at h
  · exact ⟨_, _, _, _, _, rfl, h⟩
  · exact h.elim
theorem pr_c {st : List Vl} {k : Nat → Nat → List Vl → Prop} (h : pr st k) : ∃ a i r, st = (.ref a, i) :: r ∧ k a i r := by
  unfold pr at h
  split at h
  · exact ⟨_, _, _, rfl, h⟩
  · exact h.elim
theorem pa_c {st : List Vl} {k : Int32 → Nat → Nat → List Vl → Prop} (h : pa st k) : ∃ j e a i r, st = (.int j, e) :: (.ref a, i) :: r ∧ k j a i r := by
  unfold pa at h
  split at h
  · exact ⟨_, _, _, _, _, rfl, h⟩
  · exact h.elim
theorem ps_c {st : List Vl} {k : Int32 → Int32 → Nat → Nat → List Vl → Prop} (h : ps st k) : ∃ x e1 j e2 a i r, st = (.int x, e1) :: (.int j, e2) :: (.ref a, i) :: r ∧ k x j a i r := by
  unfold ps at h
  split at h
  · exact ⟨_, _, _, _, _, _, _, rfl, h⟩
  · exact h.elim
theorem pls_c {st : List Vl} {k : Int64 → Int32 → Nat → Nat → List Vl → Prop} (h : pls st k) : ∃ x e1 j e2 a i r, st = (.long x, e1) :: (.int j, e2) :: (.ref a, i) :: r ∧ k x j a i r := by
  unfold pls at h
  split at h
  · exact ⟨_, _, _, _, _, _, _, rfl, h⟩
  · exact h.elim
theorem bq_c {b : Bool} {P : Prop} (h : bq b P) : b = true ∧ P := by
  cases b
  · exact h.elim
  · exact ⟨rfl, h⟩
section S1
variable {G : Ge} {M : MS} {pc pc' len : Nat} {ls st st' : List Vl} {μ : Mm} {Φ : Ph} {nx : Nat → List Vl → List Vl → Mm → Prop}
theorem SS_go (hgo : ∀ (p : Program) (e : Env) (s : State) (m : MethodId) (args : Array Value) (below : List Frame) (meth : Method) (c : Code) (cells slots : Nat) (Q : State → Prop), Ev G M p s m args meth c cells slots → ∀ (H : Heap) (locs : List Loc) (L : Array Slot), lR G L (mL M) ls → W p (gl G) e (mR M) s m args below meth c H locs cells slots Q (F0 m pc' L (st'.map (mv G))) → W p (gl G) e (mR M) s m args below meth c H locs cells slots Q (F0 m pc L (st.map (mv G))))
    (hv : vld ls → vld st → vld st') (h : SS G M pc' ls st' μ Φ) : SS G M pc ls st μ Φ := by
  intro p e s m args below meth c cells slots Q E R H locs L hH hS hL hl hst
  exact hgo p e s m args below meth c cells slots Q E H locs L hL (h p e s m args below meth c cells slots Q E R H locs L hH hS hL hl (hv hl hst))
theorem s_iadd (hd : decode (mc M) pc = .ok (.iadd, 1)) (N : ∀ pc1 ls1 st1 μ1, nx pc1 ls1 st1 μ1 → SS G M pc1 ls1 st1 μ1 Φ) (h : p2 st (fun x y r => nx (pc + 1) ls (vi (x + y) :: r) μ)) : SS G M pc ls st μ Φ := by
  obtain ⟨x, y, e1, e2, r, rfl, h⟩ := p2_c h
  exact SS_go (fun p e s m args below meth c cells slots Q E H locs L hL k => lv_iadd E.1 E.2.1 hd k) (fun _ h => vld_cons (by exact rfl) (vld_tl (vld_tl h))) (N _ _ _ _ h)
theorem s_isub (hd : decode (mc M) pc = .ok (.isub, 1)) (N : ∀ pc1 ls1 st1 μ1, nx pc1 ls1 st1 μ1 → SS G M pc1 ls1 st1 μ1 Φ) (h : p2 st (fun x y r => nx (pc + 1) ls (vi (x - y) :: r) μ)) : SS G M pc ls st μ Φ := by
  obtain ⟨x, y, e1, e2, r, rfl, h⟩ := p2_c h
  exact SS_go (fun p e s m args below meth c cells slots Q E H locs L hL k => lv_isub E.1 E.2.1 hd k) (fun _ h => vld_cons (by exact rfl) (vld_tl (vld_tl h))) (N _ _ _ _ h)
theorem s_imul (hd : decode (mc M) pc = .ok (.imul, 1)) (N : ∀ pc1 ls1 st1 μ1, nx pc1 ls1 st1 μ1 → SS G M pc1 ls1 st1 μ1 Φ) (h : p2 st (fun x y r => nx (pc + 1) ls (vi (x * y) :: r) μ)) : SS G M pc ls st μ Φ := by
  obtain ⟨x, y, e1, e2, r, rfl, h⟩ := p2_c h
  exact SS_go (fun p e s m args below meth c cells slots Q E H locs L hL k => lv_imul E.1 E.2.1 hd k) (fun _ h => vld_cons (by exact rfl) (vld_tl (vld_tl h))) (N _ _ _ _ h)
theorem s_iand (hd : decode (mc M) pc = .ok (.iand, 1)) (N : ∀ pc1 ls1 st1 μ1, nx pc1 ls1 st1 μ1 → SS G M pc1 ls1 st1 μ1 Φ) (h : p2 st (fun x y r => nx (pc + 1) ls (vi (x &&& y) :: r) μ)) : SS G M pc ls st μ Φ := by
  obtain ⟨x, y, e1, e2, r, rfl, h⟩ := p2_c h
  exact SS_go (fun p e s m args below meth c cells slots Q E H locs L hL k => lv_iand E.1 E.2.1 hd k) (fun _ h => vld_cons (by exact rfl) (vld_tl (vld_tl h))) (N _ _ _ _ h)
theorem s_ior (hd : decode (mc M) pc = .ok (.ior, 1)) (N : ∀ pc1 ls1 st1 μ1, nx pc1 ls1 st1 μ1 → SS G M pc1 ls1 st1 μ1 Φ) (h : p2 st (fun x y r => nx (pc + 1) ls (vi (x ||| y) :: r) μ)) : SS G M pc ls st μ Φ := by
  obtain ⟨x, y, e1, e2, r, rfl, h⟩ := p2_c h
  exact SS_go (fun p e s m args below meth c cells slots Q E H locs L hL k => lv_ior E.1 E.2.1 hd k) (fun _ h => vld_cons (by exact rfl) (vld_tl (vld_tl h))) (N _ _ _ _ h)
theorem s_ishl (hd : decode (mc M) pc = .ok (.ishl, 1)) (N : ∀ pc1 ls1 st1 μ1, nx pc1 ls1 st1 μ1 → SS G M pc1 ls1 st1 μ1 Φ) (h : p2 st (fun x y r => nx (pc + 1) ls (vi (x <<< (y &&& 31)) :: r) μ)) : SS G M pc ls st μ Φ := by
  obtain ⟨x, y, e1, e2, r, rfl, h⟩ := p2_c h
  exact SS_go (fun p e s m args below meth c cells slots Q E H locs L hL k => lv_ishl E.1 E.2.1 hd k) (fun _ h => vld_cons (by exact rfl) (vld_tl (vld_tl h))) (N _ _ _ _ h)
theorem s_ishr (hd : decode (mc M) pc = .ok (.ishr, 1)) (N : ∀ pc1 ls1 st1 μ1, nx pc1 ls1 st1 μ1 → SS G M pc1 ls1 st1 μ1 Φ) (h : p2 st (fun x y r => nx (pc + 1) ls (vi (x >>> (y &&& 31)) :: r) μ)) : SS G M pc ls st μ Φ := by
  obtain ⟨x, y, e1, e2, r, rfl, h⟩ := p2_c h
  exact SS_go (fun p e s m args below meth c cells slots Q E H locs L hL k => lv_ishr E.1 E.2.1 hd k) (fun _ h => vld_cons (by exact rfl) (vld_tl (vld_tl h))) (N _ _ _ _ h)
theorem s_iushr (hd : decode (mc M) pc = .ok (.iushr, 1)) (N : ∀ pc1 ls1 st1 μ1, nx pc1 ls1 st1 μ1 → SS G M pc1 ls1 st1 μ1 Φ) (h : p2 st (fun x y r => nx (pc + 1) ls (vi ((x.toUInt32 >>> (y.toUInt32 &&& Int32.toUInt32 31)).toInt32) :: r) μ)) : SS G M pc ls st μ Φ := by
  obtain ⟨x, y, e1, e2, r, rfl, h⟩ := p2_c h
  exact SS_go (fun p e s m args below meth c cells slots Q E H locs L hL k => lv_iushr E.1 E.2.1 hd rfl k) (fun _ h => vld_cons (by exact rfl) (vld_tl (vld_tl h))) (N _ _ _ _ h)
theorem s_idiv (hd : decode (mc M) pc = .ok (.idiv, 1)) (N : ∀ pc1 ls1 st1 μ1, nx pc1 ls1 st1 μ1 → SS G M pc1 ls1 st1 μ1 Φ) (h : p2 st (fun x y r => ¬ y = 0 ∧ nx (pc + 1) ls (vi (x / y) :: r) μ)) : SS G M pc ls st μ Φ := by
  obtain ⟨x, y, e1, e2, r, rfl, hne, h⟩ := p2_c h
  exact SS_go (fun p e s m args below meth c cells slots Q E H locs L hL k => lv_idiv E.1 E.2.1 hd hne k) (fun _ h => vld_cons (by exact rfl) (vld_tl (vld_tl h))) (N _ _ _ _ h)
theorem s_ladd (hd : decode (mc M) pc = .ok (.ladd, 1)) (N : ∀ pc1 ls1 st1 μ1, nx pc1 ls1 st1 μ1 → SS G M pc1 ls1 st1 μ1 Φ) (h : q2 st (fun x y r => nx (pc + 1) ls (vl (x + y) :: r) μ)) : SS G M pc ls st μ Φ := by
  obtain ⟨x, y, e1, e2, r, rfl, h⟩ := q2_c h
  exact SS_go (fun p e s m args below meth c cells slots Q E H locs L hL k => lv_ladd E.1 E.2.1 hd k) (fun _ h => vld_cons (by exact rfl) (vld_tl (vld_tl h))) (N _ _ _ _ h)
theorem s_lmul (hd : decode (mc M) pc = .ok (.lmul, 1)) (N : ∀ pc1 ls1 st1 μ1, nx pc1 ls1 st1 μ1 → SS G M pc1 ls1 st1 μ1 Φ) (h : q2 st (fun x y r => nx (pc + 1) ls (vl (x * y) :: r) μ)) : SS G M pc ls st μ Φ := by
  obtain ⟨x, y, e1, e2, r, rfl, h⟩ := q2_c h
  exact SS_go (fun p e s m args below meth c cells slots Q E H locs L hL k => lv_lmul E.1 E.2.1 hd k) (fun _ h => vld_cons (by exact rfl) (vld_tl (vld_tl h))) (N _ _ _ _ h)
theorem s_ldiv (hd : decode (mc M) pc = .ok (.ldiv, 1)) (N : ∀ pc1 ls1 st1 μ1, nx pc1 ls1 st1 μ1 → SS G M pc1 ls1 st1 μ1 Φ) (h : q2 st (fun x y r => ¬ y = 0 ∧ nx (pc + 1) ls (vl (x / y) :: r) μ)) : SS G M pc ls st μ Φ := by
  obtain ⟨x, y, e1, e2, r, rfl, hne, h⟩ := q2_c h
  exact SS_go (fun p e s m args below meth c cells slots Q E H locs L hL k => lv_ldiv E.1 E.2.1 hd hne k) (fun _ h => vld_cons (by exact rfl) (vld_tl (vld_tl h))) (N _ _ _ _ h)
theorem s_lrem (hd : decode (mc M) pc = .ok (.lrem, 1)) (N : ∀ pc1 ls1 st1 μ1, nx pc1 ls1 st1 μ1 → SS G M pc1 ls1 st1 μ1 Φ) (h : q2 st (fun x y r => ¬ y = 0 ∧ nx (pc + 1) ls (vl (x - x / y * y) :: r) μ)) : SS G M pc ls st μ Φ := by
  obtain ⟨x, y, e1, e2, r, rfl, hne, h⟩ := q2_c h
  exact SS_go (fun p e s m args below meth c cells slots Q E H locs L hL k => lv_lrem E.1 E.2.1 hd hne k) (fun _ h => vld_cons (by exact rfl) (vld_tl (vld_tl h))) (N _ _ _ _ h)
theorem s_lneg (hd : decode (mc M) pc = .ok (.lneg, 1)) (N : ∀ pc1 ls1 st1 μ1, nx pc1 ls1 st1 μ1 → SS G M pc1 ls1 st1 μ1 Φ) (h : q1 st (fun x r => nx (pc + 1) ls (vl (-x) :: r) μ)) : SS G M pc ls st μ Φ := by
  obtain ⟨x, e1, r, rfl, h⟩ := q1_c h
  exact SS_go (fun p e s m args below meth c cells slots Q E H locs L hL k => lv_lneg E.1 E.2.1 hd k) (fun _ h => vld_cons (by exact rfl) (vld_tl h)) (N _ _ _ _ h)
theorem s_lcmp (hd : decode (mc M) pc = .ok (.lcmp, 1)) (N : ∀ pc1 ls1 st1 μ1, nx pc1 ls1 st1 μ1 → SS G M pc1 ls1 st1 μ1 Φ) (h : q2 st (fun x y r => nx (pc + 1) ls (vi (lg_cmp x y) :: r) μ)) : SS G M pc ls st μ Φ := by
  obtain ⟨x, y, e1, e2, r, rfl, h⟩ := q2_c h
  exact SS_go (fun p e s m args below meth c cells slots Q E H locs L hL k => W.lcmp E.1 E.2.1 hd k) (fun _ h => vld_cons (by exact rfl) (vld_tl (vld_tl h))) (N _ _ _ _ h)
theorem s_i2l (hd : decode (mc M) pc = .ok (.i2l, 1)) (N : ∀ pc1 ls1 st1 μ1, nx pc1 ls1 st1 μ1 → SS G M pc1 ls1 st1 μ1 Φ) (h : p1 st (fun x r => nx (pc + 1) ls (vl x.toInt64 :: r) μ)) : SS G M pc ls st μ Φ := by
  obtain ⟨x, e1, r, rfl, h⟩ := p1_c h
  exact SS_go (fun p e s m args below meth c cells slots Q E H locs L hL k => lv_i2l E.1 E.2.1 hd rfl k) (fun _ h => vld_cons (by exact rfl) (vld_tl h)) (N _ _ _ _ h)
theorem s_l2i (hd : decode (mc M) pc = .ok (.l2i, 1)) (N : ∀ pc1 ls1 st1 μ1, nx pc1 ls1 st1 μ1 → SS G M pc1 ls1 st1 μ1 Φ) (h : q1 st (fun x r => nx (pc + 1) ls (vi x.toInt32 :: r) μ)) : SS G M pc ls st μ Φ := by
  obtain ⟨x, e1, r, rfl, h⟩ := q1_c h
  exact SS_go (fun p e s m args below meth c cells slots Q E H locs L hL k => lv_l2i E.1 E.2.1 hd rfl k) (fun _ h => vld_cons (by exact rfl) (vld_tl h)) (N _ _ _ _ h)
theorem s_i2b (hd : decode (mc M) pc = .ok (.i2b, 1)) (N : ∀ pc1 ls1 st1 μ1, nx pc1 ls1 st1 μ1 → SS G M pc1 ls1 st1 μ1 Φ) (h : p1 st (fun x r => nx (pc + 1) ls (vi x.toInt8.toInt32 :: r) μ)) : SS G M pc ls st μ Φ := by
  obtain ⟨x, e1, r, rfl, h⟩ := p1_c h
  exact SS_go (fun p e s m args below meth c cells slots Q E H locs L hL k => lv_i2b E.1 E.2.1 hd rfl k) (fun _ h => vld_cons (by exact rfl) (vld_tl h)) (N _ _ _ _ h)
theorem s_iconst {n : Int} {c : Int32} (hd : decode (mc M) pc = .ok (.iconst n, 1)) (hc : Int32.ofInt n = c) (N : ∀ pc1 ls1 st1 μ1, nx pc1 ls1 st1 μ1 → SS G M pc1 ls1 st1 μ1 Φ) (h : nx (pc + 1) ls (vi c :: st) μ) : SS G M pc ls st μ Φ := by
  exact SS_go (fun p e s m args below meth cc cells slots Q E H locs L hL k => lv_iconst E.1 E.2.1 hd hc k) (fun _ h => vld_cons (by exact rfl) h) (N _ _ _ _ h)
theorem s_bipush {n : Int} {c : Int32} (hd : decode (mc M) pc = .ok (.bipush n, 2)) (hc : (Int8.ofInt n).toInt32 = c) (N : ∀ pc1 ls1 st1 μ1, nx pc1 ls1 st1 μ1 → SS G M pc1 ls1 st1 μ1 Φ) (h : nx (pc + 2) ls (vi c :: st) μ) : SS G M pc ls st μ Φ := by
  exact SS_go (fun p e s m args below meth cc cells slots Q E H locs L hL k => lv_bipush E.1 E.2.1 hd hc k) (fun _ h => vld_cons (by exact rfl) h) (N _ _ _ _ h)
theorem s_sipush {n : Int} {c : Int32} (hd : decode (mc M) pc = .ok (.sipush n, 3)) (hc : (Int16.ofInt n).toInt32 = c) (N : ∀ pc1 ls1 st1 μ1, nx pc1 ls1 st1 μ1 → SS G M pc1 ls1 st1 μ1 Φ) (h : nx (pc + 3) ls (vi c :: st) μ) : SS G M pc ls st μ Φ := by
  exact SS_go (fun p e s m args below meth cc cells slots Q E H locs L hL k => lv_sipush E.1 E.2.1 hd hc k) (fun _ h => vld_cons (by exact rfl) h) (N _ _ _ _ h)
theorem s_lconst {n : Fin 2} {d : Int64} (hd : decode (mc M) pc = .ok (.lconst n, 1)) (hc : Int64.ofNat (n : Nat) = d) (N : ∀ pc1 ls1 st1 μ1, nx pc1 ls1 st1 μ1 → SS G M pc1 ls1 st1 μ1 Φ) (h : nx (pc + 1) ls (vl d :: st) μ) : SS G M pc ls st μ Φ := by
  exact SS_go (fun p e s m args below meth cc cells slots Q E H locs L hL k => lv_lconst E.1 E.2.1 hd hc k) (fun _ h => vld_cons (by exact rfl) h) (N _ _ _ _ h)
theorem s_ldc {i : Nat} {c : Int32} (hd : decode (mc M) pc = .ok (.ldc i, 2)) (hc : Cond.constant (my M).cls i c ∈ lw_g) (N : ∀ pc1 ls1 st1 μ1, nx pc1 ls1 st1 μ1 → SS G M pc1 ls1 st1 μ1 Φ) (h : nx (pc + 2) ls (vi c :: st) μ) : SS G M pc ls st μ Φ := by
  exact SS_go (fun p e s m args below meth cc cells slots Q E H locs L hL k => lv_ldc E.1 E.2.1 E.2.2.2.2.2.1 (E.2.2.2.2.2.2.1 _ hc) hd k) (fun _ h => vld_cons (by exact rfl) h) (N _ _ _ _ h)
theorem s_ldc_w {i : Nat} {c : Int32} (hd : decode (mc M) pc = .ok (.ldc_w i, 3)) (hc : Cond.constant (my M).cls i c ∈ lw_g) (N : ∀ pc1 ls1 st1 μ1, nx pc1 ls1 st1 μ1 → SS G M pc1 ls1 st1 μ1 Φ) (h : nx (pc + 3) ls (vi c :: st) μ) : SS G M pc ls st μ Φ := by
  exact SS_go (fun p e s m args below meth cc cells slots Q E H locs L hL k => lv_ldcw E.1 E.2.1 E.2.2.2.2.2.1 (E.2.2.2.2.2.2.1 _ hc) hd k) (fun _ h => vld_cons (by exact rfl) h) (N _ _ _ _ h)
theorem s_ldc2_w {i : Nat} {c : Int64} (hd : decode (mc M) pc = .ok (.ldc2_w i, 3)) (hc : Cond.constantLong (my M).cls i c ∈ lw_g) (N : ∀ pc1 ls1 st1 μ1, nx pc1 ls1 st1 μ1 → SS G M pc1 ls1 st1 μ1 Φ) (h : nx (pc + 3) ls (vl c :: st) μ) : SS G M pc ls st μ Φ := by
  exact SS_go (fun p e s m args below meth cc cells slots Q E H locs L hL k => lv_ldc2 E.1 E.2.1 E.2.2.2.2.2.1 (E.2.2.2.2.2.2.1 _ hc) hd k) (fun _ h => vld_cons (by exact rfl) h) (N _ _ _ _ h)
theorem s_iload_n {k : Fin 4} {x : Int32} {e0 : Nat} (hd : decode (mc M) pc = .ok (.iload_n k, 1)) (hx : lget ls k.val = (.int x, e0)) (N : ∀ pc1 ls1 st1 μ1, nx pc1 ls1 st1 μ1 → SS G M pc1 ls1 st1 μ1 Φ) (h : nx (pc + 1) ls (vi x :: st) μ) : SS G M pc ls st μ Φ := by
  exact SS_go (fun p e s m args below meth c cells slots Q E H locs L hL k => lv_iload_n E.1 E.2.1 hd rfl (lR_get hL hx (fun q h => by cases h)) k) (fun _ h => vld_cons (by exact rfl) h) (N _ _ _ _ h)
theorem s_iload {k : Nat} {x : Int32} {e0 : Nat} (hd : decode (mc M) pc = .ok (.iload k, 2)) (hx : lget ls k = (.int x, e0)) (N : ∀ pc1 ls1 st1 μ1, nx pc1 ls1 st1 μ1 → SS G M pc1 ls1 st1 μ1 Φ) (h : nx (pc + 2) ls (vi x :: st) μ) : SS G M pc ls st μ Φ := by
  exact SS_go (fun p e s m args below meth c cells slots Q E H locs L hL k => lv_iload E.1 E.2.1 hd (lR_get hL hx (fun q h => by cases h)) k) (fun _ h => vld_cons (by exact rfl) h) (N _ _ _ _ h)
theorem s_lload_n {k : Fin 4} {x : Int64} {e0 : Nat} (hd : decode (mc M) pc = .ok (.lload_n k, 1)) (hx : lget ls k.val = (.long x, e0)) (N : ∀ pc1 ls1 st1 μ1, nx pc1 ls1 st1 μ1 → SS G M pc1 ls1 st1 μ1 Φ) (h : nx (pc + 1) ls (vl x :: st) μ) : SS G M pc ls st μ Φ := by
  exact SS_go (fun p e s m args below meth c cells slots Q E H locs L hL k => lv_lload_n E.1 E.2.1 hd rfl (lR_get hL hx (fun q h => by cases h)) k) (fun _ h => vld_cons (by exact rfl) h) (N _ _ _ _ h)
theorem s_lload {k : Nat} {x : Int64} {e0 : Nat} (hd : decode (mc M) pc = .ok (.lload k, 2)) (hx : lget ls k = (.long x, e0)) (N : ∀ pc1 ls1 st1 μ1, nx pc1 ls1 st1 μ1 → SS G M pc1 ls1 st1 μ1 Φ) (h : nx (pc + 2) ls (vl x :: st) μ) : SS G M pc ls st μ Φ := by
  exact SS_go (fun p e s m args below meth c cells slots Q E H locs L hL k => lv_lload E.1 E.2.1 hd (lR_get hL hx (fun q h => by cases h)) k) (fun _ h => vld_cons (by exact rfl) h) (N _ _ _ _ h)
theorem s_aload_n {k : Fin 4} {x i : Nat} (hd : decode (mc M) pc = .ok (.aload_n k, 1)) (hx : lget ls k.val = (.ref x, i)) (N : ∀ pc1 ls1 st1 μ1, nx pc1 ls1 st1 μ1 → SS G M pc1 ls1 st1 μ1 Φ) (h : nx (pc + 1) ls (vr x i :: st) μ) : SS G M pc ls st μ Φ := by
  exact SS_go (fun p e s m args below meth c cells slots Q E H locs L hL k => lv_aload_n E.1 E.2.1 hd rfl (lR_get hL hx (fun q h => by cases h)) k) (fun h0 h => vld_cons (lR_vok h0 hx (fun q h => by cases h)) h) (N _ _ _ _ h)
theorem s_aload {k x i : Nat} (hd : decode (mc M) pc = .ok (.aload k, 2)) (hx : lget ls k = (.ref x, i)) (N : ∀ pc1 ls1 st1 μ1, nx pc1 ls1 st1 μ1 → SS G M pc1 ls1 st1 μ1 Φ) (h : nx (pc + 2) ls (vr x i :: st) μ) : SS G M pc ls st μ Φ := by
  exact SS_go (fun p e s m args below meth c cells slots Q E H locs L hL k => lv_aload E.1 E.2.1 hd (lR_get hL hx (fun q h => by cases h)) k) (fun h0 h => vld_cons (lR_vok h0 hx (fun q h => by cases h)) h) (N _ _ _ _ h)
theorem s_istore_n {k : Fin 4} (hd : decode (mc M) pc = .ok (.istore_n k, 1)) (N : ∀ pc1 ls1 st1 μ1, nx pc1 ls1 st1 μ1 → SS G M pc1 ls1 st1 μ1 Φ) (h : p1 st (fun x r => bq (Nat.blt (k.val) (mL M)) (nx (pc + 1) (st1 ls k.val (vi x)) r μ))) : SS G M pc ls st μ Φ := by
  obtain ⟨x, e1, r, rfl, h⟩ := p1_c h
  obtain ⟨hlt, h⟩ := bq_c h
  have hlt : k.val < mL M := Nat.le_of_ble_eq_true hlt
  intro p e s m args below meth c cells slots Q E R H locs L hH hS hL hl hst
  refine lv_istore_n E.1 E.2.1 hd rfl hL hlt rfl (fun L1 hL1 => ?_)
  exact N _ _ _ _ h p e s m args below meth c cells slots Q E R H locs L1 hH hS (lR_st1 (v := vi x) hL1) (vld_st1 hl (by exact rfl)) (vld_tl hst)
theorem s_istore {k : Nat} (hd : decode (mc M) pc = .ok (.istore k, 2)) (N : ∀ pc1 ls1 st1 μ1, nx pc1 ls1 st1 μ1 → SS G M pc1 ls1 st1 μ1 Φ) (h : p1 st (fun x r => bq (Nat.blt (k) (mL M)) (nx (pc + 2) (st1 ls k (vi x)) r μ))) : SS G M pc ls st μ Φ := by
  obtain ⟨x, e1, r, rfl, h⟩ := p1_c h
  obtain ⟨hlt, h⟩ := bq_c h
  have hlt : k < mL M := Nat.le_of_ble_eq_true hlt
  intro p e s m args below meth c cells slots Q E R H locs L hH hS hL hl hst
  refine lv_istore E.1 E.2.1 hd hL hlt rfl (fun L1 hL1 => ?_)
  exact N _ _ _ _ h p e s m args below meth c cells slots Q E R H locs L1 hH hS (lR_st1 (v := vi x) hL1) (vld_st1 hl (by exact rfl)) (vld_tl hst)
theorem s_lstore_n {k : Fin 4} (hd : decode (mc M) pc = .ok (.lstore_n k, 1)) (N : ∀ pc1 ls1 st1 μ1, nx pc1 ls1 st1 μ1 → SS G M pc1 ls1 st1 μ1 Φ) (h : q1 st (fun x r => bq (Nat.blt (k.val + 1) (mL M)) (nx (pc + 1) (st2 ls k.val (vl x)) r μ))) : SS G M pc ls st μ Φ := by
  obtain ⟨x, e1, r, rfl, h⟩ := q1_c h
  obtain ⟨hlt, h⟩ := bq_c h
  have hlt : k.val + 1 < mL M := Nat.le_of_ble_eq_true hlt
  intro p e s m args below meth c cells slots Q E R H locs L hH hS hL hl hst
  refine lv_lstore_n E.1 E.2.1 hd rfl hL hlt rfl (fun L1 hL1 => ?_)
  exact N _ _ _ _ h p e s m args below meth c cells slots Q E R H locs L1 hH hS (lR_st2 (v := vl x) hL1) (vld_st2 hl (by exact rfl)) (vld_tl hst)
theorem s_lstore {k : Nat} (hd : decode (mc M) pc = .ok (.lstore k, 2)) (N : ∀ pc1 ls1 st1 μ1, nx pc1 ls1 st1 μ1 → SS G M pc1 ls1 st1 μ1 Φ) (h : q1 st (fun x r => bq (Nat.blt (k + 1) (mL M)) (nx (pc + 2) (st2 ls k (vl x)) r μ))) : SS G M pc ls st μ Φ := by
  obtain ⟨x, e1, r, rfl, h⟩ := q1_c h
  obtain ⟨hlt, h⟩ := bq_c h
  have hlt : k + 1 < mL M := Nat.le_of_ble_eq_true hlt
  intro p e s m args below meth c cells slots Q E R H locs L hH hS hL hl hst
  refine lv_lstore E.1 E.2.1 hd hL hlt rfl (fun L1 hL1 => ?_)
  exact N _ _ _ _ h p e s m args below meth c cells slots Q E R H locs L1 hH hS (lR_st2 (v := vl x) hL1) (vld_st2 hl (by exact rfl)) (vld_tl hst)
theorem s_astore_n {k : Fin 4} (hd : decode (mc M) pc = .ok (.astore_n k, 1)) (N : ∀ pc1 ls1 st1 μ1, nx pc1 ls1 st1 μ1 → SS G M pc1 ls1 st1 μ1 Φ) (h : pr st (fun x i r => bq (Nat.blt (k.val) (mL M)) (nx (pc + 1) (st1 ls k.val (vr x i)) r μ))) : SS G M pc ls st μ Φ := by
  obtain ⟨x, i, r, rfl, h⟩ := pr_c h
  obtain ⟨hlt, h⟩ := bq_c h
  have hlt : k.val < mL M := Nat.le_of_ble_eq_true hlt
  intro p e s m args below meth c cells slots Q E R H locs L hH hS hL hl hst
  refine lv_astore_n E.1 E.2.1 hd rfl hL hlt rfl (fun L1 hL1 => ?_)
  exact N _ _ _ _ h p e s m args below meth c cells slots Q E R H locs L1 hH hS (lR_st1 (v := vr x i) hL1) (vld_st1 hl (vld_hd hst)) (vld_tl hst)
theorem s_astore {k : Nat} (hd : decode (mc M) pc = .ok (.astore k, 2)) (N : ∀ pc1 ls1 st1 μ1, nx pc1 ls1 st1 μ1 → SS G M pc1 ls1 st1 μ1 Φ) (h : pr st (fun x i r => bq (Nat.blt (k) (mL M)) (nx (pc + 2) (st1 ls k (vr x i)) r μ))) : SS G M pc ls st μ Φ := by
  obtain ⟨x, i, r, rfl, h⟩ := pr_c h
  obtain ⟨hlt, h⟩ := bq_c h
  have hlt : k < mL M := Nat.le_of_ble_eq_true hlt
  intro p e s m args below meth c cells slots Q E R H locs L hH hS hL hl hst
  refine lv_astore E.1 E.2.1 hd hL hlt rfl (fun L1 hL1 => ?_)
  exact N _ _ _ _ h p e s m args below meth c cells slots Q E R H locs L1 hH hS (lR_st1 (v := vr x i) hL1) (vld_st1 hl (vld_hd hst)) (vld_tl hst)
theorem s_iinc {k : Nat} {n : Int} {x c0 : Int32} {e0 : Nat} (hd : decode (mc M) pc = .ok (.iinc k n, 3)) (hc : Int32.ofInt n = c0) (hx : lget ls k = (.int x, e0)) (N : ∀ pc1 ls1 st1 μ1, nx pc1 ls1 st1 μ1 → SS G M pc1 ls1 st1 μ1 Φ) (h : bq (Nat.blt k (mL M)) (nx (pc + 3) (st1 ls k (vi (x + c0))) st μ)) : SS G M pc ls st μ Φ := by
  obtain ⟨hlt, h⟩ := bq_c h
  have hlt : k < mL M := Nat.le_of_ble_eq_true hlt
  intro p e s m args below meth c cells slots Q E R H locs L hH hS hL hl hst
  obtain ⟨j, hj⟩ := List.getElem?_of_mem ((lp_mem G ls 0 k (.int x)).mpr ⟨(.int x, e0), Nat.zero_le k, by rw [Nat.sub_zero]; exact lget_some ls k _ hx (fun q h => by cases h), (fun q h => by cases h), rfl⟩)
  refine lv_iinc (v := x + c0) E.1 E.2.1 hd hL hj (by rw [hc]) hlt rfl (fun L1 hL1 => ?_)
  exact N _ _ _ _ h p e s m args below meth c cells slots Q E R H locs L1 hH hS (lR_st1 (v := vi (x + c0)) hL1) (vld_st1 hl (by exact rfl)) hst
theorem vcat_1 {v : Vl} (h : Nat.beq (vcat v) 1 = true) : v.1.category = 1 := by
  obtain ⟨a, b⟩ := v
  cases a <;> first | rfl | simp [vcat] at h
theorem s_dup (hd : decode (mc M) pc = .ok (.dup, 1)) {v : Vl} {r : List Vl} (hst : st = v :: r) (N : ∀ pc1 ls1 st1 μ1, nx pc1 ls1 st1 μ1 → SS G M pc1 ls1 st1 μ1 Φ) (h : bq (Nat.beq (vcat v) 1) (nx (pc + 1) ls (v :: v :: r) μ)) : SS G M pc ls st μ Φ := by
  subst hst
  obtain ⟨hc, h⟩ := bq_c h
  exact SS_go (fun p e s m args below meth c cells slots Q E H locs L hL k => lv_dup E.1 E.2.1 hd (by rw [mv_cat]; exact vcat_1 hc) k) (fun _ h => vld_cons (vld_hd h) h) (N _ _ _ _ h)
theorem s_pop (hd : decode (mc M) pc = .ok (.pop, 1)) {v : Vl} {r : List Vl} (hst : st = v :: r) (N : ∀ pc1 ls1 st1 μ1, nx pc1 ls1 st1 μ1 → SS G M pc1 ls1 st1 μ1 Φ) (h : bq (Nat.beq (vcat v) 1) (nx (pc + 1) ls r μ)) : SS G M pc ls st μ Φ := by
  subst hst
  obtain ⟨hc, h⟩ := bq_c h
  exact SS_go (fun p e s m args below meth c cells slots Q E H locs L hL k => lv_pop E.1 E.2.1 hd (by rw [mv_cat]; exact vcat_1 hc) k) (fun _ h => vld_tl h) (N _ _ _ _ h)
theorem s_dup2 (hd : decode (mc M) pc = .ok (.dup2, 1)) {v w : Vl} {r : List Vl} (hst : st = v :: w :: r) (N : ∀ pc1 ls1 st1 μ1, nx pc1 ls1 st1 μ1 → SS G M pc1 ls1 st1 μ1 Φ) (h : bq (Nat.beq (vcat v) 1 && Nat.beq (vcat w) 1) (nx (pc + 1) ls (v :: w :: v :: w :: r) μ)) : SS G M pc ls st μ Φ := by
  subst hst
  obtain ⟨hc, h⟩ := bq_c h
  rw [Bool.and_eq_true] at hc
  exact SS_go (fun p e s m args below meth c cells slots Q E H locs L hL k => lv_dup2_11 E.1 E.2.1 hd (by rw [mv_cat]; exact vcat_1 hc.1) (by rw [mv_cat]; exact vcat_1 hc.2) k) (fun _ h => vld_cons (vld_hd h) (vld_cons (vld_hd (vld_tl h)) h)) (N _ _ _ _ h)
theorem SS_br {cnd : Prop} [Decidable cnd] {pcT pcF : Nat} (hgo : ∀ (p : Program) (e : Env) (s : State) (m : MethodId) (args : Array Value) (below : List Frame) (meth : Method) (c : Code) (cells slots : Nat) (Q : State → Prop), Ev G M p s m args meth c cells slots → ∀ (H : Heap) (locs : List Loc) (L : Array Slot), lR G L (mL M) ls → (cnd → W p (gl G) e (mR M) s m args below meth c H locs cells slots Q (F0 m pcT L (st'.map (mv G)))) → (¬ cnd → W p (gl G) e (mR M) s m args below meth c H locs cells slots Q (F0 m pcF L (st'.map (mv G)))) → W p (gl G) e (mR M) s m args below meth c H locs cells slots Q (F0 m pc L (st.map (mv G))))
    (hv : vld ls → vld st → vld st') (N : ∀ pc1 ls1 st1 μ1, nx pc1 ls1 st1 μ1 → SS G M pc1 ls1 st1 μ1 Φ) (h : if cnd then nx pcT ls st' μ else nx pcF ls st' μ) : SS G M pc ls st μ Φ := by
  intro p e s m args below meth c cells slots Q E R H locs L hH hS hL hl hst
  refine hgo p e s m args below meth c cells slots Q E H locs L hL (fun hc => ?_) (fun hc => ?_)
  · rw [if_pos hc] at h
    exact N _ _ _ _ h p e s m args below meth c cells slots Q E R H locs L hH hS hL hl (hv hl hst)
  · rw [if_neg hc] at h
    exact N _ _ _ _ h p e s m args below meth c cells slots Q E R H locs L hH hS hL hl (hv hl hst)
theorem s_if_eq {off : Int} {a : Nat} (hd : decode (mc M) pc = .ok (.ifCond .eq off, 3)) (ht : (pc : Int) + off = (a : Int)) (N : ∀ pc1 ls1 st1 μ1, nx pc1 ls1 st1 μ1 → SS G M pc1 ls1 st1 μ1 Φ) (h : p1 st (fun x r => if x = 0 then nx a ls r μ else nx (pc + 3) ls r μ)) : SS G M pc ls st μ Φ := by
  obtain ⟨x, e1, r, rfl, h⟩ := p1_c h
  exact SS_br (fun p e s m args below meth c cells slots Q E H locs L hL kt kf => lv_if_eq E.1 E.2.1 hd ht kt kf) (fun _ h => vld_tl h) N h
theorem s_if_ne {off : Int} {a : Nat} (hd : decode (mc M) pc = .ok (.ifCond .ne off, 3)) (ht : (pc : Int) + off = (a : Int)) (N : ∀ pc1 ls1 st1 μ1, nx pc1 ls1 st1 μ1 → SS G M pc1 ls1 st1 μ1 Φ) (h : p1 st (fun x r => if x = 0 then nx (pc + 3) ls r μ else nx a ls r μ)) : SS G M pc ls st μ Φ := by
  obtain ⟨x, e1, r, rfl, h⟩ := p1_c h
  exact SS_br (cnd := x = 0) (fun p e s m args below meth c cells slots Q E H locs L hL kt kf => lv_if_ne E.1 E.2.1 hd ht kf kt) (fun _ h => vld_tl h) N h
theorem s_if_lt {off : Int} {a : Nat} (hd : decode (mc M) pc = .ok (.ifCond .lt off, 3)) (ht : (pc : Int) + off = (a : Int)) (N : ∀ pc1 ls1 st1 μ1, nx pc1 ls1 st1 μ1 → SS G M pc1 ls1 st1 μ1 Φ) (h : p1 st (fun x r => if x < 0 then nx a ls r μ else nx (pc + 3) ls r μ)) : SS G M pc ls st μ Φ := by
  obtain ⟨x, e1, r, rfl, h⟩ := p1_c h
  exact SS_br (fun p e s m args below meth c cells slots Q E H locs L hL kt kf => lv_if_lt E.1 E.2.1 hd ht kt kf) (fun _ h => vld_tl h) N h
theorem s_if_ge {off : Int} {a : Nat} (hd : decode (mc M) pc = .ok (.ifCond .ge off, 3)) (ht : (pc : Int) + off = (a : Int)) (N : ∀ pc1 ls1 st1 μ1, nx pc1 ls1 st1 μ1 → SS G M pc1 ls1 st1 μ1 Φ) (h : p1 st (fun x r => if 0 ≤ x then nx a ls r μ else nx (pc + 3) ls r μ)) : SS G M pc ls st μ Φ := by
  obtain ⟨x, e1, r, rfl, h⟩ := p1_c h
  exact SS_br (fun p e s m args below meth c cells slots Q E H locs L hL kt kf => lv_if_ge E.1 E.2.1 hd ht kt kf) (fun _ h => vld_tl h) N h
theorem s_if_gt {off : Int} {a : Nat} (hd : decode (mc M) pc = .ok (.ifCond .gt off, 3)) (ht : (pc : Int) + off = (a : Int)) (N : ∀ pc1 ls1 st1 μ1, nx pc1 ls1 st1 μ1 → SS G M pc1 ls1 st1 μ1 Φ) (h : p1 st (fun x r => if 0 < x then nx a ls r μ else nx (pc + 3) ls r μ)) : SS G M pc ls st μ Φ := by
  obtain ⟨x, e1, r, rfl, h⟩ := p1_c h
  exact SS_br (fun p e s m args below meth c cells slots Q E H locs L hL kt kf => lv_if_gt E.1 E.2.1 hd ht kt kf) (fun _ h => vld_tl h) N h
theorem s_if_le {off : Int} {a : Nat} (hd : decode (mc M) pc = .ok (.ifCond .le off, 3)) (ht : (pc : Int) + off = (a : Int)) (N : ∀ pc1 ls1 st1 μ1, nx pc1 ls1 st1 μ1 → SS G M pc1 ls1 st1 μ1 Φ) (h : p1 st (fun x r => if x ≤ 0 then nx a ls r μ else nx (pc + 3) ls r μ)) : SS G M pc ls st μ Φ := by
  obtain ⟨x, e1, r, rfl, h⟩ := p1_c h
  exact SS_br (fun p e s m args below meth c cells slots Q E H locs L hL kt kf => lv_if_le E.1 E.2.1 hd ht kt kf) (fun _ h => vld_tl h) N h
theorem s_icmp_eq {off : Int} {a : Nat} (hd : decode (mc M) pc = .ok (.if_icmp .eq off, 3)) (ht : (pc : Int) + off = (a : Int)) (N : ∀ pc1 ls1 st1 μ1, nx pc1 ls1 st1 μ1 → SS G M pc1 ls1 st1 μ1 Φ) (h : p2 st (fun x y r => if x = y then nx a ls r μ else nx (pc + 3) ls r μ)) : SS G M pc ls st μ Φ := by
  obtain ⟨x, y, e1, e2, r, rfl, h⟩ := p2_c h
  exact SS_br (fun p e s m args below meth c cells slots Q E H locs L hL kt kf => lv_icmp_eq E.1 E.2.1 hd ht kt kf) (fun _ h => vld_tl (vld_tl h)) N h
theorem s_icmp_ne {off : Int} {a : Nat} (hd : decode (mc M) pc = .ok (.if_icmp .ne off, 3)) (ht : (pc : Int) + off = (a : Int)) (N : ∀ pc1 ls1 st1 μ1, nx pc1 ls1 st1 μ1 → SS G M pc1 ls1 st1 μ1 Φ) (h : p2 st (fun x y r => if x = y then nx (pc + 3) ls r μ else nx a ls r μ)) : SS G M pc ls st μ Φ := by
  obtain ⟨x, y, e1, e2, r, rfl, h⟩ := p2_c h
  exact SS_br (cnd := x = y) (fun p e s m args below meth c cells slots Q E H locs L hL kt kf => lv_icmp_ne E.1 E.2.1 hd ht kf kt) (fun _ h => vld_tl (vld_tl h)) N h
theorem s_icmp_lt {off : Int} {a : Nat} (hd : decode (mc M) pc = .ok (.if_icmp .lt off, 3)) (ht : (pc : Int) + off = (a : Int)) (N : ∀ pc1 ls1 st1 μ1, nx pc1 ls1 st1 μ1 → SS G M pc1 ls1 st1 μ1 Φ) (h : p2 st (fun x y r => if x < y then nx a ls r μ else nx (pc + 3) ls r μ)) : SS G M pc ls st μ Φ := by
  obtain ⟨x, y, e1, e2, r, rfl, h⟩ := p2_c h
  exact SS_br (fun p e s m args below meth c cells slots Q E H locs L hL kt kf => lv_icmp_lt E.1 E.2.1 hd ht kt kf) (fun _ h => vld_tl (vld_tl h)) N h
theorem s_icmp_ge {off : Int} {a : Nat} (hd : decode (mc M) pc = .ok (.if_icmp .ge off, 3)) (ht : (pc : Int) + off = (a : Int)) (N : ∀ pc1 ls1 st1 μ1, nx pc1 ls1 st1 μ1 → SS G M pc1 ls1 st1 μ1 Φ) (h : p2 st (fun x y r => if y ≤ x then nx a ls r μ else nx (pc + 3) ls r μ)) : SS G M pc ls st μ Φ := by
  obtain ⟨x, y, e1, e2, r, rfl, h⟩ := p2_c h
  exact SS_br (fun p e s m args below meth c cells slots Q E H locs L hL kt kf => lv_icmp_ge E.1 E.2.1 hd ht kt kf) (fun _ h => vld_tl (vld_tl h)) N h
theorem s_icmp_gt {off : Int} {a : Nat} (hd : decode (mc M) pc = .ok (.if_icmp .gt off, 3)) (ht : (pc : Int) + off = (a : Int)) (N : ∀ pc1 ls1 st1 μ1, nx pc1 ls1 st1 μ1 → SS G M pc1 ls1 st1 μ1 Φ) (h : p2 st (fun x y r => if y < x then nx a ls r μ else nx (pc + 3) ls r μ)) : SS G M pc ls st μ Φ := by
  obtain ⟨x, y, e1, e2, r, rfl, h⟩ := p2_c h
  exact SS_br (fun p e s m args below meth c cells slots Q E H locs L hL kt kf => lv_icmp_gt E.1 E.2.1 hd ht kt kf) (fun _ h => vld_tl (vld_tl h)) N h
theorem s_icmp_le {off : Int} {a : Nat} (hd : decode (mc M) pc = .ok (.if_icmp .le off, 3)) (ht : (pc : Int) + off = (a : Int)) (N : ∀ pc1 ls1 st1 μ1, nx pc1 ls1 st1 μ1 → SS G M pc1 ls1 st1 μ1 Φ) (h : p2 st (fun x y r => if x ≤ y then nx a ls r μ else nx (pc + 3) ls r μ)) : SS G M pc ls st μ Φ := by
  obtain ⟨x, y, e1, e2, r, rfl, h⟩ := p2_c h
  exact SS_br (fun p e s m args below meth c cells slots Q E H locs L hL kt kf => lv_icmp_le E.1 E.2.1 hd ht kt kf) (fun _ h => vld_tl (vld_tl h)) N h
theorem s_goto {off : Int} {a : Nat} (hd : decode (mc M) pc = .ok (.goto off, 3)) (ht : (pc : Int) + off = (a : Int)) (N : ∀ pc1 ls1 st1 μ1, nx pc1 ls1 st1 μ1 → SS G M pc1 ls1 st1 μ1 Φ) (h : nx a ls st μ) : SS G M pc ls st μ Φ := by
  exact SS_go (fun p e s m args below meth c cells slots Q E H locs L hL k => lv_goto E.1 E.2.1 hd ht k) (fun _ h => h) (N _ _ _ _ h)
theorem s_ifnullN {off : Int} {a e1 : Nat} {r : List Vl} (hst : st = (.null, e1) :: r) (hd : decode (mc M) pc = .ok (.ifnull off, 3)) (ht : (pc : Int) + off = (a : Int)) (N : ∀ pc1 ls1 st1 μ1, nx pc1 ls1 st1 μ1 → SS G M pc1 ls1 st1 μ1 Φ) (h : nx a ls r μ) : SS G M pc ls st μ Φ := by
  subst hst
  exact SS_go (fun p e s m args below meth c cells slots Q E H locs L hL k => lv_ifnullN E.1 E.2.1 hd ht k) (fun _ h => vld_tl h) (N _ _ _ _ h)
theorem s_ifnullR {off : Int} {x e1 : Nat} {r : List Vl} (hst : st = (.ref x, e1) :: r) (hd : decode (mc M) pc = .ok (.ifnull off, 3)) (N : ∀ pc1 ls1 st1 μ1, nx pc1 ls1 st1 μ1 → SS G M pc1 ls1 st1 μ1 Φ) (h : nx (pc + 3) ls r μ) : SS G M pc ls st μ Φ := by
  subst hst
  exact SS_go (fun p e s m args below meth c cells slots Q E H locs L hL k => lv_ifnull E.1 E.2.1 hd k) (fun _ h => vld_tl h) (N _ _ _ _ h)
end S1
end
section
/-! memory: loads and stores -/
theorem kt_big {k : Nat} (h : 58 ≤ k) : kt k = (9, 0, 0, 0) := by
  unfold kt
  rw [List.getD_eq_getElem?_getD, List.getElem?_eq_none (show kTab.length ≤ k from h)]
  rfl
theorem kt_tag : ∀ k, k < 58 → (ktag k ≤ 5 → k < 52) ∧ (ktag k = 6 → 52 ≤ k ∧ k < 57) ∧ (ktag k = 7 → k = 57) ∧ (ktag k = 0 → k < 9) ∧ (ktag k = 5 → 9 ≤ k ∧ k < 16) := by decide +kernel
theorem tag_lt {k t : Nat} (h : ktag k = t) (ht : t ≤ 5) : k < 52 := by
  by_cases hk : k < 58
  · exact (kt_tag k hk).1 (by rw [h]; exact ht)
  · rw [ktag, kt_big (by omega)] at h
    subst h
    exact absurd ht (by decide)
theorem tag_rom {k : Nat} (h : ktag k = 6) : 52 ≤ k ∧ k < 57 := by
  by_cases hk : k < 58
  · exact (kt_tag k hk).2.1 h
  · rw [ktag, kt_big (by omega)] at h
    cases h
theorem tag_scr {k : Nat} (h : ktag k = 7) : k = 57 := by
  by_cases hk : k < 58
  · exact (kt_tag k hk).2.2.1 h
  · rw [ktag, kt_big (by omega)] at h
    cases h
theorem vok_num {k i : Nat} (h : vok (.ref k, i)) : i < knum k := Nat.le_of_ble_eq_true h
theorem vok_of {k i : Nat} (h : i < knum k) : vok (.ref k, i) := Nat.ble_eq_true_of_le h
theorem obj_tab : ∀ k, k < 52 → ktag k = 0 → vwCl[kcl k]?.map (fun q => q.2.2) = some (klen k) := by decide +kernel
theorem obj_rf : ∀ k, k < 9 → ∀ i, i < knum k → ∀ f, f < klen k → fc (kcl k) f = 2 → vokB (rf k i f) = true := by decide +kernel
theorem arr_rf : ∀ k, k < 16 → ktag k = 5 → ∀ i, i < knum k → ∀ f, f < klen k → vokB (rf k i f) = true := by decide +kernel
theorem arr_cl : ∀ k, k < 52 → (ktag k = 1 → kcl k = 0) ∧ (ktag k = 2 → kcl k = 1) ∧ (ktag k = 3 → kcl k = 2) ∧ (ktag k = 4 → kcl k = 3) ∧ (ktag k = 5 → 4 ≤ kcl k ∧ kcl k < 8) ∧ klen k < 2 ^ 31 := by decide +kernel
theorem cls_in : ∀ (ci : Nat) (q : vw_C), vwCl[ci]? = some q → ∀ w ∈ u_ws q.1 q.2.1 q.2.2, w ∈ lw_g := by
  intro ci q h
  match ci, h with
  | 0, h => cases h; decide +kernel
  | 1, h => cases h; decide +kernel
  | 2, h => cases h; decide +kernel
  | 3, h => cases h; decide +kernel
  | 4, h => cases h; decide +kernel
  | 5, h => cases h; decide +kernel
  | 6, h => cases h; decide +kernel
  | 7, h => cases h; decide +kernel
  | n + 8, h => simp [vwCl] at h
theorem cls_nm : ∀ (ci : Nat) (q : vw_C), vwCl[ci]? = some q → (∀ a, a < q.2.2 → ∀ b, b < q.2.2 → a ≠ b → (q.2.1 a).2.1 ≠ (q.2.1 b).2.1) ∧ ∃ ty : Nat → FieldType, ∀ k, k < q.2.2 → parseFieldDescriptor (q.2.1 k).2.2.1 = some (ty k) := by
  intro ci q h
  match ci, h with
  | 0, h => cases h; exact ⟨nmX0, tyX0, tyX0_ok⟩
  | 1, h => cases h; exact ⟨nmX1, tyX1, tyX1_ok⟩
  | 2, h => cases h; exact ⟨nmX2, tyX2, tyX2_ok⟩
  | 3, h => cases h; exact ⟨nmX3, tyX3, tyX3_ok⟩
  | 4, h => cases h; exact ⟨nmX4, tyX4, tyX4_ok⟩
  | 5, h => cases h; exact ⟨nmX5, tyX5, tyX5_ok⟩
  | 6, h => cases h; exact ⟨nmX6, tyX6, tyX6_ok⟩
  | 7, h => cases h; exact ⟨nmX7, tyX7, tyX7_ok⟩
  | n + 8, h => simp [vwCl] at h
theorem cls_ty : ∀ (ci : Nat) (q : vw_C), vwCl[ci]? = some q → ∀ f, f < q.2.2 → (fc ci f = 0 → (q.2.1 f).2.2.2 = false ∧ parseFieldDescriptor (q.2.1 f).2.2.1 = some .int) ∧ (fc ci f = 1 → (q.2.1 f).2.2.2 = false ∧ parseFieldDescriptor (q.2.1 f).2.2.1 = some .long) ∧ (fc ci f = 3 → (q.2.1 f).2.2.2 = false ∧ parseFieldDescriptor (q.2.1 f).2.2.1 = some (.object "ColdShares$Row") ∧ ci = 2 ∧ f = 1) := by
  intro ci q h
  match ci, h with
  | 0, h => cases h; decide +kernel
  | 1, h => cases h; decide +kernel
  | 2, h => cases h; decide +kernel
  | 3, h => cases h; decide +kernel
  | 4, h => cases h; decide +kernel
  | 5, h => cases h; decide +kernel
  | 6, h => cases h; decide +kernel
  | 7, h => cases h; decide +kernel
  | n + 8, h => simp [vwCl] at h
/-- a link of a field -/
def okF (own : String) (q : Nat × Nat × Nat) : Bool := match vwCl[q.2.1]? with
  | some t => Nat.blt q.2.2 t.2.2 && decide (Cond.fieldLink own q.1 (t.2.1 q.2.2).1 (t.2.1 q.2.2).2.1 (t.2.1 q.2.2).2.2.1 ∈ lw_g)
  | none => false
theorem okF_c {own : String} {idx ci f : Nat} (h : okF own (idx, ci, f) = true) : ∃ C T N, vwCl[ci]? = some (C, T, N) ∧ f < N ∧ Cond.fieldLink own idx (T f).1 (T f).2.1 (T f).2.2.1 ∈ lw_g := by
  unfold okF at h
  dsimp only at h
  split at h
  · rename_i t ht
    rw [Bool.and_eq_true] at h
    exact ⟨t.1, t.2.1, t.2.2, ht, Nat.le_of_ble_eq_true h.1, of_decide_eq_true h.2⟩
  · cases h
theorem cellAt_obj {G : Ge} {μ : Mm} {k i : Nat} {H : Heap} (ht : ktag k = 0) (h : cellAt G μ k i H) : t_OB (gad G k i) (gC G (kcl k)) (klen k) (gI G (kcl k)) H (fun f => sv G μ k i f) := by
  unfold cellAt at h
  rw [ht] at h
  exact h
theorem cellAt_obj' {G : Ge} {μ : Mm} {k i : Nat} {H : Heap} (ht : ktag k = 0) (h : t_OB (gad G k i) (gC G (kcl k)) (klen k) (gI G (kcl k)) H (fun f => sv G μ k i f)) : cellAt G μ k i H := by
  unfold cellAt
  rw [ht]
  exact h
theorem cellAt_arr {G : Ge} {μ : Mm} {k i : Nat} {H : Heap} (ht : ktag k ≠ 0) (h : cellAt G μ k i H) : H[gad G k i]? = some (arrV (gA G (kcl k)) (klen k) (fun j => sv G μ k i j)) := by
  unfold cellAt at h
  split at h
  · rename_i e
    exact absurd e ht
  · exact h
theorem cellAt_arr' {G : Ge} {μ : Mm} {k i : Nat} {H : Heap} (ht : ktag k ≠ 0) (h : H[gad G k i]? = some (arrV (gA G (kcl k)) (klen k) (fun j => sv G μ k i j))) : cellAt G μ k i H := by
  unfold cellAt
  split
  · rename_i e
    exact absurd e ht
  · exact h
theorem cellAt_kept {G : Ge} {μ μ' : Mm} {k i : Nat} {H H' : Heap} (h : cellAt G μ k i H) (hs : ∀ s, sv G μ' k i s = sv G μ k i s) (hq : H'[gad G k i]? = H[gad G k i]?) : cellAt G μ' k i H' := by
  by_cases ht : ktag k = 0
  · refine cellAt_obj' ht ?_
    have := (cellAt_obj ht h).kept hq
    exact this.to (fun f _ => (hs f).symm)
  · refine cellAt_arr' ht ?_
    rw [hq, cellAt_arr ht h]
    congr 2
    funext j
    exact (hs j).symm
theorem sv_same {G : Ge} {μ μ' : Mm} {k i s : Nat} (h1 : μ'.1 k i s = μ.1 k i s) (h2 : μ'.2 k i s = μ.2 k i s) : sv G μ' k i s = sv G μ k i s := by
  unfold sv
  rw [h1, h2]
theorem Hd_put {G : Ge} {μ μ' : Mm} {s : State} {k i : Nat} {H H' : Heap} (hK : Kn G s) (hH : Hd G μ H) (hk : k < 52) (hi : i < knum k) (hc : cellAt G μ' k i H') (ho : ∀ q, q ≠ gad G k i → H'[q]? = H[q]?)
    (hμ : ∀ k' i' s', ¬ (k' = k ∧ i' = i) → μ'.1 k' i' s' = μ.1 k' i' s' ∧ μ'.2 k' i' s' = μ.2 k' i' s') (ht : (μ'.1 2 0 1).toInt ≤ 4) : Hd G μ' H' := by
  refine ⟨fun k' i' hk' hi' => ?_, ht⟩
  by_cases e : k' = k ∧ i' = i
  · obtain ⟨rfl, rfl⟩ := e
    exact hc
  · refine cellAt_kept (hH.1 k' i' hk' hi') (fun s => sv_same (hμ k' i' s e).1 (hμ k' i' s e).2) (ho _ fun q => e ?_)
    exact hK.2.2.1 k' i' k i hk' hi' hk hi q
section S2
variable {G : Ge} {M : MS} {pc pc' len : Nat} {ls st st' : List Vl} {μ : Mm} {Φ : Ph} {nx : Nat → List Vl → List Vl → Mm → Prop}
/-- a field is read -/
theorem SS_get {idx k i f : Nat} {r : List Vl} {v : Vl} (hd : decode (mc M) pc = .ok (.getfield idx, 3)) (ht : ktag k = 0) (hl : okF (my M).cls (idx, kcl k, f) = true) (hv : ∀ H, Hd G μ H → i < knum k → vok v ∧ sv G μ k i f = mv G v) (h : SS G M (pc + 3) ls (v :: r) μ Φ) : SS G M pc ls ((.ref k, i) :: r) μ Φ := by
  intro p e s m args below meth c cells slots Q E R H locs L hH hS hL hl' hst
  obtain ⟨C, T, N, hc, hf, hw⟩ := okF_c hl
  have hi := vok_num (vld_hd hst)
  have hk := tag_lt ht (by decide)
  obtain ⟨cell, q1, q2, q3, q4⟩ := cellAt_obj ht (hH.1 k i hk hi)
  have hN : N = klen k := by
    have := obj_tab k hk ht
    rw [hc] at this
    exact Option.some.inj this
  have hin := cls_in (kcl k) _ hc
  have hts := E.2.2.2.2.2.2.1
  obtain ⟨hSl, hfc, kC, hkC, hkind⟩ := E.2.2.2.2.2.2.2.1.1.1 (kcl k) _ hc
  obtain ⟨cf, kf, fi, fd, hi', hsl⟩ := hSl f hf
  refine W.getf E.1 E.2.1 E.2.2.2.2.2.1 (hts _ hw) hi' (u_facts hfc hkC (u_lays hts hin hf) hi').1 q1 (by rw [q3]; exact fun h => by cases h) (v := mv G v) ?_ rfl rfl hd ?_
  · rw [hsl]
    have h9 : cell.slots[gI G (kcl k) f]? = some (sv G μ k i f) := q4 f (by rw [← hN]; exact hf)
    rw [(hv H hH hi).2] at h9
    exact h9
  · exact h p e s m args below meth c cells slots Q E R H locs L hH hS hL hl' (vld_cons (hv H hH hi).1 (vld_tl hst))
/-- a field is written -/
theorem SS_put {idx k i f : Nat} {r : List Vl} {v : Vl} {μ' : Mm} {ty : FieldType} (hd : decode (mc M) pc = .ok (.putfield idx, 3)) (ht : ktag k = 0) (hl : okF (my M).cls (idx, kcl k, f) = true)
    (hty : ∀ q, vwCl[kcl k]? = some q → f < q.2.2 → (q.2.1 f).2.2.2 = false ∧ parseFieldDescriptor (q.2.1 f).2.2.1 = some ty) (hn : narrow ty (mv G v) = mv G v) (hfit : fits ty (mv G v) = true) (hvc : v.1.category = 1 ∨ True)
    (hsf : vok v → i < knum k → sv G μ' k i f = mv G v) (hso : ∀ g, g ≠ f → sv G μ' k i g = sv G μ k i g) (hμ : ∀ k' i' s', ¬ (k' = k ∧ i' = i) → μ'.1 k' i' s' = μ.1 k' i' s' ∧ μ'.2 k' i' s' = μ.2 k' i' s') (h4 : vok v → (μ.1 2 0 1).toInt ≤ 4 → (μ'.1 2 0 1).toInt ≤ 4)
    (h : SS G M (pc + 3) ls r μ' Φ) : SS G M pc ls (v :: (.ref k, i) :: r) μ Φ := by
  intro p e s m args below meth c cells slots Q E R H locs L hH hS hL hl' hst
  obtain ⟨C, T, N, hc, hf, hw⟩ := okF_c hl
  have hi := vok_num (vld_hd (vld_tl hst))
  have hk := tag_lt ht (by decide)
  obtain ⟨cell, q1, q2, q3, q4⟩ := cellAt_obj ht (hH.1 k i hk hi)
  have hN : N = klen k := by
    have := obj_tab k hk ht
    rw [hc] at this
    exact Option.some.inj this
  have hin := cls_in (kcl k) _ hc
  have hts := E.2.2.2.2.2.2.1
  have hKn := E.2.2.2.2.2.2.2.1
  obtain ⟨hnm, ty0, hty0⟩ := cls_nm (kcl k) _ hc
  have hap := va_apart (own := (my M).cls) hts hin ty0 hty0 hnm hKn.1 hc
  obtain ⟨hSl, hfc, kC, hkC, hkind⟩ := hKn.1.1 (kcl k) _ hc
  obtain ⟨cf, kf, fi, fd, hi', hsl⟩ := hSl f hf
  obtain ⟨hfin, hdsc⟩ := hty _ hc hf
  have hlay := hts _ (hin _ (u_in_lay hf))
  unfold u_lay at hlay
  rw [if_neg (by rw [hfin]; decide)] at hlay
  have hst0 := (u_facts hfc hkC (u_lays hts hin hf) hi').1
  have h6 := u_store hfc hkC hkind hlay hi' hdsc hn hfit
  have hf' : f < klen k := by rw [← hN]; exact hf
  refine W.putK E.1 E.2.1 (f := fd) ⟨E.2.2.2.2.2.1, hts _ hw, ⟨_, _, _, hi'⟩, hst0⟩ (by rw [q2]; exact h6) q1 q3 (by rw [hsl]; exact k2_hasslot (q4 f hf')) rfl rfl hd fun H' e1 e2 e3 => ?_
  have hcell : cellAt G μ' k i H' := by
    refine cellAt_obj' ht ?_
    rw [hsl] at e1
    refine t_OB.to (V := updV (fun f => sv G μ k i f) f (mv G v)) ⟨_, e1, q2, q3, t_set q4 (by rw [← hN]; exact hap) hf' (mv G v)⟩ (fun j hj => ?_)
    by_cases e : j = f
    · subst e
      rw [hsf (vld_hd hst) hi]
      simp [updV]
    · rw [hso j e]
      simp [updV, e]
  exact h p e s m args below meth c cells slots Q E R H' _ L (Hd_put hKn hH hk hi hcell e3 hμ (h4 (vld_hd hst) hH.2)) (hS.put e2 e3 (hKn.2.2.2.1 k i hk hi)) hL hl' (vld_tl (vld_tl hst))
end S2
end
section
/-! arrays, tables, the script -/
theorem wI_ne {μ : Mm} {k i s k' i' s' : Nat} {v : Int32} (h : ¬ (k' = k ∧ i' = i ∧ s' = s)) : (wI μ k i s v).1 k' i' s' = μ.1 k' i' s' := if_neg h
theorem wI_eq {μ : Mm} {k i s : Nat} {v : Int32} : (wI μ k i s v).1 k i s = v := if_pos ⟨rfl, rfl, rfl⟩
theorem wI_2 {μ : Mm} {k i s : Nat} {v : Int32} : (wI μ k i s v).2 = μ.2 := rfl
theorem wL_ne {μ : Mm} {k i s k' i' s' : Nat} {v : Int64} (h : ¬ (k' = k ∧ i' = i ∧ s' = s)) : (wL μ k i s v).2 k' i' s' = μ.2 k' i' s' := if_neg h
theorem wL_eq {μ : Mm} {k i s : Nat} {v : Int64} : (wL μ k i s v).2 k i s = v := if_pos ⟨rfl, rfl, rfl⟩
theorem wL_1 {μ : Mm} {k i s : Nat} {v : Int64} : (wL μ k i s v).1 = μ.1 := rfl
theorem sv_int {G : Ge} {μ : Mm} {k i s : Nat} (ht : ktag k = 1 ∨ ktag k = 3 ∨ ktag k = 4) : sv G μ k i s = .int (μ.1 k i s) := by
  unfold sv
  rcases ht with h | h | h <;> rw [h] <;> rfl
theorem sv_long {G : Ge} {μ : Mm} {k i s : Nat} (ht : ktag k = 2) : sv G μ k i s = .long (μ.2 k i s) := by
  unfold sv
  rw [ht]
  rfl
theorem sv_ref {G : Ge} {μ : Mm} {k i s : Nat} (ht : ktag k = 5) : sv G μ k i s = mv G (rf k i s) := by
  unfold sv
  rw [ht]
  rfl
theorem sv_f0 {G : Ge} {μ : Mm} {k i s : Nat} (ht : ktag k = 0) (hf : fc (kcl k) s = 0) : sv G μ k i s = .int (μ.1 k i s) := by
  simp only [sv, ht, hf]
theorem sv_f1 {G : Ge} {μ : Mm} {k i s : Nat} (ht : ktag k = 0) (hf : fc (kcl k) s = 1) : sv G μ k i s = .long (μ.2 k i s) := by
  simp only [sv, ht, hf]
theorem sv_f2 {G : Ge} {μ : Mm} {k i s : Nat} (ht : ktag k = 0) (hf : fc (kcl k) s = 2) : sv G μ k i s = mv G (rf k i s) := by
  simp only [sv, ht, hf]
theorem sv_f3 {G : Ge} {μ : Mm} {k i s : Nat} (ht : ktag k = 0) (hf : fc (kcl k) s = 3) : sv G μ k i s = if μ.1 k i s = 0 then .null else .ref (gad G 8 ((μ.1 k i s).toNatClampNeg - 1)) := by
  simp only [sv, ht, hf]
theorem wI_oth {μ : Mm} {k i s : Nat} {v : Int32} : ∀ k' i' s', ¬ (k' = k ∧ i' = i) → (wI μ k i s v).1 k' i' s' = μ.1 k' i' s' ∧ (wI μ k i s v).2 k' i' s' = μ.2 k' i' s' := fun _ _ _ h => ⟨wI_ne (fun q => h ⟨q.1, q.2.1⟩), rfl⟩
theorem wL_oth {μ : Mm} {k i s : Nat} {v : Int64} : ∀ k' i' s', ¬ (k' = k ∧ i' = i) → (wL μ k i s v).1 k' i' s' = μ.1 k' i' s' ∧ (wL μ k i s v).2 k' i' s' = μ.2 k' i' s' := fun _ _ _ h => ⟨rfl, wL_ne (fun q => h ⟨q.1, q.2.1⟩)⟩
theorem vp_lt {j : Int32} {n : Nat} (h : vp_in j n) : j.toNatClampNeg < n := Nat.not_le.mp fun q => h (Or.inr q)
theorem aty_ref : ∀ t, t < 8 → 4 ≤ t → (aty t).isReference = true := by decide +kernel
section S3
variable {G : Ge} {M : MS} {pc : Nat} {ls r : List Vl} {μ : Mm} {Φ : Ph} {j : Int32} {e1 e2 k i : Nat}
theorem arr_of {s : State} (hK : Kn G s) (hk : k < 52) (ht : ktag k ≠ 0) (n : Nat) (z : Nat → Value) : s.isArrayOf (arrV (gA G (kcl k)) n z) (aty (kcl k)) := by
  refine hK.2.1 (kcl k) ?_ n z
  revert ht
  have : ∀ k, k < 52 → ktag k ≠ 0 → kcl k < 8 := by decide +kernel
  exact this k hk
theorem SS_iald (hd : decode (mc M) pc = .ok (.iaload, 1)) (ht : ktag k = 1) (hin : vp_in j (klen k)) (h : SS G M (pc + 1) ls (vi (μ.1 k i j.toNatClampNeg) :: r) μ Φ) : SS G M pc ls ((.int j, e1) :: (.ref k, i) :: r) μ Φ := by
  intro p e s m args below meth c cells slots Q E R H locs L hH hS hL hl hst
  have hi := vok_num (vld_hd (vld_tl hst))
  have hk := tag_lt ht (by decide)
  have hc := cellAt_arr (by rw [ht]; decide) (hH.1 k i hk hi)
  have ha := arr_of E.2.2.2.2.2.2.2.1 hk (by rw [ht]; decide) (klen k) (fun j => sv G μ k i j)
  rw [(arr_cl k hk).1 ht] at hc ha
  exact W.iald (v := .int (μ.1 k i j.toNatClampNeg)) E.1 E.2.1 hc ha (fun q => by cases q) (by rw [arrV_size]; exact hin) (by rw [arrV_read _ _ (vp_lt hin), sv_int (Or.inl ht)]) rfl rfl hd (h p e s m args below meth c cells slots Q E R H locs L hH hS hL hl (vld_cons (by exact rfl) (vld_tl (vld_tl hst))))
theorem SS_bald (hd : decode (mc M) pc = .ok (.baload, 1)) (ht : ktag k = 3) (hin : vp_in j (klen k)) (h : SS G M (pc + 1) ls (vi (μ.1 k i j.toNatClampNeg) :: r) μ Φ) : SS G M pc ls ((.int j, e1) :: (.ref k, i) :: r) μ Φ := by
  intro p e s m args below meth c cells slots Q E R H locs L hH hS hL hl hst
  have hi := vok_num (vld_hd (vld_tl hst))
  have hk := tag_lt ht (by decide)
  have hc := cellAt_arr (by rw [ht]; decide) (hH.1 k i hk hi)
  have ha := arr_of E.2.2.2.2.2.2.2.1 hk (by rw [ht]; decide) (klen k) (fun j => sv G μ k i j)
  rw [(arr_cl k hk).2.2.1 ht] at hc ha
  exact W.bald (v := .int (μ.1 k i j.toNatClampNeg)) E.1 E.2.1 hc ha (fun q => by cases q) (by rw [arrV_size]; exact hin) (by rw [arrV_read _ _ (vp_lt hin), sv_int (Or.inr (Or.inl ht))]) rfl rfl hd (h p e s m args below meth c cells slots Q E R H locs L hH hS hL hl (vld_cons (by exact rfl) (vld_tl (vld_tl hst))))
theorem SS_zald (hd : decode (mc M) pc = .ok (.baload, 1)) (ht : ktag k = 4) (hin : vp_in j (klen k)) (h : SS G M (pc + 1) ls (vi (μ.1 k i j.toNatClampNeg) :: r) μ Φ) : SS G M pc ls ((.int j, e1) :: (.ref k, i) :: r) μ Φ := by
  intro p e s m args below meth c cells slots Q E R H locs L hH hS hL hl hst
  have hi := vok_num (vld_hd (vld_tl hst))
  have hk := tag_lt ht (by decide)
  have hc := cellAt_arr (by rw [ht]; decide) (hH.1 k i hk hi)
  have ha := arr_of E.2.2.2.2.2.2.2.1 hk (by rw [ht]; decide) (klen k) (fun j => sv G μ k i j)
  rw [(arr_cl k hk).2.2.2.1 ht] at hc ha
  exact W.zald (v := .int (μ.1 k i j.toNatClampNeg)) E.1 E.2.1 hc ha (fun q => by cases q) (by rw [arrV_size]; exact hin) (by rw [arrV_read _ _ (vp_lt hin), sv_int (Or.inr (Or.inr ht))]) rfl rfl hd (h p e s m args below meth c cells slots Q E R H locs L hH hS hL hl (vld_cons (by exact rfl) (vld_tl (vld_tl hst))))
theorem SS_lald (hd : decode (mc M) pc = .ok (.laload, 1)) (ht : ktag k = 2) (hin : vp_in j (klen k)) (h : SS G M (pc + 1) ls (vl (μ.2 k i j.toNatClampNeg) :: r) μ Φ) : SS G M pc ls ((.int j, e1) :: (.ref k, i) :: r) μ Φ := by
  intro p e s m args below meth c cells slots Q E R H locs L hH hS hL hl hst
  have hi := vok_num (vld_hd (vld_tl hst))
  have hk := tag_lt ht (by decide)
  have hc := cellAt_arr (by rw [ht]; decide) (hH.1 k i hk hi)
  have ha := arr_of E.2.2.2.2.2.2.2.1 hk (by rw [ht]; decide) (klen k) (fun j => sv G μ k i j)
  rw [(arr_cl k hk).2.1 ht] at hc ha
  exact W.lald (v := .long (μ.2 k i j.toNatClampNeg)) E.1 E.2.1 hc ha (fun q => by cases q) (by rw [arrV_size]; exact hin) (by rw [arrV_read _ _ (vp_lt hin), sv_long ht]) rfl rfl hd (h p e s m args below meth c cells slots Q E R H locs L hH hS hL hl (vld_cons (by exact rfl) (vld_tl (vld_tl hst))))
theorem SS_aald (hd : decode (mc M) pc = .ok (.aaload, 1)) (ht : ktag k = 5) (hin : vp_in j (klen k)) (h : SS G M (pc + 1) ls (rf k i j.toNatClampNeg :: r) μ Φ) : SS G M pc ls ((.int j, e1) :: (.ref k, i) :: r) μ Φ := by
  intro p e s m args below meth c cells slots Q E R H locs L hH hS hL hl hst
  have hi := vok_num (vld_hd (vld_tl hst))
  have hk := tag_lt ht (by decide)
  have hc := cellAt_arr (by rw [ht]; decide) (hH.1 k i hk hi)
  have ha := arr_of E.2.2.2.2.2.2.2.1 hk (by rw [ht]; decide) (klen k) (fun j => sv G μ k i j)
  have hk16 : k < 16 := ((kt_tag k (by omega)).2.2.2.2 ht).2
  have h48 := (arr_cl k hk).2.2.2.2.1 ht
  exact W.aald (v := mv G (rf k i j.toNatClampNeg)) E.1 E.2.1 hc ha (aty_ref _ h48.2 h48.1) (fun q => by cases q) (by rw [arrV_size]; exact hin) (by rw [arrV_read _ _ (vp_lt hin), sv_ref ht]) rfl rfl hd (h p e s m args below meth c cells slots Q E R H locs L hH hS hL hl (vld_cons (arr_rf k hk16 ht i hi _ (vp_lt hin)) (vld_tl (vld_tl hst))))
theorem tag_2 {k t : Nat} (h : ktag k = t) (ht : t ≠ 0) : k ≠ 2 := by
  rintro rfl
  exact ht h.symm
theorem store_i {s : State} {H H1 : Heap} {x y : Int32} (hK : Kn G s) (hH : Hd G μ H) (hk : k < 52) (hi : i < knum k) (ht : ktag k = 1 ∨ ktag k = 3 ∨ ktag k = 4) {n : Nat} (e : H1[gad G k i]? = some ((arrV (gA G (kcl k)) (klen k) (fun j => sv G μ k i j)).setSlot n (.int y))) (oq : ∀ q, q ≠ gad G k i → H1[q]? = H[q]?) : Hd G (wI μ k i n y) H1 := by
  have hn0 : ktag k ≠ 0 := by rcases ht with h | h | h <;> rw [h] <;> decide
  refine Hd_put hK hH hk hi (cellAt_arr' hn0 ?_) oq wI_oth ?_
  · rw [e, arrV_store]
    congr 2
    funext q
    rw [sv_int ht]
    by_cases hq : q = n
    · subst hq
      simp [updV, wI]
    · simp [updV, wI, hq, sv_int ht]
  · rw [wI_ne (fun q => tag_2 rfl hn0 q.1.symm)]
    exact hH.2
theorem SS_iast {x : Int32} {e3 : Nat} (hd : decode (mc M) pc = .ok (.iastore, 1)) (ht : ktag k = 1) (hin : vp_in j (klen k)) (h : SS G M (pc + 1) ls r (wI μ k i j.toNatClampNeg x) Φ) : SS G M pc ls ((.int x, e3) :: (.int j, e1) :: (.ref k, i) :: r) μ Φ := by
  intro p e s m args below meth c cells slots Q E R H locs L hH hS hL hl hst
  have hi := vok_num (vld_hd (vld_tl (vld_tl hst)))
  have hk := tag_lt ht (by decide)
  have hK := E.2.2.2.2.2.2.2.1
  have hc := cellAt_arr (by rw [ht]; decide) (hH.1 k i hk hi)
  have ha := arr_of hK hk (by rw [ht]; decide) (klen k) (fun j => sv G μ k i j)
  have hcl := (arr_cl k hk).1 ht
  refine W.iast E.1 E.2.1 hc (by rw [hcl] at ha; rw [hcl]; exact ha) (fun q => by cases q) (by rw [arrV_size]; exact hin) rfl rfl hd fun H1 e z oq => ?_
  exact h p _ s m args below meth c cells slots Q E R H1 _ L (store_i (x := x) hK hH hk hi (Or.inl ht) e oq) (hS.put z oq (hK.2.2.2.1 k i hk hi)) hL hl (vld_tl (vld_tl (vld_tl hst)))
theorem SS_bast {x : Int32} {e3 : Nat} (hd : decode (mc M) pc = .ok (.bastore, 1)) (ht : ktag k = 3) (hin : vp_in j (klen k)) (h : SS G M (pc + 1) ls r (wI μ k i j.toNatClampNeg x.toInt8.toInt32) Φ) : SS G M pc ls ((.int x, e3) :: (.int j, e1) :: (.ref k, i) :: r) μ Φ := by
  intro p e s m args below meth c cells slots Q E R H locs L hH hS hL hl hst
  have hi := vok_num (vld_hd (vld_tl (vld_tl hst)))
  have hk := tag_lt ht (by decide)
  have hK := E.2.2.2.2.2.2.2.1
  have hc := cellAt_arr (by rw [ht]; decide) (hH.1 k i hk hi)
  have ha := arr_of hK hk (by rw [ht]; decide) (klen k) (fun j => sv G μ k i j)
  have hcl := (arr_cl k hk).2.2.1 ht
  refine W.bast E.1 E.2.1 hc (by rw [hcl] at ha; rw [hcl]; exact ha) (fun q => by cases q) (by rw [arrV_size]; exact hin) rfl rfl hd fun H1 e z oq => ?_
  exact h p _ s m args below meth c cells slots Q E R H1 _ L (store_i (x := x) hK hH hk hi (Or.inr (Or.inl ht)) e oq) (hS.put z oq (hK.2.2.2.1 k i hk hi)) hL hl (vld_tl (vld_tl (vld_tl hst)))
theorem SS_zast {x : Int32} {e3 : Nat} (hd : decode (mc M) pc = .ok (.bastore, 1)) (ht : ktag k = 4) (hin : vp_in j (klen k)) (h : SS G M (pc + 1) ls r (wI μ k i j.toNatClampNeg (x &&& 1)) Φ) : SS G M pc ls ((.int x, e3) :: (.int j, e1) :: (.ref k, i) :: r) μ Φ := by
  intro p e s m args below meth c cells slots Q E R H locs L hH hS hL hl hst
  have hi := vok_num (vld_hd (vld_tl (vld_tl hst)))
  have hk := tag_lt ht (by decide)
  have hK := E.2.2.2.2.2.2.2.1
  have hc := cellAt_arr (by rw [ht]; decide) (hH.1 k i hk hi)
  have ha := arr_of hK hk (by rw [ht]; decide) (klen k) (fun j => sv G μ k i j)
  have hcl := (arr_cl k hk).2.2.2.1 ht
  refine W.zast E.1 E.2.1 hc (by rw [hcl] at ha; rw [hcl]; exact ha) (fun q => by cases q) (by rw [arrV_size]; exact hin) rfl rfl hd fun H1 e z oq => ?_
  exact h p _ s m args below meth c cells slots Q E R H1 _ L (store_i (x := x) hK hH hk hi (Or.inr (Or.inr ht)) e oq) (hS.put z oq (hK.2.2.2.1 k i hk hi)) hL hl (vld_tl (vld_tl (vld_tl hst)))
theorem SS_last {x : Int64} {e3 : Nat} (hd : decode (mc M) pc = .ok (.lastore, 1)) (ht : ktag k = 2) (hin : vp_in j (klen k)) (h : SS G M (pc + 1) ls r (wL μ k i j.toNatClampNeg x) Φ) : SS G M pc ls ((.long x, e3) :: (.int j, e1) :: (.ref k, i) :: r) μ Φ := by
  intro p e s m args below meth c cells slots Q E R H locs L hH hS hL hl hst
  have hi := vok_num (vld_hd (vld_tl (vld_tl hst)))
  have hk := tag_lt ht (by decide)
  have hK := E.2.2.2.2.2.2.2.1
  have hc := cellAt_arr (by rw [ht]; decide) (hH.1 k i hk hi)
  have ha := arr_of hK hk (by rw [ht]; decide) (klen k) (fun j => sv G μ k i j)
  have hcl := (arr_cl k hk).2.1 ht
  refine W.last E.1 E.2.1 hc (by rw [hcl] at ha; rw [hcl]; exact ha) (fun q => by cases q) (by rw [arrV_size]; exact hin) rfl rfl hd fun H1 e z oq => ?_
  refine h p _ s m args below meth c cells slots Q E R H1 _ L (Hd_put hK hH hk hi (cellAt_arr' (by rw [ht]; decide) ?_) oq wL_oth ?_) (hS.put z oq (hK.2.2.2.1 k i hk hi)) hL hl (vld_tl (vld_tl (vld_tl hst)))
  · rw [e, arrV_store]
    congr 2
    funext q
    rw [sv_long ht]
    by_cases hq : q = j.toNatClampNeg
    · subst hq
      simp [updV, wL]
    · simp [updV, wL, hq, sv_long ht]
  · exact hH.2
theorem SS_alen (hd : decode (mc M) pc = .ok (.arraylength, 1)) (ht : ktag k = 1 ∨ ktag k = 2) (h : SS G M (pc + 1) ls (vi (nI (klen k)) :: r) μ Φ) : SS G M pc ls ((.ref k, i) :: r) μ Φ := by
  intro p e s m args below meth c cells slots Q E R H locs L hH hS hL hl hst
  have hi := vok_num (vld_hd hst)
  have hn0 : ktag k ≠ 0 := by rcases ht with h | h <;> rw [h] <;> decide
  have hk : k < 52 := by rcases ht with h | h <;> exact tag_lt h (by decide)
  have hc := cellAt_arr hn0 (hH.1 k i hk hi)
  have ha := arr_of E.2.2.2.2.2.2.2.1 hk hn0 (klen k) (fun j => sv G μ k i j)
  exact W.alen (n := nI (klen k)) E.1 E.2.1 hc ha (by rw [arrV_size]; rfl) rfl rfl hd (h p e s m args below meth c cells slots Q E R H locs L hH hS hL hl (vld_cons (by exact rfl) (vld_tl hst)))
theorem rom_cell {s : State} {H : Heap} {locs : List Loc} {ty : FieldType} {t N : Nat} {f : Nat → Value} (hT : va_T ty t N f (Aw G) s s.heap) (hS : va_S (Aw G) s.heap H locs) : ∃ cell : Cell, H[t]? = some cell ∧ s.isArrayOf cell ty ∧ cell.vm ≠ .unknown ∧ N ≤ cell.slots.size ∧ cell.slots.size.toInt32 = Int32.ofNat N ∧ (∀ j : Nat, j < N → cell.slots[j]? = some (f j)) := by
  obtain ⟨cell, h1, h2, h3, h4, h5, h6, h7⟩ := hT
  exact ⟨cell, by rw [hS.2.1 t (Array.getElem?_eq_some_iff.mp h1).1 h7]; exact h1, h2, h3, h4, h5, h6⟩
theorem SS_rald (hd : decode (mc M) pc = .ok (.iaload, 1)) (ht : ktag k = 6) (hin : vp_in j 6) (h : SS G M (pc + 1) ls (vi (rom k j.toNatClampNeg) :: r) μ Φ) : SS G M pc ls ((.int j, e1) :: (.ref k, i) :: r) μ Φ := by
  intro p e s m args below meth c cells slots Q E R H locs L hH hS hL hl hst
  have hk := tag_rom ht
  have hi := vok_num (vld_hd (vld_tl hst))
  have hn : ∀ k, 52 ≤ k → k < 57 → knum k = 1 := fun k h1 h2 => by
    have : ∀ k, k < 57 → 52 ≤ k → knum k = 1 := by decide +kernel
    exact this k h2 h1
  rw [hn k hk.1 hk.2] at hi
  have hi0 : i = 0 := by omega
  subst hi0
  have hT := (E.2.2.2.2.2.2.2.1.2.2.2.2.1 (k - 52) (by omega)).2
  rw [show 52 + (k - 52) = k by omega] at hT
  obtain ⟨cell, h1, h2, h3, h4, h5, h6⟩ := rom_cell hT hS
  exact W.iald (v := .int (rom k j.toNatClampNeg)) E.1 E.2.1 h1 h2 h3 (fun q => hin (q.imp id (fun q => Nat.le_trans h4 q))) (h6 _ (vp_lt hin)) rfl rfl hd (h p e s m args below meth c cells slots Q E R H locs L hH hS hL hl (vld_cons (by exact rfl) (vld_tl (vld_tl hst))))
theorem scr_0 (ht : ktag k = 7) (h : vok (.ref k, i)) : k = 57 ∧ i = 0 := by
  have hk := tag_scr ht
  subst hk
  have := vok_num h
  exact ⟨rfl, Nat.lt_one_iff.mp this⟩
theorem SS_sald (hd : decode (mc M) pc = .ok (.iaload, 1)) (ht : ktag k = 7) (hin : vp_in j (gL G)) (h : SS G M (pc + 1) ls (vi (gxs G j.toNatClampNeg) :: r) μ Φ) : SS G M pc ls ((.int j, e1) :: (.ref k, i) :: r) μ Φ := by
  intro p e s m args below meth c cells slots Q E R H locs L hH hS hL hl hst
  obtain ⟨rfl, rfl⟩ := scr_0 ht (vld_hd (vld_tl hst))
  have hT := E.2.2.2.2.2.2.2.1.2.2.2.2.2.1
  obtain ⟨cell, h1, h2, h3, h4, h5, h6⟩ := rom_cell hT hS
  exact W.iald (v := .int (gxs G j.toNatClampNeg)) E.1 E.2.1 h1 h2 h3 (fun q => hin (q.imp id (fun q => Nat.le_trans h4 q))) (h6 _ (vp_lt hin)) rfl rfl hd (h p e s m args below meth c cells slots Q E R H locs L hH hS hL hl (vld_cons (by exact rfl) (vld_tl (vld_tl hst))))
theorem SS_slen (hd : decode (mc M) pc = .ok (.arraylength, 1)) (ht : ktag k = 7) (h : SS G M (pc + 1) ls (vi (nI (gL G)) :: r) μ Φ) : SS G M pc ls ((.ref k, i) :: r) μ Φ := by
  intro p e s m args below meth c cells slots Q E R H locs L hH hS hL hl hst
  obtain ⟨rfl, rfl⟩ := scr_0 ht (vld_hd hst)
  have hT := E.2.2.2.2.2.2.2.1.2.2.2.2.2.1
  obtain ⟨cell, h1, h2, h3, h4, h5, h6⟩ := rom_cell hT hS
  exact W.alen (n := nI (gL G)) E.1 E.2.1 h1 h2 h5 rfl rfl hd (h p e s m args below meth c cells slots Q E R H locs L hH hS hL hl (vld_cons (by exact rfl) (vld_tl hst)))
def okG (own : String) (q : Nat × Nat) : Bool := Nat.ble 52 q.2 && Nat.blt q.2 57 && (decide (Cond.fieldLink own q.1 "ColdShares" (romN.getD (q.2 - 52) "") "[I" ∈ lw_g) || decide (Cond.fieldLinkNest own q.1 "ColdShares" (romN.getD (q.2 - 52) "") "[I" "ColdShares" ∈ lw_tbl))
theorem SS_gets {idx k : Nat} (hd : decode (mc M) pc = .ok (.getstatic idx, 3)) (hg : okG (my M).cls (idx, k) = true) (h : SS G M (pc + 3) ls (vr k 0 :: r) μ Φ) : SS G M pc ls r μ Φ := by
  intro p e s m args below meth c cells slots Q E R H locs L hH hS hL hl hst
  unfold okG at hg
  simp only [Bool.and_eq_true, Bool.or_eq_true, decide_eq_true_eq] at hg
  obtain ⟨⟨h1, h2⟩, h3⟩ := hg
  have h1 : 52 ≤ k := Nat.le_of_ble_eq_true h1
  have h2 : k < 57 := Nat.le_of_ble_eq_true h2
  have hZ := (E.2.2.2.2.2.2.2.1.2.2.2.2.1 (k - 52) (by omega)).1
  rw [show 52 + (k - 52) = k by omega] at hZ
  have hv : vok (vr k 0) := by
    have : ∀ k, k < 57 → 52 ≤ k → vokB (vr k 0) = true := by decide +kernel
    exact this k h2 h1
  have h9 := h p e s m args below meth c cells slots Q E R H locs L hH hS hL hl (vld_cons hv hst)
  rcases h3 with h3 | h3
  · exact va_gets E.1 E.2.1 hZ hS E.2.2.2.2.2.1 (E.2.2.2.2.2.2.1 _ h3) (fun _ h => h) hd h9
  · exact va_getsN E.1 E.2.1 hZ hS E.2.2.2.2.2.1 (va_Nw.use rfl (E.2.2.2.2.2.2.2.1.2.2.2.2.2.2.2 _ h3 rfl)) (fun _ h => h) hd h9
end S3
end
section
/-! calls -/
theorem tbl_good : ∀ w ∈ lw_g, goodWord w = true := by
  intro w h
  exact (List.mem_filter.mp h).2
theorem good_tbl {ws : List Cond} (h : ∀ w ∈ ws, w ∈ lw_g) : GoodIn lw_g ws := fun w hw => ⟨h w hw, good_of_word (tbl_good w (h w hw))⟩
/-- a link of a call -/
def okC (own : String) (q : Nat × Nat × MS) : Bool := match q with
  | (idx, kd, M) => Nat.beq (mR M).cells 0 && Nat.beq (mR M).slots 0 && decide (Cond.code (my M) (mc M) (mL M) (mr M) ∈ lw_g) && decide (Cond.initialized (my M).cls ∈ lw_g) && decide ((my M).cls ≠ "java/lang/invoke/MethodHandle" ∧ (my M).cls ≠ "java/lang/invoke/VarHandle" ∧ (parseMethodDescriptor (my M).desc).map (fun d => d.parameters.length) = some (mN M)) &&
    (match kd with
      | 0 => decide (Cond.methodLink own idx (my M) ∈ lw_g) && decide (Cond.instanceMethod (my M) ∈ lw_g) && decide (Cond.selects (my M).cls (my M) (my M) ∈ lw_g) && decide (vwCl[mK M]?.map (fun q => q.1) = some (my M).cls)
      | 1 => decide (Cond.methodLink own idx (my M) ∈ lw_g) && decide (Cond.static (my M) ∈ lw_g)
      | 2 => decide (Cond.methodLinkNest own idx (my M) "ColdShares" ∈ lw_tbl) && decide (Cond.static (my M) ∈ lw_g)
      | _ => false)
def okA (own : String) (idx : Nat) : Bool := decide (Cond.methodLink own idx arraycopyName ∈ lw_g)
theorem arrcopy_in : Cond.native arraycopyName ∈ lw_g ∧ Cond.static arraycopyName ∈ lw_g ∧ Cond.initialized "java/lang/System" ∈ lw_g := by decide +kernel
theorem mws_good {M : MS} (h : Cond.code (my M) (mc M) (mL M) (mr M) ∈ lw_g) : ∀ w ∈ mws M, w ∈ lw_g := by
  intro w hw
  rcases List.mem_cons.mp hw with rfl | hw
  · exact h
  · exact hw
theorem wsum_cat (G : Ge) : ∀ r : List Vl, ((r.map (mv G)).map fun v => v.category).sum = wsum r
  | [] => rfl
  | v :: r => by
    have h := wsum_cat G r
    rw [List.map_cons, List.map_cons, List.sum_cons, h, mv_cat]
    obtain ⟨a, b⟩ := v
    cases a <;> rfl
theorem popA_c : ∀ (n : Nat) (st acc : List Vl) (K : List Vl → List Vl → Prop), popA n st acc K → ∃ as r, as.length = n ∧ st = as.reverse ++ r ∧ K (as ++ acc) r
  | 0, st, acc, K, h => ⟨[], st, rfl, rfl, h⟩
  | n + 1, v :: st, acc, K, h => by
    obtain ⟨as, r, h1, h2, h3⟩ := popA_c n st (v :: acc) K h
    refine ⟨as ++ [v], r, by simp [h1], by rw [h2]; simp, ?_⟩
    rw [List.append_assoc]
    exact h3
  | n + 1, [], acc, K, h => h.elim
theorem vld_app {a b : List Vl} (h : vld (a ++ b)) : vld a ∧ vld b := ⟨fun v hv => h v (List.mem_append_left _ hv), fun v hv => h v (List.mem_append_right _ hv)⟩
theorem vld_rev {a : List Vl} (h : vld a.reverse) : vld a := fun v hv => h v (List.mem_reverse.mpr hv)
section S4
variable {G : Ge} {M M' : MS} {pc : Nat} {ls : List Vl} {μ : Mm} {Φ Ψ : Ph}
theorem run_to {p : Program} {e : Env} {R : Room} {s : State} {m : MethodId} {args : Array Value} {below : List Frame} {meth : Method} {c : Code} {H : Heap} {locs : List Loc} {cells slots : Nat} {Q : State → Prop} {L : Array Slot} {st0 rest : List Value} {a : Array Value}
    (hr : va_Run p (gl G) e R s m args below meth c H locs cells slots 0 0 (F0 m pc L st0) rest (Qq G Ψ a) (Aw G)) (hS : va_S (Aw G) s.heap H locs)
    (kk : ∀ (r : Option Value) (μ' : Mm) (H1 : Heap) (locs1 : List Loc), Ψ r μ' → Hd G μ' H1 → va_S (Aw G) s.heap H1 locs1 → W p (gl G) e R s m args below meth c H1 locs1 cells slots Q (F0 m (pc + 3) L (r.toList ++ rest))) : W p (gl G) e R s m args below meth c H locs cells slots Q (F0 m pc L st0) := by
  intro T hT X
  obtain ⟨v, st₀, t, T', L', h0, X', hL, e1, e2, ⟨⟨r, μ', hv, hp, hb⟩, hz, hk⟩, st⟩ := hr T hT X
  cases hv
  rw [h0] at hz hk
  obtain ⟨t2, a1, b1⟩ := kk v μ' T'.heap (locs ++ L') hp (by rw [e1]; exact hb)
    ⟨Nat.le_trans hS.1 (by rw [e1]; exact hz), fun q h1 h2 => by rw [e1, hk q (Nat.lt_of_lt_of_le h1 hS.1) h2]; exact hS.2.1 q h1 h2, fun q hq => by
      rcases List.mem_append.mp hq with h | h
      · exact hS.2.2 q h
      · exact hL q h⟩ T' rfl X'
  exact ⟨t2, st t2 a1, b1⟩
theorem pre_ok {s U : State} {H : Heap} {locs : List Loc} {as : List Vl} (hK : Kn G s) (hH : Hd G μ H) (hS : va_S (Aw G) s.heap H locs) (hv : vld as) (hU : U.heap = H) (hW : s.WarmedH U.vm) : Pq G as μ (as.map (mv G)).toArray U :=
  ⟨rfl, hv, Kn_moved hW.alike (nest_warm hW) (fun a h1 h2 => by rw [hU]; exact hS.2.1 a h1 h2) hK, by rw [hU]; exact hH⟩
theorem SS_callV {idx k i : Nat} {as r : List Vl} (hd : decode (mc M) pc = .ok (.invokevirtual idx, 3)) (hc : okC (my M).cls (idx, 0, M') = true) (ht : ktag k = 0) (hcl : kcl k = mK M') (hn : as.length = mN M') (hw : wsum r ≤ 8) (hfr : (mR M').frames + 1 ≤ (mR M).frames) (hlo : 8 + (mL M' + 11) + (mR M').locals ≤ (mR M).locals)
    (hM : CS G M' (vr k i :: as) μ Ψ) (h : ∀ v μ', Ψ v μ' → ∃ x : List Vl, v.toList = x.map (mv G) ∧ vld x ∧ SS G M (pc + 3) ls (x ++ r) μ' Φ) : SS G M pc ls (as.reverse ++ (.ref k, i) :: r) μ Φ := by
  intro p e s m args below meth c cells slots Q E R H locs L hH hS hL hl hst
  unfold okC at hc
  simp only [Bool.and_eq_true, decide_eq_true_eq] at hc
  obtain ⟨⟨⟨⟨⟨c1, c2⟩, c3⟩, c4⟩, c5⟩, ⟨⟨c6, c7⟩, c8⟩, c9⟩ := hc
  have c1 : (mR M').cells = 0 := Nat.eq_of_beq_eq_true c1
  have c2 : (mR M').slots = 0 := Nat.eq_of_beq_eq_true c2
  have hts := E.2.2.2.2.2.2.1
  have hK := E.2.2.2.2.2.2.2.1
  have hv1 := vld_app hst
  have hvr := vld_hd hv1.2
  have hk := tag_lt ht (by decide)
  have hi := vok_num hvr
  obtain ⟨cell, q1, q2, q3, q4⟩ := cellAt_obj ht (hH.1 k i hk hi)
  have cw : CallW (mR M) s args (my M).cls (my M').cls idx (my M') (mc M') (mL M') (mr M') (mws M') (mR M') 0 0 (mN M') :=
    cwV (mN M') hts (good_tbl (fun w hw => by
      rcases List.mem_append.mp hw with h1 | h1
      · simp only [List.mem_cons, List.not_mem_nil, or_false] at h1
        rcases h1 with rfl | rfl | rfl | rfl
        · exact c6
        · exact c7
        · exact c8
        · exact c4
      · exact mws_good c3 w h1)) rfl c1 c2 ⟨rfl, c5⟩ ⟨hfr, hlo⟩
  have hcell : ∃ cellB : Cell, H[gad G k i]? = some cellB ∧ cellB.vm.isStatics = false ∧ s.vm.findClass (my M').cls = some cellB.cls := by
    refine ⟨cell, q1, by rw [q3]; rfl, ?_⟩
    cases hq : vwCl[mK M']? with
    | none => rw [hq] at c9; cases c9
    | some q =>
      rw [hq] at c9
      have e9 : q.1 = (my M').cls := Option.some.inj c9
      obtain ⟨-, hfc, -⟩ := hK.1.1 (mK M') q hq
      rw [q2, hcl, ← e9]
      exact hfc
  have hrun := va_runV (e := e) (below := below) (meth := meth) (H := H) (locs := locs) (cells := cells) (slots := slots) (As := as.map (mv G)) (rest := r.map (mv G)) (g := F0 m pc L ((as.reverse ++ (Value.ref k, i) :: r).map (mv G))) (b := gad G k i) ⟨E.1, E.2.1, E.2.2.2.2.1, E.2.2.2.2.2.1, hts⟩ hM cw
    ⟨Pq_blind G _ μ, hcell, fun U hU hW => pre_ok hK hH hS (vld_cons hvr (vld_rev hv1.1)) hU hW⟩ rfl (by simpa using hn) hL.1 (by simp [mv]) (by rw [wsum_cat]; show 2 * 0 + _ ≤ 8; omega) hd ⟨E.2.2.2.2.2.2.2.2.1, E.2.2.2.2.2.2.2.2.2⟩
  refine run_to hrun hS (fun v μ' H1 locs1 hp hH1 hS1 => ?_)
  obtain ⟨x, hx, hxv, hxs⟩ := h v μ' hp
  rw [hx, ← List.map_append]
  exact hxs p e s m args below meth c cells slots Q E R H1 locs1 L hH1 hS1 hL hl (fun u hu => (List.mem_append.mp hu).elim (hxv u) (vld_tl hv1.2 u))
theorem SS_callS {idx : Nat} {as r : List Vl} (hd : decode (mc M) pc = .ok (.invokestatic idx, 3)) (hc : okC (my M).cls (idx, 1, M') = true ∨ okC (my M).cls (idx, 2, M') = true) (hn : as.length = mN M') (hw : wsum r ≤ 8) (hfr : (mR M').frames + 1 ≤ (mR M).frames) (hlo : 8 + (mL M' + 11) + (mR M').locals ≤ (mR M).locals)
    (hM : CS G M' as μ Ψ) (h : ∀ v μ', Ψ v μ' → ∃ x : List Vl, v.toList = x.map (mv G) ∧ vld x ∧ SS G M (pc + 3) ls (x ++ r) μ' Φ) : SS G M pc ls (as.reverse ++ r) μ Φ := by
  intro p e s m args below meth c cells slots Q E R H locs L hH hS hL hl hst
  have hts := E.2.2.2.2.2.2.1
  have hK := E.2.2.2.2.2.2.2.1
  have hv1 := vld_app hst
  have hp : PreS s H (Pq G as μ) (as.map (mv G)) := ⟨Pq_blind G _ μ, fun U hU hW => pre_ok hK hH hS (vld_rev hv1.1) hU hW⟩
  have kk : ∀ (v : Option Value) (μ' : Mm) (H1 : Heap) (locs1 : List Loc), Ψ v μ' → Hd G μ' H1 → va_S (Aw G) s.heap H1 locs1 → W p (gl G) e (mR M) s m args below meth c H1 locs1 cells slots Q (F0 m (pc + 3) L (v.toList ++ r.map (mv G))) := by
    intro v μ' H1 locs1 hp hH1 hS1
    obtain ⟨x, hx, hxv, hxs⟩ := h v μ' hp
    rw [hx, ← List.map_append]
    exact hxs p e s m args below meth c cells slots Q E R H1 locs1 L hH1 hS1 hL hl (fun u hu => (List.mem_append.mp hu).elim (hxv u) (hv1.2 u))
  rcases hc with hc | hc
  · unfold okC at hc
    simp only [Bool.and_eq_true, decide_eq_true_eq] at hc
    obtain ⟨⟨⟨⟨⟨c1, c2⟩, c3⟩, c4⟩, c5⟩, c6, c7⟩ := hc
    have c1 : (mR M').cells = 0 := Nat.eq_of_beq_eq_true c1
    have c2 : (mR M').slots = 0 := Nat.eq_of_beq_eq_true c2
    have cw : CallB (mR M) s args (my M).cls idx (my M') (mc M') (mL M') (mr M') (mws M') (mR M') 0 0 (mN M') ∧ (Cond.static (my M')).before args s = true :=
      va_cwS (mN M') hts (good_tbl (fun w hw => by
        rcases List.mem_append.mp hw with h1 | h1
        · simp only [List.mem_cons, List.not_mem_nil, or_false] at h1
          rcases h1 with rfl | rfl | rfl
          · exact c6
          · exact c7
          · exact c4
        · exact mws_good c3 w h1)) rfl c1 c2 c5 ⟨hfr, hlo⟩
    exact run_to (va_runS (e := e) (below := below) (meth := meth) (H := H) (locs := locs) (cells := cells) (slots := slots) (As := as.map (mv G)) (rest := r.map (mv G)) (g := F0 m pc L ((as.reverse ++ r).map (mv G))) ⟨E.1, E.2.1, E.2.2.2.2.1, E.2.2.2.2.2.1, hts⟩ hM cw hp rfl (by simpa using hn) hL.1 (by simp) (by rw [wsum_cat]; show 2 * 0 + _ ≤ 8; omega) hd ⟨E.2.2.2.2.2.2.2.2.1, E.2.2.2.2.2.2.2.2.2⟩) hS kk
  · unfold okC at hc
    simp only [Bool.and_eq_true, decide_eq_true_eq] at hc
    obtain ⟨⟨⟨⟨⟨c1, c2⟩, c3⟩, c4⟩, c5⟩, c6, c7⟩ := hc
    have c1 : (mR M').cells = 0 := Nat.eq_of_beq_eq_true c1
    have c2 : (mR M').slots = 0 := Nat.eq_of_beq_eq_true c2
    have cw : va_CN (mR M) s args (my M).cls idx (my M') "ColdShares" (mc M') (mL M') (mr M') (mws M') (mR M') 0 0 (mN M') :=
      ⟨⟨c1, c2, hfr, hlo, pay_in hts (good_tbl (mws_good c3)), List.mem_cons_self⟩, hts _ c3, hts _ c4, ⟨c5.1, c5.2.1⟩, fun sig hs => by
        have h2 := c5.2.2
        rw [hs] at h2
        exact (Option.some.inj h2).symm, va_Nw.use rfl (hK.2.2.2.2.2.2.2 _ c6 rfl)⟩
    exact run_to (va_runSN (e := e) (below := below) (meth := meth) (H := H) (locs := locs) (cells := cells) (slots := slots) (As := as.map (mv G)) (rest := r.map (mv G)) (g := F0 m pc L ((as.reverse ++ r).map (mv G))) ⟨E.1, E.2.1, E.2.2.2.2.1, E.2.2.2.2.2.1, hts⟩ hM ⟨cw, hts _ c7, trivial⟩ hp rfl (by simpa using hn) hL.1 (by simp) (by rw [wsum_cat]; show 2 * 0 + _ ≤ 8; omega) hd ⟨E.2.2.2.2.2.2.2.2.1, E.2.2.2.2.2.2.2.2.2⟩) hS kk
/-! what a call gives -/
theorem callK_c {as r : List Vl} {nx : List Vl → Mm → Prop} (h : callK G M' as μ r nx) (N : ∀ st1 μ1, nx st1 μ1 → SS G M (pc + 3) ls st1 μ1 Φ) : ∃ Ψ : Ph, CS G M' as μ Ψ ∧ ∀ v μ', Ψ v μ' → ∃ x : List Vl, v.toList = x.map (mv G) ∧ vld x ∧ SS G M (pc + 3) ls (x ++ r) μ' Φ := by
  have hI : CS G M' as μ (RI (fun v μ' => nx (vi v :: r) μ')) → ∃ Ψ : Ph, CS G M' as μ Ψ ∧ ∀ v μ', Ψ v μ' → ∃ x : List Vl, v.toList = x.map (mv G) ∧ vld x ∧ SS G M (pc + 3) ls (x ++ r) μ' Φ := by
    intro h
    refine ⟨_, h, fun v μ' hv => ?_⟩
    unfold RI at hv
    split at hv
    · exact ⟨[vi _], rfl, fun u hu => by rw [List.mem_singleton.mp hu]; rfl, N _ _ hv⟩
    · exact hv.elim
  unfold callK at h
  split at h
  · refine ⟨_, h, fun v μ' hv => ?_⟩
    unfold RV at hv
    split at hv
    · exact ⟨[], rfl, (fun u hu => absurd hu List.not_mem_nil), N _ _ hv⟩
    · exact hv.elim
  · exact hI h
  · exact hI h
  · refine ⟨_, h, fun v μ' hv => ?_⟩
    unfold RL at hv
    split at hv
    · exact ⟨[vl _], rfl, fun u hu => by rw [List.mem_singleton.mp hu]; rfl, N _ _ hv⟩
    · exact hv.elim
  · exact h.elim
end S4
end
section
/-! System.arraycopy -/
section S5
variable {G : Ge} {M : MS} {pc : Nat} {ls : List Vl} {μ : Mm} {Φ : Ph}
theorem copy_W {p : Program} {l : Launch} {e : Env} {R : Room} {s : State} {m : MethodId} {args : Array Value} {below : List Frame} {meth : Method} {c : Code} {H : Heap} {locs : List Loc} {cells slots : Nat} {Q : State → Prop} {cc : ByteArray} {ls : Array Slot} {rest : List Value} {A : Nat → Prop} {H0 : Heap} {α : Type} (mk : α → Value) (hexec : p.tables.exec = Jvm.exec) (hb : c.code = cc) (hml : c.maxLocals = ls.size) {own : String} {index : Nat} (hown : s.vm.findClass own = some m.cls) (hlink : (Cond.methodLink own index arraycopyName).before args s = true) (hnat : (Cond.native arraycopyName).before args s = true) (hstat : (Cond.static arraycopyName).before args s = true) (hini : (Cond.initialized "java/lang/System").before args s = true)
    (hS : va_S A H0 H locs) {a0 a : Nat} {c0 c1 : ClassId} {n0 n1 : Nat} {f g : Nat → α} {ty : FieldType} (hc0 : H[a0]? = some (arrV c0 n0 (fun j => mk (f j)))) (hc1 : H[a]? = some (arrV c1 n1 (fun j => mk (g j)))) (ht0 : ArrOfT s c0 ty) (ht1 : ArrOfT s c1 ty) (hprim : refKind ty = false) (hA : A a)
    {sp dp n : Int32} (h1 : ¬ sp < 0) (h2 : ¬ dp < 0) (h3 : ¬ n < 0) (h4 : sp.toNatClampNeg + n.toNatClampNeg ≤ n0) (h5 : dp.toNatClampNeg + n.toNatClampNeg ≤ n1) (hfit : ∀ x, fits ty (mk x) = true) (hnr : ∀ x q, mk x ≠ .ref q)
    (hframes : 1 ≤ R.frames) (hlocals : (rest.map fun v => v.category).sum + (nativeFrameWords "java/lang/System" "arraycopy" 5 + 11) ≤ R.locals) (hdg : decode cc pc = .ok (.invokestatic index, 3))
    (kk : ∀ (H1 : Heap) (locs1 : List Loc), H1[a]? = some (arrV c1 n1 (fun j => mk (va_cpy f g sp.toNatClampNeg dp.toNatClampNeg n.toNatClampNeg j))) → (∀ q, q ≠ a → H1[q]? = H[q]?) → va_S A H0 H1 locs1 → W p l e R s m args below meth c H1 locs1 cells slots Q (F0 m (pc + 3) ls rest)) : W p l e R s m args below meth c H locs cells slots Q (F0 m pc ls (.int n :: .int dp :: .ref a :: .int sp :: .ref a0 :: rest)) := by
  have nn : ∀ z : Int32, ¬ z < 0 → z.toInt = (z.toNatClampNeg : Int) := by
    intro z hz
    have hz0 : (0 : Int) ≤ z.toInt := by
      have := Int32.not_lt.mp hz
      simpa using Int32.le_iff_toInt_le.mp this
    show z.toInt = ((z.toInt.toNat : Nat) : Int)
    omega
  intro T hT X
  obtain ⟨-, k0, hk0, cm0, hkk0⟩ := ht0 n0 (fun j => mk (f j))
  obtain ⟨-, k1, hk1, cm1, hkk1⟩ := ht1 n1 (fun j => mk (g j))
  obtain ⟨vm', X', step⟩ := X.arraycopy hexec hown hlink hnat hstat hini (src := a0) (dst := a) (cs := arrV c0 n0 (fun j => mk (f j))) (cd := arrV c1 n1 (fun j => mk (g j))) (srcPos := sp) (destPos := dp) (n := n) (by rw [hT]; exact hc0) (by rw [hT]; exact hc1)
    (fun _ h => by cases h) (fun _ h => by cases h) (fun h => by cases h) (fun h => by cases h) hk0 hk1 hkk0 hkk1 (by simp [hprim]) h1 h2 h3
    (by rw [nn sp h1, nn n h3]; show ¬ _ > ((arrV c0 n0 (fun j => mk (f j))).slots.size : Int); rw [arrV_size]; omega)
    (by rw [nn dp h2, nn n h3]; show ¬ _ > ((arrV c1 n1 (fun j => mk (g j))).slots.size : Int); rw [arrV_size]; omega)
    (fun vm₁ _ i hi => by
      have e : (arrV c0 n0 (fun j => mk (f j))).slots.getD (sp.toNatClampNeg + i) .null = mk (f (sp.toNatClampNeg + i)) := by
        rw [Array.getD_eq_getD_getElem?, arrV_read _ _ (by omega)]
        rfl
      refine ⟨?_, ?_⟩
      · rw [e]
        exact hfit _
      · rw [e]
        have := hnr (f (sp.toNatClampNeg + i))
        cases hq : mk (f (sp.toNatClampNeg + i)) <;> first | exact trivial | exact absurd hq (this _))
    (g := F0 m pc ls (.int n :: .int dp :: .ref a :: .int sp :: .ref a0 :: rest)) rfl (by rw [hml]) (rest := rest) rfl (by rw [hb]; exact hdg) hframes (by show 2 * 0 + _ + _ ≤ _; omega)
  have e1 : copied (arrV c0 n0 (fun j => mk (f j))) (arrV c1 n1 (fun j => mk (g j))) sp dp n = arrV c1 n1 (fun j => mk (va_cpy f g sp.toNatClampNeg dp.toNatClampNeg n.toNatClampNeg j)) := va_copied mk c0 c1 f g h4
  rw [e1] at X' step
  have hl : a < H.size := (Array.getElem?_eq_some_iff.mp hc1).1
  have hheap : ((T.setVm vm').setCell a (arrV c1 n1 (fun j => mk (va_cpy f g sp.toNatClampNeg dp.toNatClampNeg n.toNatClampNeg j)))).heap = H.setIfInBounds a (arrV c1 n1 (fun j => mk (va_cpy f g sp.toNatClampNeg dp.toNatClampNeg n.toNatClampNeg j))) := by rw [← hT]; rfl
  have oq : ∀ q : Nat, q ≠ a → (H.setIfInBounds a (arrV c1 n1 (fun j => mk (va_cpy f g sp.toNatClampNeg dp.toNatClampNeg n.toNatClampNeg j))))[q]? = H[q]? := fun q hq => by simp [Array.getElem?_setIfInBounds, Ne.symm hq]
  obtain ⟨t, a1, b1⟩ := kk _ _ (show (H.setIfInBounds a _)[a]? = some _ by simp [Array.getElem?_setIfInBounds, hl]) oq ⟨by simp; exact hS.1, fun q g1 g2 => by
      rw [oq q (fun e => g2 (by rw [e]; exact hA))]
      exact hS.2.1 q g1 g2, fun q hq => by
      rcases List.mem_append.mp hq with h | h
      · exact hS.2.2 q h
      · obtain ⟨z, -, hz⟩ := List.mem_map.mp h
        rw [← hz]
        exact hA⟩ _ hheap X'
  exact ⟨t, step t a1, b1⟩
theorem SS_copyI {idx k i k0 i0 e1 e2 e3 : Nat} {sp dp n : Int32} {r : List Vl} (hd : decode (mc M) pc = .ok (.invokestatic idx, 3)) (hA : okA (my M).cls idx = true) (t0 : ktag k0 = 1) (t1 : ktag k = 1) (hw : wsum r ≤ 8) (hfr : 1 ≤ (mR M).frames) (hlo : 26 ≤ (mR M).locals)
    (hb : ¬ sp < 0 ∧ ¬ dp < 0 ∧ ¬ n < 0 ∧ sp.toNatClampNeg + n.toNatClampNeg ≤ klen k0 ∧ dp.toNatClampNeg + n.toNatClampNeg ≤ klen k) (h : SS G M (pc + 3) ls r (cI μ k0 i0 sp.toNatClampNeg k i dp.toNatClampNeg n.toNatClampNeg) Φ) : SS G M pc ls ((.int n, e1) :: (.int dp, e2) :: (.ref k, i) :: (.int sp, e3) :: (.ref k0, i0) :: r) μ Φ := by
  intro p e s m args below meth c cells slots Q E R H locs L hH hS hL hl hst
  have hts := E.2.2.2.2.2.2.1
  have hK := E.2.2.2.2.2.2.2.1
  have hi := vok_num (vld_hd (vld_tl (vld_tl hst)))
  have hi0 := vok_num (vld_hd (vld_tl (vld_tl (vld_tl (vld_tl hst)))))
  have hk := tag_lt t1 (by decide)
  have hk0 := tag_lt t0 (by decide)
  have hc := cellAt_arr (by rw [t1]; decide) (hH.1 k i hk hi)
  have hc0 := cellAt_arr (by rw [t0]; decide) (hH.1 k0 i0 hk0 hi0)
  have f1 : (fun j => sv G μ k i j) = fun j => Value.int (μ.1 k i j) := funext fun j => sv_int (Or.inl t1)
  have f0 : (fun j => sv G μ k0 i0 j) = fun j => Value.int (μ.1 k0 i0 j) := funext fun j => sv_int (Or.inl t0)
  rw [f1, (arr_cl k hk).1 t1] at hc
  rw [f0, (arr_cl k0 hk0).1 t0] at hc0
  have hai := hK.2.1 0 (by decide)
  refine copy_W (fun x : Int32 => Value.int x) E.1 E.2.1 (E.2.2.2.2.1.trans hL.1.symm) E.2.2.2.2.2.1 (hts _ (of_decide_eq_true hA)) (hts _ arrcopy_in.1) (hts _ arrcopy_in.2.1) (hts _ arrcopy_in.2.2) hS hc0 hc hai hai rfl (hK.2.2.2.1 k i hk hi) hb.1 hb.2.1 hb.2.2.1 hb.2.2.2.1 hb.2.2.2.2 (fun _ => rfl) (fun _ _ h => by cases h) hfr (by rw [wsum_cat, show nativeFrameWords "java/lang/System" "arraycopy" 5 = 7 from by decide +kernel]; omega) hd (fun H1 locs1 g1 g2 g3 => ?_)
  refine h p e s m args below meth c cells slots Q E R H1 locs1 L (Hd_put hK hH hk hi (cellAt_arr' (by rw [t1]; decide) ?_) g2 ?_ ?_) g3 hL hl (vld_tl (vld_tl (vld_tl (vld_tl (vld_tl hst)))))
  · rw [g1, (arr_cl k hk).1 t1]
    congr 2
    funext j
    rw [sv_int (Or.inl t1)]
    simp [cI, va_cpy]
  · intro k' i' s' hne
    exact ⟨if_neg (fun q => hne ⟨q.1, q.2.1⟩), rfl⟩
  · show (if (2 : Nat) = k ∧ _ then _ else _ : Int32).toInt ≤ 4
    rw [if_neg (fun q => tag_2 t1 (by decide) q.1.symm)]
    exact hH.2
theorem SS_copyL {idx k i k0 i0 e1 e2 e3 : Nat} {sp dp n : Int32} {r : List Vl} (hd : decode (mc M) pc = .ok (.invokestatic idx, 3)) (hA : okA (my M).cls idx = true) (t0 : ktag k0 = 2) (t1 : ktag k = 2) (hw : wsum r ≤ 8) (hfr : 1 ≤ (mR M).frames) (hlo : 26 ≤ (mR M).locals)
    (hb : ¬ sp < 0 ∧ ¬ dp < 0 ∧ ¬ n < 0 ∧ sp.toNatClampNeg + n.toNatClampNeg ≤ klen k0 ∧ dp.toNatClampNeg + n.toNatClampNeg ≤ klen k) (h : SS G M (pc + 3) ls r (cL μ k0 i0 sp.toNatClampNeg k i dp.toNatClampNeg n.toNatClampNeg) Φ) : SS G M pc ls ((.int n, e1) :: (.int dp, e2) :: (.ref k, i) :: (.int sp, e3) :: (.ref k0, i0) :: r) μ Φ := by
  intro p e s m args below meth c cells slots Q E R H locs L hH hS hL hl hst
  have hts := E.2.2.2.2.2.2.1
  have hK := E.2.2.2.2.2.2.2.1
  have hi := vok_num (vld_hd (vld_tl (vld_tl hst)))
  have hi0 := vok_num (vld_hd (vld_tl (vld_tl (vld_tl (vld_tl hst)))))
  have hk := tag_lt t1 (by decide)
  have hk0 := tag_lt t0 (by decide)
  have hc := cellAt_arr (by rw [t1]; decide) (hH.1 k i hk hi)
  have hc0 := cellAt_arr (by rw [t0]; decide) (hH.1 k0 i0 hk0 hi0)
  have f1 : (fun j => sv G μ k i j) = fun j => Value.long (μ.2 k i j) := funext fun j => sv_long t1
  have f0 : (fun j => sv G μ k0 i0 j) = fun j => Value.long (μ.2 k0 i0 j) := funext fun j => sv_long t0
  rw [f1, (arr_cl k hk).2.1 t1] at hc
  rw [f0, (arr_cl k0 hk0).2.1 t0] at hc0
  have hai := hK.2.1 1 (by decide)
  refine copy_W (fun x : Int64 => Value.long x) E.1 E.2.1 (E.2.2.2.2.1.trans hL.1.symm) E.2.2.2.2.2.1 (hts _ (of_decide_eq_true hA)) (hts _ arrcopy_in.1) (hts _ arrcopy_in.2.1) (hts _ arrcopy_in.2.2) hS hc0 hc hai hai rfl (hK.2.2.2.1 k i hk hi) hb.1 hb.2.1 hb.2.2.1 hb.2.2.2.1 hb.2.2.2.2 (fun _ => rfl) (fun _ _ h => by cases h) hfr (by rw [wsum_cat, show nativeFrameWords "java/lang/System" "arraycopy" 5 = 7 from by decide +kernel]; omega) hd (fun H1 locs1 g1 g2 g3 => ?_)
  refine h p e s m args below meth c cells slots Q E R H1 locs1 L (Hd_put hK hH hk hi (cellAt_arr' (by rw [t1]; decide) ?_) g2 ?_ ?_) g3 hL hl (vld_tl (vld_tl (vld_tl (vld_tl (vld_tl hst)))))
  · rw [g1, (arr_cl k hk).2.1 t1]
    congr 2
    funext j
    rw [sv_long t1]
    simp [cL, va_cpy]
  · intro k' i' s' hne
    exact ⟨rfl, if_neg (fun q => hne ⟨q.1, q.2.1⟩)⟩
  · exact hH.2
/-! switches -/
theorem swt_c {x : Int32} {nx : Nat → Prop} {d : Nat} : ∀ (cs : List (Int32 × Nat)), swt x nx d cs → (∃ (j : Nat) (t : Nat), cs[j]? = some (x, t) ∧ (∀ j' q, j' < j → cs[j']? = some q → q.1 ≠ x) ∧ nx t) ∨ ((∀ q ∈ cs, q.1 ≠ x) ∧ nx d)
  | [], h => Or.inr ⟨(fun q hq => absurd hq List.not_mem_nil), h⟩
  | q :: l, h => by
    unfold swt at h
    split at h
    · rename_i e
      left
      refine ⟨0, q.2, by rw [e]; rfl, fun j' q' hj => absurd hj (by omega), h⟩
    · rename_i e
      rcases swt_c l h with ⟨j, t, h1, h2, h3⟩ | ⟨h1, h2⟩
      · left
        refine ⟨j + 1, t, h1, fun j' q' hj hq => ?_, h3⟩
        cases j' with
        | zero =>
          have : q = q' := by simpa using hq
          subst this
          exact fun z => e z.symm
        | succ j' => exact h2 j' q' (by omega) (by simpa using hq)
      · right
        refine ⟨fun q' hq => ?_, h2⟩
        rcases List.mem_cons.mp hq with rfl | hq
        · exact fun z => e z.symm
        · exact h1 q' hq
def okT (pc : Nat) (dflt lo hi : Int) (offs : Array Int) (a : Nat) (cs : List (Int32 × Nat)) : Bool :=
  decide ((pc : Int) + dflt = (a : Int)) && decide (-2147483648 ≤ lo) && decide (hi ≤ 2147483647) && decide (cs.length = (hi + 1 - lo).toNat) && decide (offs.size = cs.length) && (List.range cs.length).all (fun j => match cs[j]?, offs[j]? with
    | some q, some off => decide (q.1.toInt = lo + (j : Int)) && decide ((pc : Int) + off = (q.2 : Int))
    | _, _ => false)
theorem SS_table {dflt lo hi : Int} {offs : Array Int} {len a e1 : Nat} {cs : List (Int32 × Nat)} {x : Int32} {r : List Vl} {nx : Nat → List Vl → List Vl → Mm → Prop} (hd : decode (mc M) pc = .ok (.tableswitch dflt lo hi offs, len)) (ho : okT pc dflt lo hi offs a cs = true) (N : ∀ pc1 ls1 st1 μ1, nx pc1 ls1 st1 μ1 → SS G M pc1 ls1 st1 μ1 Φ) (h : swt x (fun t => nx t ls r μ) a cs) : SS G M pc ls ((.int x, e1) :: r) μ Φ := by
  unfold okT at ho
  simp only [Bool.and_eq_true, decide_eq_true_eq, List.all_eq_true, List.mem_range] at ho
  obtain ⟨⟨⟨⟨⟨h1, h2⟩, h3⟩, h4⟩, h5⟩, h6⟩ := ho
  have hrow : ∀ j, j < cs.length → ∃ q off, cs[j]? = some q ∧ offs[j]? = some off ∧ q.1.toInt = lo + (j : Int) ∧ (pc : Int) + off = (q.2 : Int) := by
    intro j hj
    have := h6 j hj
    split at this
    · rename_i q off hq hoff
      simp only [Bool.and_eq_true, decide_eq_true_eq] at this
      exact ⟨q, off, hq, hoff, this.1, this.2⟩
    · cases this
  rcases swt_c cs h with ⟨j, t, g1, -, g3⟩ | ⟨g1, g2⟩
  · have hj : j < cs.length := (List.getElem?_eq_some_iff.mp g1).1
    obtain ⟨q, off, k1, k2, k3, k4⟩ := hrow j hj
    rw [g1] at k1
    cases k1
    have k3 : x.toInt = lo + (j : Int) := k3
    exact SS_go (fun p e s m args below meth c cells slots Q E H locs L hL k => lv_tableIn E.1 E.2.1 hd (by omega) (by omega) (by rw [show (x.toInt - lo).toNat = j by omega]; exact k2) k4 k) (fun _ h => vld_tl h) (N _ _ _ _ g3)
  · refine SS_go (fun p e s m args below meth c cells slots Q E H locs L hL k => lv_tableOut E.1 E.2.1 hd ?_ h1 k) (fun _ h => vld_tl h) (N _ _ _ _ g2)
    by_cases hlo : x.toInt < lo
    · exact Or.inl hlo
    · by_cases hhi : hi < x.toInt
      · exact Or.inr hhi
      · exfalso
        have hj : (x.toInt - lo).toNat < cs.length := by omega
        obtain ⟨q, off, k1, k2, k3, k4⟩ := hrow _ hj
        refine g1 q (List.mem_of_getElem? k1) (Int32.toInt_inj.mp ?_)
        rw [k3]
        omega
def okK (pc : Nat) (dflt : Int) (ps : Array (Int × Int)) (a : Nat) (cs : List (Int32 × Nat)) : Bool :=
  decide ((pc : Int) + dflt = (a : Int)) && ((ps.toList.zip (ps.toList.drop 1)).all (fun (a, next) => a.1 < next.1)) && decide (cs.map (fun q => (q.1.toInt, (q.2 : Int))) = ps.toList.map (fun q => (q.1, (pc : Int) + q.2)))
theorem lk_off : ∀ (ps : List (Int × Int)) (dflt x : Int), (∀ (j : Nat) (q : Int × Int), ps[j]? = some q → q.1 = x → (∀ j' q', j' < j → ps[j']? = some q' → q'.1 ≠ x) → Op.lookupswitch.offset ps dflt x = q.2) ∧ ((∀ q ∈ ps, q.1 ≠ x) → Op.lookupswitch.offset ps dflt x = dflt) := by
  intro ps
  induction ps with
  | nil => intro dflt x; exact ⟨fun j q h => by simp at h, fun _ => rfl⟩
  | cons a l ih =>
    intro dflt x
    refine ⟨fun j q hq hx hmin => ?_, fun h => ?_⟩
    · cases j with
      | zero =>
        have : a = q := by simpa using hq
        subst this
        subst hx
        simp [Op.lookupswitch.offset]
      | succ j =>
        have ha : a.1 ≠ x := hmin 0 a (by omega) rfl
        have := (ih dflt x).1 j q (by simpa using hq) hx (fun j' q' hj hq' => hmin (j' + 1) q' (by omega) (by simpa using hq'))
        simp [Op.lookupswitch.offset, ha] at this ⊢
        exact this
    · have ha : a.1 ≠ x := h a List.mem_cons_self
      have := (ih dflt x).2 (fun q hq => h q (List.mem_cons_of_mem _ hq))
      simp [Op.lookupswitch.offset, ha] at this ⊢
      exact this
theorem SS_lookup {dflt : Int} {ps : Array (Int × Int)} {len a e1 : Nat} {cs : List (Int32 × Nat)} {x : Int32} {r : List Vl} {nx : Nat → List Vl → List Vl → Mm → Prop} (hd : decode (mc M) pc = .ok (.lookupswitch dflt ps, len)) (ho : okK pc dflt ps a cs = true) (N : ∀ pc1 ls1 st1 μ1, nx pc1 ls1 st1 μ1 → SS G M pc1 ls1 st1 μ1 Φ) (h : swt x (fun t => nx t ls r μ) a cs) : SS G M pc ls ((.int x, e1) :: r) μ Φ := by
  unfold okK at ho
  rw [Bool.and_eq_true, Bool.and_eq_true] at ho
  obtain ⟨⟨h1, h2⟩, h3⟩ := ho
  have h1 := of_decide_eq_true h1
  have h3 := of_decide_eq_true h3
  have hrow : ∀ j : Nat, (cs[j]?).map (fun q => (q.1.toInt, (q.2 : Int))) = (ps.toList[j]?).map (fun q => (q.1, (pc : Int) + q.2)) := by
    intro j
    rw [← List.getElem?_map, ← List.getElem?_map, h3]
  rcases swt_c cs h with ⟨j, t, g1, gm, g3⟩ | ⟨g1, g2⟩
  · have := hrow j
    rw [g1] at this
    cases hp : ps.toList[j]? with
    | none => rw [hp] at this; cases this
    | some q =>
      rw [hp] at this
      have e0 : (x.toInt, (t : Int)) = (q.1, (pc : Int) + q.2) := Option.some.inj this
      have e1 : x.toInt = q.1 := congrArg Prod.fst e0
      have e2 : (t : Int) = (pc : Int) + q.2 := congrArg Prod.snd e0
      have hoff := (lk_off ps.toList dflt x.toInt).1 j q hp e1.symm (fun j' q' hj hq' hx => by
        have hr := hrow j'
        rw [hq'] at hr
        cases hc : cs[j']? with
        | none => rw [hc] at hr; cases hr
        | some w =>
          rw [hc] at hr
          have e3 : w.1.toInt = q'.1 := congrArg Prod.fst (Option.some.inj hr)
          exact gm j' w hj hc (Int32.toInt_inj.mp (by rw [e3, hx])))
      exact SS_go (fun p e s m args below meth c cells slots Q E H locs L hL k => lv_lookup E.1 E.2.1 hd h2 hoff e2.symm k) (fun _ h => vld_tl h) (N _ _ _ _ g3)
  · have hoff := (lk_off ps.toList dflt x.toInt).2 (fun q hq hx => by
      obtain ⟨j, hj⟩ := List.getElem?_of_mem hq
      have hr := hrow j
      rw [hj] at hr
      cases hc : cs[j]? with
      | none => rw [hc] at hr; cases hr
      | some w =>
        rw [hc] at hr
        have e3 : w.1.toInt = q.1 := congrArg Prod.fst (Option.some.inj hr)
        exact g1 w (List.mem_of_getElem? hc) (Int32.toInt_inj.mp (by rw [e3, hx])))
    exact SS_go (fun p e s m args below meth c cells slots Q E H locs L hL k => lv_lookup E.1 E.2.1 hd h2 hoff h1 k) (fun _ h => vld_tl h) (N _ _ _ _ g2)
end S5
end
section
/-! a whole step; a whole way; a contract -/
def okI (M : MS) (lk : Lk) (e : En) : Bool := match e with
  | (pc, ins, len, a, b, c, d, cs) => match ins with
    | .iconst n => Nat.beq len 1 && decide (Int32.ofInt n = c)
    | .bipush n => Nat.beq len 2 && decide ((Int8.ofInt n).toInt32 = c)
    | .sipush n => Nat.beq len 3 && decide ((Int16.ofInt n).toInt32 = c)
    | .ldc i => Nat.beq len 2 && decide ((i, c) ∈ lk.2.2.1)
    | .ldc_w i => Nat.beq len 3 && decide ((i, c) ∈ lk.2.2.1)
    | .lconst n => Nat.beq len 1 && decide (Int64.ofNat (n : Nat) = d)
    | .ldc2_w i => Nat.beq len 3 && decide ((i, d) ∈ lk.2.2.2.1)
    | .iload _ => Nat.beq len 2
    | .lload _ => Nat.beq len 2
    | .aload _ => Nat.beq len 2
    | .istore _ => Nat.beq len 2
    | .lstore _ => Nat.beq len 2
    | .astore _ => Nat.beq len 2
    | .iinc _ n => Nat.beq len 3 && decide (Int32.ofInt n = c)
    | .goto off => Nat.beq len 3 && decide ((pc : Int) + off = (a : Int))
    | .ifCond _ off => Nat.beq len 3 && decide ((pc : Int) + off = (a : Int))
    | .if_icmp _ off => Nat.beq len 3 && decide ((pc : Int) + off = (a : Int))
    | .ifnull off => Nat.beq len 3 && decide ((pc : Int) + off = (a : Int))
    | .tableswitch dflt lo hi offs => okT pc dflt lo hi offs a cs
    | .lookupswitch dflt ps => okK pc dflt ps a cs
    | .getfield i => Nat.beq len 3 && decide ((i, a, b) ∈ lk.1)
    | .putfield i => Nat.beq len 3 && decide ((i, a, b) ∈ lk.1)
    | .getstatic i => Nat.beq len 3 && decide ((i, a) ∈ lk.2.2.2.2)
    | .invokevirtual i => Nat.beq len 3 && Nat.blt a lk.2.1.length && (match lk.2.1.getD a (0, 9, m0) with
      | (i', _, M') => Nat.beq i i' && Nat.ble ((mR M').frames + 1) (mR M).frames && Nat.ble (8 + (mL M' + 11) + (mR M').locals) (mR M).locals)
    | .invokestatic i => Nat.beq len 3 && Nat.blt a lk.2.1.length && (match lk.2.1.getD a (0, 9, m0) with
      | (i', 3, _) => Nat.beq i i' && Nat.ble 1 (mR M).frames && Nat.ble 26 (mR M).locals
      | (i', _, M') => Nat.beq i i' && Nat.ble ((mR M').frames + 1) (mR M).frames && Nat.ble (8 + (mL M' + 11) + (mR M').locals) (mR M).locals)
    | _ => Nat.beq len 1
def okM (own : String) (q : Nat × Nat × MS) : Bool := match q with
  | (idx, 3, _) => okA own idx
  | (idx, kd, M) => okC own (idx, kd, M)
/-- the links of a type are good -/
def okL (own : String) (lk : Lk) : Prop := (∀ q ∈ lk.1, okF own q = true) ∧ (∀ q ∈ lk.2.1, okM own q = true) ∧ (∀ q ∈ lk.2.2.1, Cond.constant own q.1 q.2 ∈ lw_g) ∧ (∀ q ∈ lk.2.2.2.1, Cond.constantLong own q.1 q.2 ∈ lw_g) ∧ ∀ q ∈ lk.2.2.2.2, okG own q = true
theorem getD_mem {α : Type} {l : List α} {a : Nat} {d : α} (h : a < l.length) : l.getD a d ∈ l := by
  rw [List.getD_eq_getElem?_getD, List.getElem?_eq_getElem h]
  exact List.getElem_mem h
theorem beqN {a b : Nat} (h : Nat.beq a b = true) : a = b := Nat.eq_of_beq_eq_true h
section S6
variable {G : Ge} {M : MS} {lk : Lk} {ls st : List Vl} {μ : Mm} {Φ : Ph} {nx : Nat → List Vl → List Vl → Mm → Prop} {b : Nat} {c : Int32} {d : Int64} {cs : List (Int32 × Nat)}
theorem lI_c {k : Nat} {P : Int32 → Prop} (h : lI ls k P) : ∃ x e, lget ls k = (.int x, e) ∧ P x := by
  unfold lI at h
  split at h
  · rename_i x e he
    exact ⟨x, e, he, h⟩
  · exact h.elim
theorem lJ_c {k : Nat} {P : Int64 → Prop} (h : lJ ls k P) : ∃ x e, lget ls k = (.long x, e) ∧ P x := by
  unfold lJ at h
  split at h
  · rename_i x e he
    exact ⟨x, e, he, h⟩
  · exact h.elim
theorem lA_c {k : Nat} {P : Nat → Nat → Prop} (h : lA ls k P) : ∃ x i, lget ls k = (.ref x, i) ∧ P x i := by
  unfold lA at h
  split at h
  · rename_i x e he
    exact ⟨x, e, he, h⟩
  · exact h.elim
theorem ok2 {a b : Bool} (h : (a && b) = true) : a = true ∧ b = true := (Bool.and_eq_true _ _).mp h
/-- a call of a method of an object -/
theorem cV_s {pc i : Nat} {q : Nat × Nat × MS} (hd : decode (mc M) pc = .ok (.invokevirtual i, 3)) (hq : okM (my M).cls q = true) (hi : i = q.1) (h4 : (mR q.2.2).frames + 1 ≤ (mR M).frames) (h5 : 8 + (mL q.2.2 + 11) + (mR q.2.2).locals ≤ (mR M).locals) (N : ∀ pc1 ls1 st1 μ1, nx pc1 ls1 st1 μ1 → SS G M pc1 ls1 st1 μ1 Φ) (h : cV G q st μ (fun st' μ' => nx (pc + 3) ls st' μ')) : SS G M pc ls st μ Φ := by
  obtain ⟨i', kd, M'⟩ := q
  cases hi
  match kd, h with
  | 0, h =>
    have h : popA (mN M') st [] (fun as r0 => pr r0 (fun k i r => match ktag k with
      | 0 => bq (Nat.beq (kcl k) (mK M') && Nat.ble (wsum r) 8) (callK G M' (vr k i :: as) μ r (fun st' μ' => nx (pc + 3) ls st' μ'))
      | _ => False)) := h
    obtain ⟨as, r0, e1, e2, g1⟩ := popA_c _ _ _ _ h
    obtain ⟨k, j, r, e3, g2⟩ := pr_c g1
    rw [List.append_nil] at g2
    rw [e2, e3]
    split at g2
    · rename_i ht
      obtain ⟨hb, g3⟩ := bq_c g2
      have hb := ok2 hb
      obtain ⟨Ψ, hC, hk⟩ := callK_c (pc := pc) (ls := ls) (M := M) (Φ := Φ) g3 (fun st1 μ1 hx => N _ _ _ _ hx)
      exact SS_callV hd hq ht (beqN hb.1) e1 (Nat.le_of_ble_eq_true hb.2) h4 h5 hC hk
    · exact g2.elim
  | n + 1, h => exact h.elim
theorem cpy_s {pc i : Nat} (hd : decode (mc M) pc = .ok (.invokestatic i, 3)) (hq : okA (my M).cls i = true) (h4 : 1 ≤ (mR M).frames) (h5 : 26 ≤ (mR M).locals) (N : ∀ pc1 ls1 st1 μ1, nx pc1 ls1 st1 μ1 → SS G M pc1 ls1 st1 μ1 Φ) (h : cpy st μ (fun st' μ' => nx (pc + 3) ls st' μ')) : SS G M pc ls st μ Φ := by
  unfold cpy at h
  split at h
  · split at h
    · rename_i t0
      obtain ⟨hb, hh, g1⟩ := bq_c h
      have hb := ok2 hb
      exact SS_copyI hd hq t0 (beqN hb.1) (Nat.le_of_ble_eq_true hb.2) h4 h5 hh (N _ _ _ _ g1)
    · rename_i t0
      obtain ⟨hb, hh, g1⟩ := bq_c h
      have hb := ok2 hb
      exact SS_copyL hd hq t0 (beqN hb.1) (Nat.le_of_ble_eq_true hb.2) h4 h5 hh (N _ _ _ _ g1)
    · exact h.elim
  · exact h.elim
theorem cS_s {pc i : Nat} {q : Nat × Nat × MS} (hd : decode (mc M) pc = .ok (.invokestatic i, 3)) (hq : okM (my M).cls q = true) (hi : i = q.1) (h3 : q.2.1 = 3 → 1 ≤ (mR M).frames ∧ 26 ≤ (mR M).locals) (h45 : q.2.1 ≠ 3 → (mR q.2.2).frames + 1 ≤ (mR M).frames ∧ 8 + (mL q.2.2 + 11) + (mR q.2.2).locals ≤ (mR M).locals) (N : ∀ pc1 ls1 st1 μ1, nx pc1 ls1 st1 μ1 → SS G M pc1 ls1 st1 μ1 Φ) (h : cS G q st μ (fun st' μ' => nx (pc + 3) ls st' μ')) : SS G M pc ls st μ Φ := by
  obtain ⟨i', kd, M'⟩ := q
  cases hi
  have main : (okC (my M).cls (i', 1, M') = true ∨ okC (my M).cls (i', 2, M') = true) → kd ≠ 3 → popA (mN M') st [] (fun as r => bq (Nat.ble (wsum r) 8) (callK G M' as μ r (fun st' μ' => nx (pc + 3) ls st' μ'))) → SS G M pc ls st μ Φ := by
    intro hq hn h
    obtain ⟨as, r, e1, e2, g1⟩ := popA_c _ _ _ _ h
    rw [List.append_nil] at g1
    rw [e2]
    obtain ⟨hb, g2⟩ := bq_c g1
    obtain ⟨Ψ, hC, hk⟩ := callK_c (pc := pc) (ls := ls) (M := M) (Φ := Φ) g2 (fun st1 μ1 hx => N _ _ _ _ hx)
    exact SS_callS hd hq e1 (Nat.le_of_ble_eq_true hb) (h45 hn).1 (h45 hn).2 hC hk
  match kd, h, hq, h3, main with
  | 0, h, _, _, _ => exact h.elim
  | 1, h, hq, _, main => exact main (Or.inl hq) (by decide) h
  | 2, h, hq, _, main => exact main (Or.inr hq) (by decide) h
  | 3, h, hq, h3, _ => exact cpy_s hd hq (h3 rfl).1 (h3 rfl).2 N h
  | n + 4, h, _, _, _ => exact h.elim
theorem gF_s {pc idx k i a f : Nat} {r : List Vl} (hd : decode (mc M) pc = .ok (.getfield idx, 3)) (hl : okF (my M).cls (idx, a, f) = true) (N : ∀ pc1 ls1 st1 μ1, nx pc1 ls1 st1 μ1 → SS G M pc1 ls1 st1 μ1 Φ) (h : gF k i a f μ (fun v => nx (pc + 3) ls (v :: r) μ)) : SS G M pc ls ((.ref k, i) :: r) μ Φ := by
  unfold gF at h
  split at h
  · rename_i ht
    obtain ⟨hb, g1⟩ := bq_c h
    clear h
    cases beqN hb
    split at g1
    · rename_i hf
      exact SS_get hd ht hl (fun H _ _ => ⟨by exact rfl, sv_f0 ht hf⟩) (N _ _ _ _ g1)
    · rename_i hf
      exact SS_get hd ht hl (fun H _ _ => ⟨by exact rfl, sv_f1 ht hf⟩) (N _ _ _ _ g1)
    · rename_i hf
      have hk9 := ((kt_tag k (by have := tag_lt ht (by decide); omega)).2.2.2.1 ht)
      have hlen : f < klen k := by
        obtain ⟨C, T, N, hc, hf', -⟩ := okF_c hl
        have := obj_tab k (by omega) ht
        rw [hc] at this
        rw [← Option.some.inj this]
        exact hf'
      exact SS_get hd ht hl (fun H _ hi => ⟨obj_rf k hk9 i hi f hlen hf, sv_f2 ht hf⟩) (N _ _ _ _ g1)
    · rename_i hf
      obtain ⟨C, T, N', hc, hf', -⟩ := okF_c hl
      obtain ⟨-, -, e1, e2⟩ := (cls_ty _ _ hc f hf').2.2 hf
      have hk9 := ((kt_tag k (by have := tag_lt ht (by decide); omega)).2.2.2.1 ht)
      have hk2 : k = 2 := by
        have : ∀ k, k < 9 → kcl k = 2 → k = 2 := by decide +kernel
        exact this k hk9 e1
      subst hk2
      subst e2
      by_cases hz : μ.1 2 i 1 = 0
      · rw [if_pos hz] at g1
        exact SS_get (v := vn) hd ht hl (fun H _ _ => ⟨rfl, by rw [sv_f3 ht hf, if_pos hz]; rfl⟩) (N _ _ _ _ g1)
      · rw [if_neg hz] at g1
        refine SS_get (v := vr 8 ((μ.1 2 i 1).toNatClampNeg - 1)) hd ht hl (fun H hH hi => ⟨vok_of ?_, by rw [sv_f3 ht hf, if_neg hz]; rfl⟩) (N _ _ _ _ g1)
        have hi : i < 1 := hi
        have hi0 : i = 0 := by omega
        subst hi0
        have h4 := hH.2
        show (μ.1 2 0 1).toInt.toNat - 1 < 4
        omega
    · exact g1.elim
  · exact h.elim
theorem pF_s {pc idx a f : Nat} (hd : decode (mc M) pc = .ok (.putfield idx, 3)) (hl : okF (my M).cls (idx, a, f) = true) (N : ∀ pc1 ls1 st1 μ1, nx pc1 ls1 st1 μ1 → SS G M pc1 ls1 st1 μ1 Φ) (h : pF st a f μ (fun r μ' => nx (pc + 3) ls r μ')) : SS G M pc ls st μ Φ := by
  have ne2 : ∀ (k i : Nat), ktag k = 0 → fc (kcl k) f ≠ 3 → ¬ (2 = k ∧ 0 = i ∧ 1 = f) := by
    rintro k i ht hf ⟨rfl, -, rfl⟩
    exact hf rfl
  unfold pF at h
  split at h
  · split at h
    · rename_i x e k i r k' ht
      obtain ⟨hb, g1⟩ := bq_c h
      clear h
      obtain ⟨hb, hf⟩ := ok2 hb
      cases beqN hb
      have hf := beqN hf
      refine SS_put (v := (.int x, e)) (μ' := wI μ k i f x) (ty := .int) hd ht hl (fun q hq hlt => (cls_ty _ _ hq f hlt).1 hf) rfl rfl (Or.inr trivial) (fun _ _ => by rw [sv_f0 ht hf, wI_eq]; rfl) (fun g hg => sv_same (wI_ne (fun q => hg q.2.2)) rfl) wI_oth (fun _ h4 => ?_) (N _ _ _ _ g1)
      rw [wI_ne (ne2 k i ht (by rw [hf]; decide))]
      exact h4
    · exact h.elim
  · split at h
    · rename_i x e k i r k' ht
      obtain ⟨hb, g1⟩ := bq_c h
      clear h
      obtain ⟨hb, hf⟩ := ok2 hb
      cases beqN hb
      have hf := beqN hf
      exact SS_put (v := (.long x, e)) (μ' := wL μ k i f x) (ty := .long) hd ht hl (fun q hq hlt => (cls_ty _ _ hq f hlt).2.1 hf) rfl rfl (Or.inr trivial) (fun _ _ => by rw [sv_f1 ht hf, wL_eq]; rfl) (fun g hg => sv_same rfl (wL_ne (fun q => hg q.2.2))) wL_oth (fun _ h4 => h4) (N _ _ _ _ g1)
    · exact h.elim
  · split at h
    · rename_i k' i' k i r k'' ht
      obtain ⟨hb, g1⟩ := bq_c h
      clear h
      obtain ⟨hb, hk8⟩ := ok2 hb
      obtain ⟨hb, hf⟩ := ok2 hb
      cases beqN hb
      cases beqN hk8
      have hf := beqN hf
      have hs : ∀ {v : Vl}, v = (.ref 8, i') → vok v → (nI (i' + 1)).toNatClampNeg = i' + 1 ∧ nI (i' + 1) ≠ 0 ∧ (nI (i' + 1)).toInt ≤ 4 := by
        rintro v rfl hv
        have hi : i' < 4 := vok_num hv
        refine ⟨nI_clamp (by omega), nI_ne0 (by omega) (by omega), ?_⟩
        rw [nI_toInt (by omega)]
        omega
      refine SS_put (v := (.ref 8, i')) (μ' := wI μ k i f (nI (i' + 1))) (ty := .object "ColdShares$Row") hd ht hl (fun q hq hlt => ⟨((cls_ty _ _ hq f hlt).2.2 hf).1, ((cls_ty _ _ hq f hlt).2.2 hf).2.1⟩) rfl rfl (Or.inr trivial) (fun hv _ => ?_) (fun g hg => sv_same (wI_ne (fun q => hg q.2.2)) rfl) wI_oth (fun hv h4 => ?_) (N _ _ _ _ g1)
      · obtain ⟨g1, g2, g3⟩ := hs rfl hv
        rw [sv_f3 ht hf, wI_eq, if_neg g2, g1]
        rfl
      · by_cases e : 2 = k ∧ 0 = i ∧ 1 = f
        · rw [show (wI μ k i f (nI (i' + 1))).1 2 0 1 = nI (i' + 1) from if_pos e]
          exact (hs rfl hv).2.2
        · rw [wI_ne e]
          exact h4
    · exact h.elim
  · exact h.elim
end S6
end
section
section S7
variable {G : Ge} {M : MS} {lk : Lk} {ls st : List Vl} {μ : Mm} {Φ : Ph} {nx : Nat → List Vl → List Vl → Mm → Prop}
theorem call_ok {i a len : Nat} (h : (Nat.beq len 3 && Nat.blt a lk.2.1.length && (match lk.2.1.getD a (0, 9, m0) with
      | (i', _, M') => Nat.beq i i' && Nat.ble ((mR M').frames + 1) (mR M).frames && Nat.ble (8 + (mL M' + 11) + (mR M').locals) (mR M).locals)) = true) : len = 3 ∧ lk.2.1.getD a (0, 9, m0) ∈ lk.2.1 ∧ i = (lk.2.1.getD a (0, 9, m0)).1 ∧ (mR (lk.2.1.getD a (0, 9, m0)).2.2).frames + 1 ≤ (mR M).frames ∧ 8 + (mL (lk.2.1.getD a (0, 9, m0)).2.2 + 11) + (mR (lk.2.1.getD a (0, 9, m0)).2.2).locals ≤ (mR M).locals := by
  obtain ⟨h, h2⟩ := ok2 h
  obtain ⟨h0, h1⟩ := ok2 h
  have hm := getD_mem (d := (0, 9, m0)) (Nat.le_of_ble_eq_true h1)
  generalize lk.2.1.getD a (0, 9, m0) = q at h2 hm
  obtain ⟨i', kd, M'⟩ := q
  obtain ⟨h2, h4⟩ := ok2 h2
  obtain ⟨h2, h3⟩ := ok2 h2
  exact ⟨beqN h0, hm, beqN h2, Nat.le_of_ble_eq_true h3, Nat.le_of_ble_eq_true h4⟩
theorem call_okS {i a len : Nat} (h : (Nat.beq len 3 && Nat.blt a lk.2.1.length && (match lk.2.1.getD a (0, 9, m0) with
      | (i', 3, _) => Nat.beq i i' && Nat.ble 1 (mR M).frames && Nat.ble 26 (mR M).locals
      | (i', _, M') => Nat.beq i i' && Nat.ble ((mR M').frames + 1) (mR M).frames && Nat.ble (8 + (mL M' + 11) + (mR M').locals) (mR M).locals)) = true) : len = 3 ∧ lk.2.1.getD a (0, 9, m0) ∈ lk.2.1 ∧ i = (lk.2.1.getD a (0, 9, m0)).1 ∧ ((lk.2.1.getD a (0, 9, m0)).2.1 = 3 → 1 ≤ (mR M).frames ∧ 26 ≤ (mR M).locals) ∧ ((lk.2.1.getD a (0, 9, m0)).2.1 ≠ 3 → (mR (lk.2.1.getD a (0, 9, m0)).2.2).frames + 1 ≤ (mR M).frames ∧ 8 + (mL (lk.2.1.getD a (0, 9, m0)).2.2 + 11) + (mR (lk.2.1.getD a (0, 9, m0)).2.2).locals ≤ (mR M).locals) := by
  obtain ⟨h, h2⟩ := ok2 h
  obtain ⟨h0, h1⟩ := ok2 h
  have hm := getD_mem (d := (0, 9, m0)) (Nat.le_of_ble_eq_true h1)
  generalize lk.2.1.getD a (0, 9, m0) = q at h2 hm
  obtain ⟨i', kd, M'⟩ := q
  by_cases hk : kd = 3
  · subst hk
    obtain ⟨h2, h4⟩ := ok2 h2
    obtain ⟨h2, h3⟩ := ok2 h2
    exact ⟨beqN h0, hm, beqN h2, fun _ => ⟨Nat.le_of_ble_eq_true h3, Nat.le_of_ble_eq_true h4⟩, fun h => absurd rfl h⟩
  · have h2 : (Nat.beq i i' && Nat.ble ((mR M').frames + 1) (mR M).frames && Nat.ble (8 + (mL M' + 11) + (mR M').locals) (mR M).locals) = true := by
      match kd, hk, h2 with
      | 0, _, h => exact h
      | 1, _, h => exact h
      | 2, _, h => exact h
      | 3, hk, _ => exact absurd rfl hk
      | n + 4, _, h => exact h
    obtain ⟨h2, h4⟩ := ok2 h2
    obtain ⟨h2, h3⟩ := ok2 h2
    exact ⟨beqN h0, hm, beqN h2, fun h => absurd h hk, fun _ => ⟨Nat.le_of_ble_eq_true h3, Nat.le_of_ble_eq_true h4⟩⟩
set_option maxHeartbeats 1000000 in
theorem stp_s (e : En) (hlk : okL (my M).cls lk) (hd : decode (mc M) e.1 = .ok (e.2.1, e.2.2.1)) (ho : okI M lk e = true) (N : ∀ pc1 ls1 st1 μ1, nx pc1 ls1 st1 μ1 → SS G M pc1 ls1 st1 μ1 Φ) (h : stp G M lk.2.1 e nx ls st μ Φ) : SS G M e.1 ls st μ Φ := by
  obtain ⟨pc, ins, len, a, b, c, d, cs⟩ := e
  replace hd : decode (mc M) pc = .ok (ins, len) := hd
  show SS G M pc ls st μ Φ
  cases ins
  case iconst n =>
    obtain ⟨h0, hc⟩ := ok2 ho
    cases beqN h0
    exact s_iconst hd (of_decide_eq_true hc) N h
  case bipush n =>
    obtain ⟨h0, hc⟩ := ok2 ho
    cases beqN h0
    exact s_bipush hd (of_decide_eq_true hc) N h
  case sipush n =>
    obtain ⟨h0, hc⟩ := ok2 ho
    cases beqN h0
    exact s_sipush hd (of_decide_eq_true hc) N h
  case ldc i =>
    obtain ⟨h0, hc⟩ := ok2 ho
    cases beqN h0
    exact s_ldc hd (hlk.2.2.1 _ (of_decide_eq_true hc)) N h
  case ldc_w i =>
    obtain ⟨h0, hc⟩ := ok2 ho
    cases beqN h0
    exact s_ldc_w hd (hlk.2.2.1 _ (of_decide_eq_true hc)) N h
  case lconst n =>
    obtain ⟨h0, hc⟩ := ok2 ho
    cases beqN h0
    exact s_lconst hd (of_decide_eq_true hc) N h
  case ldc2_w i =>
    obtain ⟨h0, hc⟩ := ok2 ho
    cases beqN h0
    exact s_ldc2_w hd (hlk.2.2.2.1 _ (of_decide_eq_true hc)) N h
  case iload_n k =>
    cases beqN ho
    obtain ⟨x, i, hx, g1⟩ := lI_c h
    exact s_iload_n hd hx N g1
  case iload k =>
    cases beqN ho
    obtain ⟨x, i, hx, g1⟩ := lI_c h
    exact s_iload hd hx N g1
  case lload_n k =>
    cases beqN ho
    obtain ⟨x, i, hx, g1⟩ := lJ_c h
    exact s_lload_n hd hx N g1
  case lload k =>
    cases beqN ho
    obtain ⟨x, i, hx, g1⟩ := lJ_c h
    exact s_lload hd hx N g1
  case aload_n k =>
    cases beqN ho
    obtain ⟨x, i, hx, g1⟩ := lA_c h
    exact s_aload_n hd hx N g1
  case aload k =>
    cases beqN ho
    obtain ⟨x, i, hx, g1⟩ := lA_c h
    exact s_aload hd hx N g1
  case istore_n k =>
    cases beqN ho
    exact s_istore_n hd N h
  case istore k =>
    cases beqN ho
    exact s_istore hd N h
  case lstore_n k =>
    cases beqN ho
    exact s_lstore_n hd N h
  case lstore k =>
    cases beqN ho
    exact s_lstore hd N h
  case astore_n k =>
    cases beqN ho
    exact s_astore_n hd N h
  case astore k =>
    cases beqN ho
    exact s_astore hd N h
  case iinc k n =>
    obtain ⟨h0, hc⟩ := ok2 ho
    cases beqN h0
    obtain ⟨x, i, hx, g1⟩ := lI_c h
    exact s_iinc hd (of_decide_eq_true hc) hx N g1
  case iadd =>
    cases beqN ho
    exact s_iadd hd N h
  case isub =>
    cases beqN ho
    exact s_isub hd N h
  case imul =>
    cases beqN ho
    exact s_imul hd N h
  case iand =>
    cases beqN ho
    exact s_iand hd N h
  case ior =>
    cases beqN ho
    exact s_ior hd N h
  case ishl =>
    cases beqN ho
    exact s_ishl hd N h
  case ishr =>
    cases beqN ho
    exact s_ishr hd N h
  case iushr =>
    cases beqN ho
    exact s_iushr hd N h
  case idiv =>
    cases beqN ho
    exact s_idiv hd N h
  case ladd =>
    cases beqN ho
    exact s_ladd hd N h
  case lmul =>
    cases beqN ho
    exact s_lmul hd N h
  case ldiv =>
    cases beqN ho
    exact s_ldiv hd N h
  case lrem =>
    cases beqN ho
    exact s_lrem hd N h
  case lneg =>
    cases beqN ho
    exact s_lneg hd N h
  case lcmp =>
    cases beqN ho
    exact s_lcmp hd N h
  case i2l =>
    cases beqN ho
    exact s_i2l hd N h
  case l2i =>
    cases beqN ho
    exact s_l2i hd N h
  case i2b =>
    cases beqN ho
    exact s_i2b hd N h
  case dup =>
    cases beqN ho
    match st, h with
    | v :: r, h => exact s_dup hd rfl N h
  case pop =>
    cases beqN ho
    match st, h with
    | v :: r, h => exact s_pop hd rfl N h
  case dup2 =>
    cases beqN ho
    match st, h with
    | v :: w :: r, h => exact s_dup2 hd rfl N h
  case goto off =>
    obtain ⟨h0, hc⟩ := ok2 ho
    cases beqN h0
    exact s_goto hd (of_decide_eq_true hc) N h
  case ifCond cd off =>
    obtain ⟨h0, hc⟩ := ok2 ho
    cases beqN h0
    cases cd
    case eq => exact s_if_eq hd (of_decide_eq_true hc) N h
    case ne => exact s_if_ne hd (of_decide_eq_true hc) N h
    case lt => exact s_if_lt hd (of_decide_eq_true hc) N h
    case ge => exact s_if_ge hd (of_decide_eq_true hc) N h
    case gt => exact s_if_gt hd (of_decide_eq_true hc) N h
    case le => exact s_if_le hd (of_decide_eq_true hc) N h
  case if_icmp cd off =>
    obtain ⟨h0, hc⟩ := ok2 ho
    cases beqN h0
    cases cd
    case eq => exact s_icmp_eq hd (of_decide_eq_true hc) N h
    case ne => exact s_icmp_ne hd (of_decide_eq_true hc) N h
    case lt => exact s_icmp_lt hd (of_decide_eq_true hc) N h
    case ge => exact s_icmp_ge hd (of_decide_eq_true hc) N h
    case gt => exact s_icmp_gt hd (of_decide_eq_true hc) N h
    case le => exact s_icmp_le hd (of_decide_eq_true hc) N h
  case ifnull off =>
    obtain ⟨h0, hc⟩ := ok2 ho
    cases beqN h0
    match st, h with
    | (.null, e1) :: r, h => exact s_ifnullN rfl hd (of_decide_eq_true hc) N h
    | (.ref x, e1) :: r, h => exact s_ifnullR rfl hd N h
  case tableswitch dflt lo hi offs =>
    obtain ⟨x, e1, r, rfl, g1⟩ := p1_c h
    exact SS_table hd ho N g1
  case lookupswitch dflt ps =>
    obtain ⟨x, e1, r, rfl, g1⟩ := p1_c h
    exact SS_lookup hd ho N g1
  case getfield i =>
    obtain ⟨h0, hc⟩ := ok2 ho
    cases beqN h0
    obtain ⟨k, j, r, rfl, g1⟩ := pr_c h
    exact gF_s hd (hlk.1 _ (of_decide_eq_true hc)) N g1
  case putfield i =>
    obtain ⟨h0, hc⟩ := ok2 ho
    cases beqN h0
    exact pF_s hd (hlk.1 _ (of_decide_eq_true hc)) N h
  case getstatic i =>
    obtain ⟨h0, hc⟩ := ok2 ho
    cases beqN h0
    exact SS_gets hd (hlk.2.2.2.2 _ (of_decide_eq_true hc)) (N _ _ _ _ h)
  case iaload =>
    cases beqN ho
    obtain ⟨j, e1, k, i, r, rfl, g1⟩ := pa_c h
    split at g1
    · rename_i ht
      exact SS_iald hd ht g1.1 (N _ _ _ _ g1.2)
    · rename_i ht
      exact SS_rald hd ht g1.1 (N _ _ _ _ g1.2)
    · rename_i ht
      exact SS_sald hd ht g1.1 (N _ _ _ _ g1.2)
    · exact g1.elim
  case laload =>
    cases beqN ho
    obtain ⟨j, e1, k, i, r, rfl, g1⟩ := pa_c h
    split at g1
    · rename_i ht
      exact SS_lald hd ht g1.1 (N _ _ _ _ g1.2)
    · exact g1.elim
  case baload =>
    cases beqN ho
    obtain ⟨j, e1, k, i, r, rfl, g1⟩ := pa_c h
    split at g1
    · rename_i ht
      exact SS_bald hd ht g1.1 (N _ _ _ _ g1.2)
    · rename_i ht
      exact SS_zald hd ht g1.1 (N _ _ _ _ g1.2)
    · exact g1.elim
  case aaload =>
    cases beqN ho
    obtain ⟨j, e1, k, i, r, rfl, g1⟩ := pa_c h
    split at g1
    · rename_i ht
      exact SS_aald hd ht g1.1 (N _ _ _ _ g1.2)
    · exact g1.elim
  case iastore =>
    cases beqN ho
    obtain ⟨x, e1, j, e2, k, i, r, rfl, g1⟩ := ps_c h
    split at g1
    · rename_i ht
      exact SS_iast hd ht g1.1 (N _ _ _ _ g1.2)
    · exact g1.elim
  case lastore =>
    cases beqN ho
    obtain ⟨x, e1, j, e2, k, i, r, rfl, g1⟩ := pls_c h
    split at g1
    · rename_i ht
      exact SS_last hd ht g1.1 (N _ _ _ _ g1.2)
    · exact g1.elim
  case bastore =>
    cases beqN ho
    obtain ⟨x, e1, j, e2, k, i, r, rfl, g1⟩ := ps_c h
    split at g1
    · rename_i ht
      exact SS_bast hd ht g1.1 (N _ _ _ _ g1.2)
    · rename_i ht
      exact SS_zast hd ht g1.1 (N _ _ _ _ g1.2)
    · exact g1.elim
  case arraylength =>
    cases beqN ho
    obtain ⟨k, i, r, rfl, g1⟩ := pr_c h
    split at g1
    · rename_i ht
      exact SS_alen hd (Or.inl ht) (N _ _ _ _ g1)
    · rename_i ht
      exact SS_alen hd (Or.inr ht) (N _ _ _ _ g1)
    · rename_i ht
      exact SS_slen hd ht (N _ _ _ _ g1)
    · exact g1.elim
  case invokevirtual i =>
    obtain ⟨rfl, hm, hi, h4, h5⟩ := call_ok ho
    exact cV_s hd (hlk.2.1 _ hm) hi h4 h5 N h
  case invokestatic i =>
    obtain ⟨rfl, hm, hi, h4, h5⟩ := call_okS ho
    exact cS_s hd (hlk.2.1 _ hm) hi h4 h5 N h
  case ireturn =>
    cases beqN ho
    replace h : eI M st μ Φ := h
    unfold eI at h
    split at h
    · split at h
      · rename_i hr
        intro p e s m args below meth c cells slots Q E R H locs L hH hS hL hl hst
        exact R _ μ H locs L pc h hH hS ⟨hd, Or.inl hr⟩
      · rename_i hr
        intro p e s m args below meth c cells slots Q E R H locs L hH hS hL hl hst
        exact R _ μ H locs L pc h.2 hH hS ⟨hd, Or.inr ⟨hr, h.1⟩⟩
      · exact h.elim
    · exact h.elim
  case lreturn =>
    cases beqN ho
    replace h : eJ M st μ Φ := h
    unfold eJ at h
    split at h
    · split at h
      · rename_i hr
        intro p e s m args below meth c cells slots Q E R H locs L hH hS hL hl hst
        exact R _ μ H locs L pc h hH hS ⟨hd, hr⟩
      · exact h.elim
    · exact h.elim
  case return_ =>
    cases beqN ho
    replace h : eV M st μ Φ := h
    unfold eV at h
    split at h
    · split at h
      · rename_i hr
        intro p e s m args below meth c cells slots Q E R H locs L hH hS hL hl hst
        exact R _ μ H locs L pc h hH hS ⟨hd, hr⟩
      · exact h.elim
    · exact h.elim
  all_goals exact False.elim h
theorem fnd_c {pc : Nat} {tb : List En} {e : En} (h : fnd pc tb = some e) : e ∈ tb ∧ e.1 = pc := by
  induction tb with
  | nil => cases h
  | cons x l ih =>
    unfold fnd at h
    split at h
    · rename_i hb
      cases h
      exact ⟨List.mem_cons_self, beqN hb⟩
    · exact ⟨List.mem_cons_of_mem _ (ih h).1, (ih h).2⟩
/-- all of a block's rows are as the code has them -/
def okB (M : MS) (lk : Lk) (tb : List En) : Bool := tb.all (fun e => decide (decode (mc M) e.1 = .ok (e.2.1, e.2.2.1)) && okI M lk e)
theorem wp_s {tb : List En} {cu : List (Nat × List Bool)} (hlk : okL (my M).cls lk) (hok : okB M lk tb = true) : ∀ (n : Nat) (fst : Bool) (pc : Nat) (ls st : List Vl) (μ : Mm), wp G M lk.2.1 tb cu Φ n fst pc ls st μ → SS G M pc ls st μ Φ := by
  intro n
  induction n with
  | zero => intro fst pc ls st μ h; exact h.elim
  | succ n ih =>
    intro fst pc ls st μ h
    unfold wp at h
    split at h
    · rename_i bs hbs
      intro p e s m args below meth c cells slots Q E R H locs L hH hS hL hl hst
      exact h p e s m args below meth c cells slots Q E R H locs L hH hS (lR_msk bs hL) (vld_msk bs hl) hst
    · split at h
      · rename_i e he
        obtain ⟨hm, rfl⟩ := fnd_c he
        have hq := ok2 (List.all_eq_true.mp hok e hm)
        exact stp_s e hlk (of_decide_eq_true hq.1) hq.2 (fun pc1 ls1 st1 μ1 hx => ih false pc1 ls1 st1 μ1 hx) h
      · exact h.elim
/-- the locals at the beginning -/
def entL : Nat → List Vl → List Vl
  | n, [] => List.replicate n un
  | n, v :: vs => match vcat v with
    | 2 => v :: un :: entL (n - 2) vs
    | _ => v :: entL (n - 1) vs
theorem vcat_12 (v : Vl) : vcat v = v.1.category ∧ (vcat v = 1 ∨ vcat v = 2) := by
  obtain ⟨a, b⟩ := v
  cases a <;> first | exact ⟨rfl, Or.inl rfl⟩ | exact ⟨rfl, Or.inr rfl⟩
theorem lp_un (G : Ge) : ∀ (n b : Nat), lp G b (List.replicate n un) = []
  | 0, _ => rfl
  | n + 1, b => lp_un G n (b + 1)
theorem lp_ent (G : Ge) : ∀ (as : List Vl) (n b : Nat) (q : Nat × Value), q ∈ lp G b (entL n as) → q ∈ lv_args b (as.map (mv G))
  | [], n, b, q, h => by
    rw [show entL n [] = List.replicate n un from rfl, lp_un] at h
    cases h
  | v :: vs, n, b, q, h => by
    have hc := vcat_12 v
    have hargs : lv_args b ((v :: vs).map (mv G)) = (b, mv G v) :: lv_args (if (mv G v).category = 2 then b + 2 else b + 1) (vs.map (mv G)) := rfl
    rw [hargs, mv_cat, ← hc.1]
    have hcons : ∀ l : List Vl, q ∈ lp G b (v :: l) → q = (b, mv G v) ∨ q ∈ lp G (b + 1) l := by
      intro l hq
      obtain ⟨a1, a2⟩ := v
      cases a1 <;> first | exact Or.inr hq | exact List.mem_cons.mp hq
    rcases hc.2 with e | e
    · rw [show entL n (v :: vs) = v :: entL (n - 1) vs by simp [entL, e]] at h
      rw [if_neg (by rw [e]; decide)]
      rcases hcons _ h with rfl | h
      · exact List.mem_cons_self
      · exact List.mem_cons_of_mem _ (lp_ent G vs (n - 1) (b + 1) q h)
    · rw [show entL n (v :: vs) = v :: un :: entL (n - 2) vs by simp [entL, e]] at h
      rw [if_pos e]
      rcases hcons _ h with rfl | h
      · exact List.mem_cons_self
      · exact List.mem_cons_of_mem _ (lp_ent G vs (n - 2) (b + 2) q h)
theorem vld_ent : ∀ (as : List Vl) (n : Nat), vld as → vld (entL n as)
  | [], n, _ => by
    intro u hu
    rw [List.eq_of_mem_replicate (show u ∈ List.replicate n un from hu)]
    exact vok_un
  | v :: vs, n, h => by
    rcases (vcat_12 v).2 with e | e
    · rw [show entL n (v :: vs) = v :: entL (n - 1) vs by simp [entL, e]]
      exact vld_cons (vld_hd h) (vld_ent vs _ (vld_tl h))
    · rw [show entL n (v :: vs) = v :: un :: entL (n - 2) vs by simp [entL, e]]
      exact vld_cons (vld_hd h) (vld_cons vok_un (vld_ent vs _ (vld_tl h)))
theorem lg_len (G : Ge) : ∀ as : List Vl, (lg_sl (as.map (mv G))).length = wsum as
  | [] => rfl
  | v :: vs => by
    have h := lg_len G vs
    rw [List.map_cons]
    unfold lg_sl at h ⊢
    rw [List.flatMap_cons, List.length_append, h, mv_cat, ← (vcat_12 v).1]
    rcases (vcat_12 v).2 with e | e
    · rw [if_neg (by rw [e]; decide)]
      show 1 + wsum vs = vcat v + wsum vs
      rw [e]
    · rw [if_pos e]
      show 2 + wsum vs = vcat v + wsum vs
      rw [e]
/-- a contract out of the walk of the body -/
theorem CS_of {as : List Vl} (hy : plainName (my M).cls = true) (hn : wsum as ≤ mL M) (h : SS G M 0 (entL (mL M) as) [] μ Φ) : CS G M as μ Φ := by
  refine Met.ofW (cc := mc M) (maxL := mL M) (ret := mr M) hy rfl ?_
  intro p e s m args below meth c s₁ B hml hv
  obtain ⟨rfl, hvl, hK, hH⟩ := hv
  have hts := atoms_spec (ws := mws M) B.pre
  have hown : s.vm.findClass (my M).cls = some m.cls := findClass_of_methodNamed B.named
  have hl := lv_entry (as.map (mv G)) (n := mL M) (by rw [lg_len]; exact hn)
  rw [lg_entry_eq]
  generalize (lg_sl (as.map (mv G)) ++ List.replicate (mL M - (lg_sl (as.map (mv G))).length) Slot.unset).toArray = L at hl ⊢
  have hlocks := B.notSynchronized
  have hx := B.exec
  have hb := B.bytes
  refine h p e s m _ below meth c 0 0 _ ⟨B.exec, B.bytes, B.returns, B.notSynchronized, hml, hown, fun w hw => hts w (List.mem_cons_of_mem _ hw), hK, Nat.zero_le _, Nat.zero_le _⟩ ?_ s.heap [] L hH va_S.rf (lv_mono hl (fun q hq => lp_ent G as (mL M) 0 q hq)) (vld_ent as _ hvl) (fun u hu => by cases hu)
  intro r μ' H locs L' pc hΦ hH' hS hm
  match r, hm with
  | some (.int v), hm =>
    rcases hm.2 with hr | ⟨hr, hv⟩
    · exact W.iret (v := v) hx hb (by rw [B.returns]; exact hr) (fun t ht hW => ⟨⟨_, μ', rfl, hΦ, by rw [ht]; exact hH'⟩, hS.F ht⟩) hS.2.2 hm.1
    · exact W.zret (v := v) (ty := .boolean) hx hb (by rw [B.returns]; exact hr) (by rcases hv with rfl | rfl <;> decide) (fun t ht hW => ⟨⟨_, μ', rfl, hΦ, by rw [ht]; exact hH'⟩, hS.F ht⟩) hS.2.2 hm.1
  | some (.long v), hm =>
    exact W.lret (v := v) hx hb (by rw [B.returns]; exact hm.2) (fun t ht hW => ⟨⟨_, μ', rfl, hΦ, by rw [ht]; exact hH'⟩, hS.F ht⟩) hS.2.2 hm.1
  | none, hm =>
    exact W.vret hx hb (by rw [B.returns]; exact hm.2) (fun t ht hW => ⟨⟨_, μ', rfl, hΦ, by rw [ht]; exact hH'⟩, hS.F ht⟩) hS.2.2 hm.1
  | some (.float _), hm => exact hm.elim
  | some (.double _), hm => exact hm.elim
  | some .null, hm => exact hm.elim
  | some (.ref _), hm => exact hm.elim
  | some (.retAddr _), hm => exact hm.elim
end S7
end
