section
-- ===== PART A: goes FIRST, ahead of the names: the tables' words, and 'selects' of the private methods out of them =====
/-- a private method of a class that the tables say can be made, by its rows of tables_1 -/
def lw_okq (q : MethodName × Nat) : Prop := (q.1.cls ≠ "java/lang/invoke/MethodHandle" ∧ q.1.cls ≠ "java/lang/invoke/VarHandle") ∧ Cond.instantiable q.1.cls q.2 ∈ tables_1 ∧ Cond.privateMethod q.1 ∈ tables_1 ∧ Cond.instanceMethod q.1 ∈ tables_1
theorem lw_p0 : lw_okq (⟨"CountOut$Page", "reads", "(I)Z"⟩, 8) := ⟨⟨by decide +kernel, by decide +kernel⟩, List.mem_of_getElem? (i := 106) (by decide +kernel), List.mem_of_getElem? (i := 216) (by decide +kernel), List.mem_of_getElem? (i := 217) (by decide +kernel)⟩
theorem lw_p1 : lw_okq (⟨"CountOut$Page", "readsTens", "(I)Z"⟩, 8) := ⟨⟨by decide +kernel, by decide +kernel⟩, List.mem_of_getElem? (i := 106) (by decide +kernel), List.mem_of_getElem? (i := 220) (by decide +kernel), List.mem_of_getElem? (i := 221) (by decide +kernel)⟩
theorem lw_p2 : lw_okq (⟨"CountOut$Page", "readsOnes", "(I)Z"⟩, 8) := ⟨⟨by decide +kernel, by decide +kernel⟩, List.mem_of_getElem? (i := 106) (by decide +kernel), List.mem_of_getElem? (i := 224) (by decide +kernel), List.mem_of_getElem? (i := 225) (by decide +kernel)⟩
theorem lw_p3 : lw_okq (⟨"CountOut$Page", "readsBetween", "(I)Z"⟩, 8) := ⟨⟨by decide +kernel, by decide +kernel⟩, List.mem_of_getElem? (i := 106) (by decide +kernel), List.mem_of_getElem? (i := 228) (by decide +kernel), List.mem_of_getElem? (i := 229) (by decide +kernel)⟩
theorem lw_p4 : lw_okq (⟨"CountOut$Page", "readsChild", "(I)Z"⟩, 8) := ⟨⟨by decide +kernel, by decide +kernel⟩, List.mem_of_getElem? (i := 106) (by decide +kernel), List.mem_of_getElem? (i := 232) (by decide +kernel), List.mem_of_getElem? (i := 233) (by decide +kernel)⟩
theorem lw_p5 : lw_okq (⟨"CountOut$Circle", "fallsOn", "(I)I"⟩, 9) := ⟨⟨by decide +kernel, by decide +kernel⟩, List.mem_of_getElem? (i := 30) (by decide +kernel), List.mem_of_getElem? (i := 414) (by decide +kernel), List.mem_of_getElem? (i := 415) (by decide +kernel)⟩
theorem lw_p6 : lw_okq (⟨"CountOut$Circle", "nextOf", "(II)I"⟩, 9) := ⟨⟨by decide +kernel, by decide +kernel⟩, List.mem_of_getElem? (i := 30) (by decide +kernel), List.mem_of_getElem? (i := 418) (by decide +kernel), List.mem_of_getElem? (i := 419) (by decide +kernel)⟩
theorem lw_p7 : lw_okq (⟨"CountOut$Circle", "slipOn", "(I)I"⟩, 9) := ⟨⟨by decide +kernel, by decide +kernel⟩, List.mem_of_getElem? (i := 30) (by decide +kernel), List.mem_of_getElem? (i := 423) (by decide +kernel), List.mem_of_getElem? (i := 424) (by decide +kernel)⟩
theorem lw_p8 : lw_okq (⟨"CountOut$Foresight", "worth", "(III)I"⟩, 8) := ⟨⟨by decide +kernel, by decide +kernel⟩, List.mem_of_getElem? (i := 143) (by decide +kernel), List.mem_of_getElem? (i := 530) (by decide +kernel), List.mem_of_getElem? (i := 531) (by decide +kernel)⟩
theorem lw_p9 : lw_okq (⟨"CountOut$Foresight", "shareOut", "(II)V"⟩, 8) := ⟨⟨by decide +kernel, by decide +kernel⟩, List.mem_of_getElem? (i := 143) (by decide +kernel), List.mem_of_getElem? (i := 552) (by decide +kernel), List.mem_of_getElem? (i := 553) (by decide +kernel)⟩
theorem lw_p10 : lw_okq (⟨"CountOut$Foresight", "mostLeft", "(II)I"⟩, 8) := ⟨⟨by decide +kernel, by decide +kernel⟩, List.mem_of_getElem? (i := 143) (by decide +kernel), List.mem_of_getElem? (i := 587) (by decide +kernel), List.mem_of_getElem? (i := 588) (by decide +kernel)⟩
theorem lw_p11 : lw_okq (⟨"CountOut$Foresight", "beatsDrawn", "(I)I"⟩, 8) := ⟨⟨by decide +kernel, by decide +kernel⟩, List.mem_of_getElem? (i := 143) (by decide +kernel), List.mem_of_getElem? (i := 603) (by decide +kernel), List.mem_of_getElem? (i := 604) (by decide +kernel)⟩
theorem lw_p12 : lw_okq (⟨"CountOutModel", "read", "()I"⟩, 50) := ⟨⟨by decide +kernel, by decide +kernel⟩, List.mem_of_getElem? (i := 651) (by decide +kernel), List.mem_of_getElem? (i := 823) (by decide +kernel), List.mem_of_getElem? (i := 824) (by decide +kernel)⟩
theorem lw_p13 : lw_okq (⟨"CountOutModel", "isFigure", "(II)Z"⟩, 50) := ⟨⟨by decide +kernel, by decide +kernel⟩, List.mem_of_getElem? (i := 651) (by decide +kernel), List.mem_of_getElem? (i := 827) (by decide +kernel), List.mem_of_getElem? (i := 828) (by decide +kernel)⟩
theorem lw_p14 : lw_okq (⟨"CountOutModel", "at", "(I)I"⟩, 50) := ⟨⟨by decide +kernel, by decide +kernel⟩, List.mem_of_getElem? (i := 651) (by decide +kernel), List.mem_of_getElem? (i := 831) (by decide +kernel), List.mem_of_getElem? (i := 832) (by decide +kernel)⟩
theorem lw_p15 : lw_okq (⟨"CountOutModel", "readChildren", "(I)I"⟩, 50) := ⟨⟨by decide +kernel, by decide +kernel⟩, List.mem_of_getElem? (i := 651) (by decide +kernel), List.mem_of_getElem? (i := 835) (by decide +kernel), List.mem_of_getElem? (i := 836) (by decide +kernel)⟩
def lw_privs_1 : List (MethodName × Nat) := [(⟨"CountOut$Page", "reads", "(I)Z"⟩, 8), (⟨"CountOut$Page", "readsTens", "(I)Z"⟩, 8), (⟨"CountOut$Page", "readsOnes", "(I)Z"⟩, 8), (⟨"CountOut$Page", "readsBetween", "(I)Z"⟩, 8), (⟨"CountOut$Page", "readsChild", "(I)Z"⟩, 8), (⟨"CountOut$Circle", "fallsOn", "(I)I"⟩, 9), (⟨"CountOut$Circle", "nextOf", "(II)I"⟩, 9), (⟨"CountOut$Circle", "slipOn", "(I)I"⟩, 9), (⟨"CountOut$Foresight", "worth", "(III)I"⟩, 8), (⟨"CountOut$Foresight", "shareOut", "(II)V"⟩, 8), (⟨"CountOut$Foresight", "mostLeft", "(II)I"⟩, 8), (⟨"CountOut$Foresight", "beatsDrawn", "(I)I"⟩, 8), (⟨"CountOutModel", "read", "()I"⟩, 50), (⟨"CountOutModel", "isFigure", "(II)Z"⟩, 50), (⟨"CountOutModel", "at", "(I)I"⟩, 50), (⟨"CountOutModel", "readChildren", "(I)I"⟩, 50)]
theorem lw_r1 : ∀ q ∈ lw_privs_1, lw_okq q := List.forall_mem_cons.mpr ⟨lw_p0, List.forall_mem_cons.mpr ⟨lw_p1, List.forall_mem_cons.mpr ⟨lw_p2, List.forall_mem_cons.mpr ⟨lw_p3, List.forall_mem_cons.mpr ⟨lw_p4, List.forall_mem_cons.mpr ⟨lw_p5, List.forall_mem_cons.mpr ⟨lw_p6, List.forall_mem_cons.mpr ⟨lw_p7, List.forall_mem_cons.mpr ⟨lw_p8, List.forall_mem_cons.mpr ⟨lw_p9, List.forall_mem_cons.mpr ⟨lw_p10, List.forall_mem_cons.mpr ⟨lw_p11, List.forall_mem_cons.mpr ⟨lw_p12, List.forall_mem_cons.mpr ⟨lw_p13, List.forall_mem_cons.mpr ⟨lw_p14, List.forall_mem_cons.mpr ⟨lw_p15, fun _ h => absurd h List.not_mem_nil⟩⟩⟩⟩⟩⟩⟩⟩⟩⟩⟩⟩⟩⟩⟩⟩
theorem lw_p16 : lw_okq (⟨"CountOutModel", "isChild", "(I)Z"⟩, 50) := ⟨⟨by decide +kernel, by decide +kernel⟩, List.mem_of_getElem? (i := 651) (by decide +kernel), List.mem_of_getElem? (i := 850) (by decide +kernel), List.mem_of_getElem? (i := 851) (by decide +kernel)⟩
theorem lw_p17 : lw_okq (⟨"CountOutModel", "childNow", "(II)I"⟩, 50) := ⟨⟨by decide +kernel, by decide +kernel⟩, List.mem_of_getElem? (i := 651) (by decide +kernel), List.mem_of_getElem? (i := 854) (by decide +kernel), List.mem_of_getElem? (i := 855) (by decide +kernel)⟩
theorem lw_p18 : lw_okq (⟨"CountOutModel", "beatsFor", "(I)I"⟩, 50) := ⟨⟨by decide +kernel, by decide +kernel⟩, List.mem_of_getElem? (i := 651) (by decide +kernel), List.mem_of_getElem? (i := 864) (by decide +kernel), List.mem_of_getElem? (i := 865) (by decide +kernel)⟩
theorem lw_p19 : lw_okq (⟨"CountOutModel", "lastBy", "(I)I"⟩, 50) := ⟨⟨by decide +kernel, by decide +kernel⟩, List.mem_of_getElem? (i := 651) (by decide +kernel), List.mem_of_getElem? (i := 868) (by decide +kernel), List.mem_of_getElem? (i := 869) (by decide +kernel)⟩
theorem lw_p20 : lw_okq (⟨"CountOutModel", "save", "()V"⟩, 50) := ⟨⟨by decide +kernel, by decide +kernel⟩, List.mem_of_getElem? (i := 651) (by decide +kernel), List.mem_of_getElem? (i := 872) (by decide +kernel), List.mem_of_getElem? (i := 873) (by decide +kernel)⟩
theorem lw_p21 : lw_okq (⟨"CountOutModel", "lastNow", "(I)I"⟩, 50) := ⟨⟨by decide +kernel, by decide +kernel⟩, List.mem_of_getElem? (i := 651) (by decide +kernel), List.mem_of_getElem? (i := 876) (by decide +kernel), List.mem_of_getElem? (i := 877) (by decide +kernel)⟩
theorem lw_p22 : lw_okq (⟨"CountOutModel", "isCount", "()Z"⟩, 50) := ⟨⟨by decide +kernel, by decide +kernel⟩, List.mem_of_getElem? (i := 651) (by decide +kernel), List.mem_of_getElem? (i := 880) (by decide +kernel), List.mem_of_getElem? (i := 881) (by decide +kernel)⟩
theorem lw_p23 : lw_okq (⟨"CountOutModel", "beatsIn", "()I"⟩, 50) := ⟨⟨by decide +kernel, by decide +kernel⟩, List.mem_of_getElem? (i := 651) (by decide +kernel), List.mem_of_getElem? (i := 887) (by decide +kernel), List.mem_of_getElem? (i := 888) (by decide +kernel)⟩
theorem lw_p24 : lw_okq (⟨"CountOutModel", "goCount", "(I)I"⟩, 50) := ⟨⟨by decide +kernel, by decide +kernel⟩, List.mem_of_getElem? (i := 651) (by decide +kernel), List.mem_of_getElem? (i := 891) (by decide +kernel), List.mem_of_getElem? (i := 892) (by decide +kernel)⟩
theorem lw_p25 : lw_okq (⟨"CountOutModel", "nextFrom", "(IZ)I"⟩, 50) := ⟨⟨by decide +kernel, by decide +kernel⟩, List.mem_of_getElem? (i := 651) (by decide +kernel), List.mem_of_getElem? (i := 895) (by decide +kernel), List.mem_of_getElem? (i := 896) (by decide +kernel)⟩
theorem lw_p26 : lw_okq (⟨"CountOutModel", "isSly", "(I)Z"⟩, 50) := ⟨⟨by decide +kernel, by decide +kernel⟩, List.mem_of_getElem? (i := 651) (by decide +kernel), List.mem_of_getElem? (i := 899) (by decide +kernel), List.mem_of_getElem? (i := 900) (by decide +kernel)⟩
theorem lw_p27 : lw_okq (⟨"CountOutModel", "isOther", "(I)Z"⟩, 50) := ⟨⟨by decide +kernel, by decide +kernel⟩, List.mem_of_getElem? (i := 651) (by decide +kernel), List.mem_of_getElem? (i := 903) (by decide +kernel), List.mem_of_getElem? (i := 904) (by decide +kernel)⟩
theorem lw_p28 : lw_okq (⟨"CountOutModel", "load", "()V"⟩, 50) := ⟨⟨by decide +kernel, by decide +kernel⟩, List.mem_of_getElem? (i := 651) (by decide +kernel), List.mem_of_getElem? (i := 907) (by decide +kernel), List.mem_of_getElem? (i := 908) (by decide +kernel)⟩
theorem lw_p29 : lw_okq (⟨"CountOutModel", "isVerse", "(I)Z"⟩, 50) := ⟨⟨by decide +kernel, by decide +kernel⟩, List.mem_of_getElem? (i := 651) (by decide +kernel), List.mem_of_getElem? (i := 919) (by decide +kernel), List.mem_of_getElem? (i := 920) (by decide +kernel)⟩
theorem lw_p30 : lw_okq (⟨"CountOutModel", "verseNow", "(II)I"⟩, 50) := ⟨⟨by decide +kernel, by decide +kernel⟩, List.mem_of_getElem? (i := 651) (by decide +kernel), List.mem_of_getElem? (i := 923) (by decide +kernel), List.mem_of_getElem? (i := 924) (by decide +kernel)⟩
theorem lw_p31 : lw_okq (⟨"CountOutModel", "outBy", "(II)I"⟩, 50) := ⟨⟨by decide +kernel, by decide +kernel⟩, List.mem_of_getElem? (i := 651) (by decide +kernel), List.mem_of_getElem? (i := 927) (by decide +kernel), List.mem_of_getElem? (i := 928) (by decide +kernel)⟩
def lw_privs_2 : List (MethodName × Nat) := [(⟨"CountOutModel", "isChild", "(I)Z"⟩, 50), (⟨"CountOutModel", "childNow", "(II)I"⟩, 50), (⟨"CountOutModel", "beatsFor", "(I)I"⟩, 50), (⟨"CountOutModel", "lastBy", "(I)I"⟩, 50), (⟨"CountOutModel", "save", "()V"⟩, 50), (⟨"CountOutModel", "lastNow", "(I)I"⟩, 50), (⟨"CountOutModel", "isCount", "()Z"⟩, 50), (⟨"CountOutModel", "beatsIn", "()I"⟩, 50), (⟨"CountOutModel", "goCount", "(I)I"⟩, 50), (⟨"CountOutModel", "nextFrom", "(IZ)I"⟩, 50), (⟨"CountOutModel", "isSly", "(I)Z"⟩, 50), (⟨"CountOutModel", "isOther", "(I)Z"⟩, 50), (⟨"CountOutModel", "load", "()V"⟩, 50), (⟨"CountOutModel", "isVerse", "(I)Z"⟩, 50), (⟨"CountOutModel", "verseNow", "(II)I"⟩, 50), (⟨"CountOutModel", "outBy", "(II)I"⟩, 50)]
theorem lw_r2 : ∀ q ∈ lw_privs_2, lw_okq q := List.forall_mem_cons.mpr ⟨lw_p16, List.forall_mem_cons.mpr ⟨lw_p17, List.forall_mem_cons.mpr ⟨lw_p18, List.forall_mem_cons.mpr ⟨lw_p19, List.forall_mem_cons.mpr ⟨lw_p20, List.forall_mem_cons.mpr ⟨lw_p21, List.forall_mem_cons.mpr ⟨lw_p22, List.forall_mem_cons.mpr ⟨lw_p23, List.forall_mem_cons.mpr ⟨lw_p24, List.forall_mem_cons.mpr ⟨lw_p25, List.forall_mem_cons.mpr ⟨lw_p26, List.forall_mem_cons.mpr ⟨lw_p27, List.forall_mem_cons.mpr ⟨lw_p28, List.forall_mem_cons.mpr ⟨lw_p29, List.forall_mem_cons.mpr ⟨lw_p30, List.forall_mem_cons.mpr ⟨lw_p31, fun _ h => absurd h List.not_mem_nil⟩⟩⟩⟩⟩⟩⟩⟩⟩⟩⟩⟩⟩⟩⟩⟩
theorem lw_p32 : lw_okq (⟨"CountOutModel", "beginNow", "(II)I"⟩, 50) := ⟨⟨by decide +kernel, by decide +kernel⟩, List.mem_of_getElem? (i := 651) (by decide +kernel), List.mem_of_getElem? (i := 966) (by decide +kernel), List.mem_of_getElem? (i := 967) (by decide +kernel)⟩
theorem lw_p33 : lw_okq (⟨"CountOutModel", "standNow", "(II)I"⟩, 50) := ⟨⟨by decide +kernel, by decide +kernel⟩, List.mem_of_getElem? (i := 651) (by decide +kernel), List.mem_of_getElem? (i := 974) (by decide +kernel), List.mem_of_getElem? (i := 975) (by decide +kernel)⟩
theorem lw_p34 : lw_okq (⟨"CountOutModel", "gameNow", "(III)I"⟩, 50) := ⟨⟨by decide +kernel, by decide +kernel⟩, List.mem_of_getElem? (i := 651) (by decide +kernel), List.mem_of_getElem? (i := 985) (by decide +kernel), List.mem_of_getElem? (i := 986) (by decide +kernel)⟩
theorem lw_p35 : lw_okq (⟨"CountOutModel", "layGame", "(II)I"⟩, 50) := ⟨⟨by decide +kernel, by decide +kernel⟩, List.mem_of_getElem? (i := 651) (by decide +kernel), List.mem_of_getElem? (i := 989) (by decide +kernel), List.mem_of_getElem? (i := 990) (by decide +kernel)⟩
theorem lw_p36 : lw_okq (⟨"CountOutModel", "playBy", "(IIII)I"⟩, 50) := ⟨⟨by decide +kernel, by decide +kernel⟩, List.mem_of_getElem? (i := 651) (by decide +kernel), List.mem_of_getElem? (i := 993) (by decide +kernel), List.mem_of_getElem? (i := 994) (by decide +kernel)⟩
theorem lw_p37 : lw_okq (⟨"CountOutModel", "foldGame", "(I)V"⟩, 50) := ⟨⟨by decide +kernel, by decide +kernel⟩, List.mem_of_getElem? (i := 651) (by decide +kernel), List.mem_of_getElem? (i := 997) (by decide +kernel), List.mem_of_getElem? (i := 998) (by decide +kernel)⟩
theorem lw_p38 : lw_okq (⟨"CountOutModel", "layLikely", "()V"⟩, 50) := ⟨⟨by decide +kernel, by decide +kernel⟩, List.mem_of_getElem? (i := 651) (by decide +kernel), List.mem_of_getElem? (i := 1005) (by decide +kernel), List.mem_of_getElem? (i := 1006) (by decide +kernel)⟩
theorem lw_p39 : lw_okq (⟨"CountOutModel", "enter", "(II)V"⟩, 50) := ⟨⟨by decide +kernel, by decide +kernel⟩, List.mem_of_getElem? (i := 651) (by decide +kernel), List.mem_of_getElem? (i := 1009) (by decide +kernel), List.mem_of_getElem? (i := 1010) (by decide +kernel)⟩
theorem lw_p40 : lw_okq (⟨"CountOutModel", "putDeep", "(II)V"⟩, 50) := ⟨⟨by decide +kernel, by decide +kernel⟩, List.mem_of_getElem? (i := 651) (by decide +kernel), List.mem_of_getElem? (i := 1013) (by decide +kernel), List.mem_of_getElem? (i := 1014) (by decide +kernel)⟩
theorem lw_p41 : lw_okq (⟨"CountOutModel", "layFaces", "(I)V"⟩, 50) := ⟨⟨by decide +kernel, by decide +kernel⟩, List.mem_of_getElem? (i := 651) (by decide +kernel), List.mem_of_getElem? (i := 1017) (by decide +kernel), List.mem_of_getElem? (i := 1018) (by decide +kernel)⟩
theorem lw_p42 : lw_okq (⟨"CountOutModel", "setDeep", "(I)V"⟩, 50) := ⟨⟨by decide +kernel, by decide +kernel⟩, List.mem_of_getElem? (i := 651) (by decide +kernel), List.mem_of_getElem? (i := 1021) (by decide +kernel), List.mem_of_getElem? (i := 1022) (by decide +kernel)⟩
theorem lw_p43 : lw_okq (⟨"CountOutModel", "endDeep", "(I)V"⟩, 50) := ⟨⟨by decide +kernel, by decide +kernel⟩, List.mem_of_getElem? (i := 651) (by decide +kernel), List.mem_of_getElem? (i := 1025) (by decide +kernel), List.mem_of_getElem? (i := 1026) (by decide +kernel)⟩
theorem lw_p44 : lw_okq (⟨"CountOutModel", "likeFaces", "(II)I"⟩, 50) := ⟨⟨by decide +kernel, by decide +kernel⟩, List.mem_of_getElem? (i := 651) (by decide +kernel), List.mem_of_getElem? (i := 1029) (by decide +kernel), List.mem_of_getElem? (i := 1030) (by decide +kernel)⟩
theorem lw_p45 : lw_okq (⟨"CountOutModel", "areAlike", "(II)Z"⟩, 50) := ⟨⟨by decide +kernel, by decide +kernel⟩, List.mem_of_getElem? (i := 651) (by decide +kernel), List.mem_of_getElem? (i := 1033) (by decide +kernel), List.mem_of_getElem? (i := 1034) (by decide +kernel)⟩
theorem lw_p46 : lw_okq (⟨"CountOutModel", "likelyNow", "(II)I"⟩, 50) := ⟨⟨by decide +kernel, by decide +kernel⟩, List.mem_of_getElem? (i := 651) (by decide +kernel), List.mem_of_getElem? (i := 1037) (by decide +kernel), List.mem_of_getElem? (i := 1038) (by decide +kernel)⟩
theorem lw_p47 : lw_okq (⟨"CountOutModel", "lengthsNow", "()I"⟩, 50) := ⟨⟨by decide +kernel, by decide +kernel⟩, List.mem_of_getElem? (i := 651) (by decide +kernel), List.mem_of_getElem? (i := 1056) (by decide +kernel), List.mem_of_getElem? (i := 1057) (by decide +kernel)⟩
def lw_privs_3 : List (MethodName × Nat) := [(⟨"CountOutModel", "beginNow", "(II)I"⟩, 50), (⟨"CountOutModel", "standNow", "(II)I"⟩, 50), (⟨"CountOutModel", "gameNow", "(III)I"⟩, 50), (⟨"CountOutModel", "layGame", "(II)I"⟩, 50), (⟨"CountOutModel", "playBy", "(IIII)I"⟩, 50), (⟨"CountOutModel", "foldGame", "(I)V"⟩, 50), (⟨"CountOutModel", "layLikely", "()V"⟩, 50), (⟨"CountOutModel", "enter", "(II)V"⟩, 50), (⟨"CountOutModel", "putDeep", "(II)V"⟩, 50), (⟨"CountOutModel", "layFaces", "(I)V"⟩, 50), (⟨"CountOutModel", "setDeep", "(I)V"⟩, 50), (⟨"CountOutModel", "endDeep", "(I)V"⟩, 50), (⟨"CountOutModel", "likeFaces", "(II)I"⟩, 50), (⟨"CountOutModel", "areAlike", "(II)Z"⟩, 50), (⟨"CountOutModel", "likelyNow", "(II)I"⟩, 50), (⟨"CountOutModel", "lengthsNow", "()I"⟩, 50)]
theorem lw_r3 : ∀ q ∈ lw_privs_3, lw_okq q := List.forall_mem_cons.mpr ⟨lw_p32, List.forall_mem_cons.mpr ⟨lw_p33, List.forall_mem_cons.mpr ⟨lw_p34, List.forall_mem_cons.mpr ⟨lw_p35, List.forall_mem_cons.mpr ⟨lw_p36, List.forall_mem_cons.mpr ⟨lw_p37, List.forall_mem_cons.mpr ⟨lw_p38, List.forall_mem_cons.mpr ⟨lw_p39, List.forall_mem_cons.mpr ⟨lw_p40, List.forall_mem_cons.mpr ⟨lw_p41, List.forall_mem_cons.mpr ⟨lw_p42, List.forall_mem_cons.mpr ⟨lw_p43, List.forall_mem_cons.mpr ⟨lw_p44, List.forall_mem_cons.mpr ⟨lw_p45, List.forall_mem_cons.mpr ⟨lw_p46, List.forall_mem_cons.mpr ⟨lw_p47, fun _ h => absurd h List.not_mem_nil⟩⟩⟩⟩⟩⟩⟩⟩⟩⟩⟩⟩⟩⟩⟩⟩
theorem lw_p48 : lw_okq (⟨"CountOutModel", "fromNow", "()I"⟩, 50) := ⟨⟨by decide +kernel, by decide +kernel⟩, List.mem_of_getElem? (i := 651) (by decide +kernel), List.mem_of_getElem? (i := 1064) (by decide +kernel), List.mem_of_getElem? (i := 1065) (by decide +kernel)⟩
theorem lw_p49 : lw_okq (⟨"CountOutModel", "worstFrom", "(II)I"⟩, 50) := ⟨⟨by decide +kernel, by decide +kernel⟩, List.mem_of_getElem? (i := 651) (by decide +kernel), List.mem_of_getElem? (i := 1069) (by decide +kernel), List.mem_of_getElem? (i := 1070) (by decide +kernel)⟩
theorem lw_p50 : lw_okq (⟨"CountOutModel", "roundsNow", "(III)I"⟩, 50) := ⟨⟨by decide +kernel, by decide +kernel⟩, List.mem_of_getElem? (i := 651) (by decide +kernel), List.mem_of_getElem? (i := 1077) (by decide +kernel), List.mem_of_getElem? (i := 1078) (by decide +kernel)⟩
theorem lw_p51 : lw_okq (⟨"CountOutModel", "draw", "(I)I"⟩, 50) := ⟨⟨by decide +kernel, by decide +kernel⟩, List.mem_of_getElem? (i := 651) (by decide +kernel), List.mem_of_getElem? (i := 1081) (by decide +kernel), List.mem_of_getElem? (i := 1082) (by decide +kernel)⟩
theorem lw_p52 : lw_okq (⟨"CountOutModel", "howMany", "(I)I"⟩, 50) := ⟨⟨by decide +kernel, by decide +kernel⟩, List.mem_of_getElem? (i := 651) (by decide +kernel), List.mem_of_getElem? (i := 1101) (by decide +kernel), List.mem_of_getElem? (i := 1102) (by decide +kernel)⟩
theorem lw_p53 : lw_okq (⟨"CountOutModel", "mix", "(J)V"⟩, 50) := ⟨⟨by decide +kernel, by decide +kernel⟩, List.mem_of_getElem? (i := 651) (by decide +kernel), List.mem_of_getElem? (i := 1110) (by decide +kernel), List.mem_of_getElem? (i := 1111) (by decide +kernel)⟩
theorem lw_p54 : lw_okq (⟨"CountOutModel", "mixRing", "()V"⟩, 50) := ⟨⟨by decide +kernel, by decide +kernel⟩, List.mem_of_getElem? (i := 651) (by decide +kernel), List.mem_of_getElem? (i := 1115) (by decide +kernel), List.mem_of_getElem? (i := 1116) (by decide +kernel)⟩
def lw_privs_4 : List (MethodName × Nat) := [(⟨"CountOutModel", "fromNow", "()I"⟩, 50), (⟨"CountOutModel", "worstFrom", "(II)I"⟩, 50), (⟨"CountOutModel", "roundsNow", "(III)I"⟩, 50), (⟨"CountOutModel", "draw", "(I)I"⟩, 50), (⟨"CountOutModel", "howMany", "(I)I"⟩, 50), (⟨"CountOutModel", "mix", "(J)V"⟩, 50), (⟨"CountOutModel", "mixRing", "()V"⟩, 50)]
theorem lw_r4 : ∀ q ∈ lw_privs_4, lw_okq q := List.forall_mem_cons.mpr ⟨lw_p48, List.forall_mem_cons.mpr ⟨lw_p49, List.forall_mem_cons.mpr ⟨lw_p50, List.forall_mem_cons.mpr ⟨lw_p51, List.forall_mem_cons.mpr ⟨lw_p52, List.forall_mem_cons.mpr ⟨lw_p53, List.forall_mem_cons.mpr ⟨lw_p54, fun _ h => absurd h List.not_mem_nil⟩⟩⟩⟩⟩⟩⟩
def lw_privs : List (MethodName × Nat) := lw_privs_1 ++ (lw_privs_2 ++ (lw_privs_3 ++ (lw_privs_4)))
def lw_tbl : List Cond := k2_sels lw_privs ++ tables_1
theorem lw_privs_ok : ∀ q ∈ lw_privs, lw_okq q := by
  show ∀ q ∈ lw_privs_1 ++ (lw_privs_2 ++ (lw_privs_3 ++ (lw_privs_4))), lw_okq q
  exact List.forall_mem_append.mpr ⟨lw_r1, List.forall_mem_append.mpr ⟨lw_r2, List.forall_mem_append.mpr ⟨lw_r3, lw_r4⟩⟩⟩
end
section
def RX0 : String := "CountOut$Circle"
def TX0 : u_T := fun k => match k with
  | 0 => ("CountOut$Circle", "size", "I", false)
  | 1 => ("CountOut$Circle", "twins", "I", false)
  | 2 => ("CountOut$Circle", "babies", "I", false)
  | 3 => ("CountOut$Circle", "sly", "I", false)
  | 4 => ("CountOut$Circle", "kings", "I", false)
  | 5 => ("CountOut$Circle", "inside", "I", false)
  | 6 => ("CountOut$Circle", "slipped", "I", false)
  | 7 => ("CountOut$Circle", "first", "I", false)
  | _ => ("CountOut$Circle", "onward", "Z", false)
def tyX0 : Nat → FieldType := fun k => match k with
  | 0 => .int
  | 1 => .int
  | 2 => .int
  | 3 => .int
  | 4 => .int
  | 5 => .int
  | 6 => .int
  | 7 => .int
  | _ => .boolean
abbrev wsX00 : List Cond := u_ws RX0 TX0 9
theorem nmX0 : ∀ a, a < 9 → ∀ b, b < 9 → a ≠ b → (TX0 a).2.1 ≠ (TX0 b).2.1 := by decide +kernel
theorem tyX0_ok : ∀ k, k < 9 → parseFieldDescriptor (TX0 k).2.2.1 = some (tyX0 k) := by decide +kernel
abbrev cX0_init : ByteArray := prog_2_method_1_code
def yX0_init : MethodName := ⟨RX0, "<init>", "()V"⟩
abbrev cX0_clear : ByteArray := prog_2_method_2_code
def yX0_clear : MethodName := ⟨RX0, "clear", "()V"⟩
abbrev cX0_takeAll : ByteArray := prog_2_method_3_code
def yX0_takeAll : MethodName := ⟨RX0, "takeAll", "(LCountOut$Circle;)V"⟩
abbrev cX0_addBehind : ByteArray := prog_2_method_4_code
def yX0_addBehind : MethodName := ⟨RX0, "addBehind", "(I)V"⟩
abbrev cX0_addAhead : ByteArray := prog_2_method_5_code
def yX0_addAhead : MethodName := ⟨RX0, "addAhead", "(II)V"⟩
abbrev cX0_movedUp : ByteArray := prog_2_method_6_code
def yX0_movedUp : MethodName := ⟨RX0, "movedUp", "(II)I"⟩
abbrev cX0_become : ByteArray := prog_2_method_7_code
def yX0_become : MethodName := ⟨RX0, "become", "(II)V"⟩
abbrev cX0_kindOf : ByteArray := prog_2_method_8_code
def yX0_kindOf : MethodName := ⟨RX0, "kindOf", "(I)I"⟩
abbrev cX0_isIn : ByteArray := prog_2_method_9_code
def yX0_isIn : MethodName := ⟨RX0, "isIn", "(I)Z"⟩
abbrev cX0_hasSlipped : ByteArray := prog_2_method_10_code
def yX0_hasSlipped : MethodName := ⟨RX0, "hasSlipped", "(I)Z"⟩
abbrev cX0_takenBy : ByteArray := prog_2_method_11_code
def yX0_takenBy : MethodName := ⟨RX0, "takenBy", "(I)I"⟩
abbrev cX0_takenTogether : ByteArray := prog_2_method_12_code
def yX0_takenTogether : MethodName := ⟨RX0, "takenTogether", "()I"⟩
abbrev cX0_howManyIn : ByteArray := prog_2_method_13_code
def yX0_howManyIn : MethodName := ⟨RX0, "howManyIn", "()I"⟩
abbrev cX0_onlyOneIn : ByteArray := prog_2_method_14_code
def yX0_onlyOneIn : MethodName := ⟨RX0, "onlyOneIn", "()I"⟩
abbrev cX0_allComeBack : ByteArray := prog_2_method_15_code
def yX0_allComeBack : MethodName := ⟨RX0, "allComeBack", "()V"⟩
abbrev cX0_canCount : ByteArray := prog_2_method_16_code
def yX0_canCount : MethodName := ⟨RX0, "canCount", "()Z"⟩
abbrev cX0_putOut : ByteArray := prog_2_method_17_code
def yX0_putOut : MethodName := ⟨RX0, "putOut", "(I)I"⟩
abbrev cX0_countDown : ByteArray := prog_2_method_18_code
def yX0_countDown : MethodName := ⟨RX0, "countDown", "(I)I"⟩
abbrev cX0_fallsOn : ByteArray := prog_2_method_19_code
def yX0_fallsOn : MethodName := ⟨RX0, "fallsOn", "(I)I"⟩
abbrev cX0_slipOn : ByteArray := prog_2_method_20_code
def yX0_slipOn : MethodName := ⟨RX0, "slipOn", "(I)I"⟩
abbrev cX0_nextOf : ByteArray := prog_2_method_21_code
def yX0_nextOf : MethodName := ⟨RX0, "nextOf", "(II)I"⟩
abbrev cX0_pose : ByteArray := prog_2_method_22_code
def yX0_pose : MethodName := ⟨RX0, "pose", "()I"⟩
abbrev cX0_takePose : ByteArray := prog_2_method_23_code
def yX0_takePose : MethodName := ⟨RX0, "takePose", "(I)V"⟩
abbrev cX0_key : ByteArray := prog_2_method_24_code
def yX0_key : MethodName := ⟨RX0, "key", "()J"⟩
def RX1 : String := "CountOut$Foresight"
def TX1 : u_T := fun k => match k with
  | 0 => ("CountOut$Foresight", "scene", "LCountOut$Scene;", true)
  | 1 => ("CountOut$Foresight", "trial", "LCountOut$Circle;", true)
  | 2 => ("CountOut$Foresight", "lasts", "[I", true)
  | 3 => ("CountOut$Foresight", "lastsKey", "J", false)
  | 4 => ("CountOut$Foresight", "ways", "[I", true)
  | 5 => ("CountOut$Foresight", "waysKey", "J", false)
  | 6 => ("CountOut$Foresight", "tally", "[I", true)
  | _ => ("CountOut$Foresight", "verseSaid", "I", false)
def tyX1 : Nat → FieldType := fun k => match k with
  | 0 => .object "CountOut$Scene"
  | 1 => .object "CountOut$Circle"
  | 2 => .array .int
  | 3 => .long
  | 4 => .array .int
  | 5 => .long
  | 6 => .array .int
  | _ => .int
abbrev wsX10 : List Cond := u_ws RX1 TX1 8
theorem nmX1 : ∀ a, a < 8 → ∀ b, b < 8 → a ≠ b → (TX1 a).2.1 ≠ (TX1 b).2.1 := by decide +kernel
theorem tyX1_ok : ∀ k, k < 8 → parseFieldDescriptor (TX1 k).2.2.1 = some (tyX1 k) := by decide +kernel
abbrev cX1_init : ByteArray := prog_3_method_1_code
def yX1_init : MethodName := ⟨RX1, "<init>", "(LCountOut$Scene;)V"⟩
abbrev cX1_outBy : ByteArray := prog_3_method_2_code
def yX1_outBy : MethodName := ⟨RX1, "outBy", "(II)I"⟩
abbrev cX1_leftBy : ByteArray := prog_3_method_3_code
def yX1_leftBy : MethodName := ⟨RX1, "leftBy", "(I)I"⟩
abbrev cX1_fewestBeats : ByteArray := prog_3_method_4_code
def yX1_fewestBeats : MethodName := ⟨RX1, "fewestBeats", "(I)I"⟩
abbrev cX1_startsFor : ByteArray := prog_3_method_5_code
def yX1_startsFor : MethodName := ⟨RX1, "startsFor", "(II)I"⟩
abbrev cX1_placesFor : ByteArray := prog_3_method_6_code
def yX1_placesFor : MethodName := ⟨RX1, "placesFor", "(II)I"⟩
abbrev cX1_bestFor : ByteArray := prog_3_method_7_code
def yX1_bestFor : MethodName := ⟨RX1, "bestFor", "(II)I"⟩
abbrev cX1_verseFor : ByteArray := prog_3_method_8_code
def yX1_verseFor : MethodName := ⟨RX1, "verseFor", "(II)I"⟩
abbrev cX1_worth : ByteArray := prog_3_method_9_code
def yX1_worth : MethodName := ⟨RX1, "worth", "(III)I"⟩
abbrev cX1_chanceOf : ByteArray := prog_3_method_10_code
def yX1_chanceOf : MethodName := ⟨RX1, "chanceOf", "(IZ)I"⟩
abbrev cX1_shareOut : ByteArray := prog_3_method_11_code
def yX1_shareOut : MethodName := ⟨RX1, "shareOut", "(II)V"⟩
abbrev cX1_lengthBits : ByteArray := prog_3_method_12_code
def yX1_lengthBits : MethodName := ⟨RX1, "lengthBits", "()I"⟩
abbrev cX1_tellingStart : ByteArray := prog_3_method_13_code
def yX1_tellingStart : MethodName := ⟨RX1, "tellingStart", "(I)I"⟩
abbrev cX1_mostLeft : ByteArray := prog_3_method_14_code
def yX1_mostLeft : MethodName := ⟨RX1, "mostLeft", "(II)I"⟩
abbrev cX1_playRounds : ByteArray := prog_3_method_15_code
def yX1_playRounds : MethodName := ⟨RX1, "playRounds", "(III)I"⟩
abbrev cX1_beatsDrawn : ByteArray := prog_3_method_16_code
def yX1_beatsDrawn : MethodName := ⟨RX1, "beatsDrawn", "(I)I"⟩
def RX2 : String := "CountOut$Page"
def TX2 : u_T := fun k => match k with
  | 0 => ("CountOut$Page", "letters", "[I", true)
  | 1 => ("CountOut$Page", "size", "I", false)
  | 2 => ("CountOut$Page", "due", "I", false)
  | 3 => ("CountOut$Page", "tens", "I", false)
  | 4 => ("CountOut$Page", "beats", "[I", true)
  | 5 => ("CountOut$Page", "verses", "I", false)
  | 6 => ("CountOut$Page", "kinds", "[I", true)
  | _ => ("CountOut$Page", "children", "I", false)
def tyX2 : Nat → FieldType := fun k => match k with
  | 0 => .array .int
  | 1 => .int
  | 2 => .int
  | 3 => .int
  | 4 => .array .int
  | 5 => .int
  | 6 => .array .int
  | _ => .int
abbrev wsX20 : List Cond := u_ws RX2 TX2 8
theorem nmX2 : ∀ a, a < 8 → ∀ b, b < 8 → a ≠ b → (TX2 a).2.1 ≠ (TX2 b).2.1 := by decide +kernel
theorem tyX2_ok : ∀ k, k < 8 → parseFieldDescriptor (TX2 k).2.2.1 = some (tyX2 k) := by decide +kernel
abbrev cX2_init : ByteArray := prog_4_method_1_code
def yX2_init : MethodName := ⟨RX2, "<init>", "()V"⟩
abbrev cX2_append : ByteArray := prog_4_method_2_code
def yX2_append : MethodName := ⟨RX2, "append", "(I)Z"⟩
abbrev cX2_isRing : ByteArray := prog_4_method_3_code
def yX2_isRing : MethodName := ⟨RX2, "isRing", "()Z"⟩
abbrev cX2_firstFault : ByteArray := prog_4_method_4_code
def yX2_firstFault : MethodName := ⟨RX2, "firstFault", "()I"⟩
abbrev cX2_reads : ByteArray := prog_4_method_5_code
def yX2_reads : MethodName := ⟨RX2, "reads", "(I)Z"⟩
abbrev cX2_readsTens : ByteArray := prog_4_method_6_code
def yX2_readsTens : MethodName := ⟨RX2, "readsTens", "(I)Z"⟩
abbrev cX2_readsOnes : ByteArray := prog_4_method_7_code
def yX2_readsOnes : MethodName := ⟨RX2, "readsOnes", "(I)Z"⟩
abbrev cX2_readsBetween : ByteArray := prog_4_method_8_code
def yX2_readsBetween : MethodName := ⟨RX2, "readsBetween", "(I)Z"⟩
abbrev cX2_readsChild : ByteArray := prog_4_method_9_code
def yX2_readsChild : MethodName := ⟨RX2, "readsChild", "(I)Z"⟩
def RX3 : String := "CountOut$Scene"
def TX3 : u_T := fun k => match k with
  | 0 => ("CountOut$Scene", "circle", "LCountOut$Circle;", true)
  | 1 => ("CountOut$Scene", "beats", "[I", true)
  | 2 => ("CountOut$Scene", "verses", "I", false)
  | 3 => ("CountOut$Scene", "counts", "I", false)
  | 4 => ("CountOut$Scene", "seenFrom", "[I", true)
  | 5 => ("CountOut$Scene", "seenOut", "[I", true)
  | _ => ("CountOut$Scene", "seen", "I", false)
def tyX3 : Nat → FieldType := fun k => match k with
  | 0 => .object "CountOut$Circle"
  | 1 => .array .int
  | 2 => .int
  | 3 => .int
  | 4 => .array .int
  | 5 => .array .int
  | _ => .int
abbrev wsX30 : List Cond := u_ws RX3 TX3 7
theorem nmX3 : ∀ a, a < 7 → ∀ b, b < 7 → a ≠ b → (TX3 a).2.1 ≠ (TX3 b).2.1 := by decide +kernel
theorem tyX3_ok : ∀ k, k < 7 → parseFieldDescriptor (TX3 k).2.2.1 = some (tyX3 k) := by decide +kernel
abbrev cX3_init : ByteArray := prog_5_method_1_code
def yX3_init : MethodName := ⟨RX3, "<init>", "()V"⟩
abbrev cX3_hasRing : ByteArray := prog_5_method_2_code
def yX3_hasRing : MethodName := ⟨RX3, "hasRing", "()Z"⟩
abbrev cX3_hasChild : ByteArray := prog_5_method_3_code
def yX3_hasChild : MethodName := ⟨RX3, "hasChild", "(I)Z"⟩
abbrev cX3_hasVerse : ByteArray := prog_5_method_4_code
def yX3_hasVerse : MethodName := ⟨RX3, "hasVerse", "(I)Z"⟩
abbrev cX3_keepSeen : ByteArray := prog_5_method_5_code
def yX3_keepSeen : MethodName := ⟨RX3, "keepSeen", "(II)Z"⟩
abbrev cX3_setUp : ByteArray := prog_5_method_6_code
def yX3_setUp : MethodName := ⟨RX3, "setUp", "(LCountOut$Page;)V"⟩
abbrev cX3_takeAll : ByteArray := prog_5_method_7_code
def yX3_takeAll : MethodName := ⟨RX3, "takeAll", "(LCountOut$Scene;)V"⟩
def RX4 : String := "CountOut"
def TX4 : u_T := fun k => match k with
  | 0 => ("CountOut", "page", "LCountOut$Page;", true)
  | 1 => ("CountOut", "scene", "LCountOut$Scene;", true)
  | 2 => ("CountOut", "kept", "LCountOut$Scene;", true)
  | 3 => ("CountOut", "foresight", "LCountOut$Foresight;", true)
  | 4 => ("CountOut", "isKept", "Z", false)
  | _ => ("CountOut", "ringsRead", "I", false)
def tyX4 : Nat → FieldType := fun k => match k with
  | 0 => .object "CountOut$Page"
  | 1 => .object "CountOut$Scene"
  | 2 => .object "CountOut$Scene"
  | 3 => .object "CountOut$Foresight"
  | 4 => .boolean
  | _ => .int
abbrev wsX40 : List Cond := u_ws RX4 TX4 6
theorem nmX4 : ∀ a, a < 6 → ∀ b, b < 6 → a ≠ b → (TX4 a).2.1 ≠ (TX4 b).2.1 := by decide +kernel
theorem tyX4_ok : ∀ k, k < 6 → parseFieldDescriptor (TX4 k).2.2.1 = some (tyX4 k) := by decide +kernel
abbrev cX4_init : ByteArray := prog_1_method_1_code
def yX4_init : MethodName := ⟨RX4, "<init>", "()V"⟩
abbrev cX4_letter : ByteArray := prog_1_method_2_code
def yX4_letter : MethodName := ⟨RX4, "letter", "(I)I"⟩
abbrev cX4_blank : ByteArray := prog_1_method_3_code
def yX4_blank : MethodName := ⟨RX4, "blank", "()I"⟩
abbrev cX4_fault : ByteArray := prog_1_method_4_code
def yX4_fault : MethodName := ⟨RX4, "fault", "()I"⟩
abbrev cX4_ring : ByteArray := prog_1_method_5_code
def yX4_ring : MethodName := ⟨RX4, "ring", "()I"⟩
abbrev cX4_child : ByteArray := prog_1_method_6_code
def yX4_child : MethodName := ⟨RX4, "child", "(II)I"⟩
abbrev cX4_as : ByteArray := prog_1_method_7_code
def yX4_as : MethodName := ⟨RX4, "as", "(II)I"⟩
abbrev cX4_verse : ByteArray := prog_1_method_8_code
def yX4_verse : MethodName := ⟨RX4, "verse", "(II)I"⟩
abbrev cX4_say : ByteArray := prog_1_method_9_code
def yX4_say : MethodName := ⟨RX4, "say", "(I)I"⟩
abbrev cX4_back : ByteArray := prog_1_method_10_code
def yX4_back : MethodName := ⟨RX4, "back", "(I)I"⟩
abbrev cX4_first : ByteArray := prog_1_method_11_code
def yX4_first : MethodName := ⟨RX4, "first", "(I)I"⟩
abbrev cX4_turn : ByteArray := prog_1_method_12_code
def yX4_turn : MethodName := ⟨RX4, "turn", "()I"⟩
abbrev cX4_beats : ByteArray := prog_1_method_13_code
def yX4_beats : MethodName := ⟨RX4, "beats", "(II)I"⟩
abbrev cX4_be : ByteArray := prog_1_method_14_code
def yX4_be : MethodName := ⟨RX4, "be", "(II)I"⟩
abbrev cX4_last : ByteArray := prog_1_method_15_code
def yX4_last : MethodName := ⟨RX4, "last", "(I)I"⟩
abbrev cX4_begin : ByteArray := prog_1_method_16_code
def yX4_begin : MethodName := ⟨RX4, "begin", "(II)I"⟩
abbrev cX4_stand : ByteArray := prog_1_method_17_code
def yX4_stand : MethodName := ⟨RX4, "stand", "(II)I"⟩
abbrev cX4_game : ByteArray := prog_1_method_18_code
def yX4_game : MethodName := ⟨RX4, "game", "(III)I"⟩
abbrev cX4_likely : ByteArray := prog_1_method_19_code
def yX4_likely : MethodName := ⟨RX4, "likely", "(II)I"⟩
abbrev cX4_see : ByteArray := prog_1_method_20_code
def yX4_see : MethodName := ⟨RX4, "see", "(II)I"⟩
abbrev cX4_forget : ByteArray := prog_1_method_21_code
def yX4_forget : MethodName := ⟨RX4, "forget", "()I"⟩
abbrev cX4_lengths : ByteArray := prog_1_method_22_code
def yX4_lengths : MethodName := ⟨RX4, "lengths", "()I"⟩
abbrev cX4_from : ByteArray := prog_1_method_23_code
def yX4_from : MethodName := ⟨RX4, "from", "()I"⟩
abbrev cX4_rounds : ByteArray := prog_1_method_24_code
def yX4_rounds : MethodName := ⟨RX4, "rounds", "(III)I"⟩
abbrev cX4_image : ByteArray := prog_1_method_25_code
def yX4_image : MethodName := ⟨RX4, "image", "()I"⟩
abbrev cX4_restore : ByteArray := prog_1_method_26_code
def yX4_restore : MethodName := ⟨RX4, "restore", "()I"⟩
abbrev cX4_count : ByteArray := prog_1_method_27_code
def yX4_count : MethodName := ⟨RX4, "count", "(I)I"⟩
abbrev cX4_digest : ByteArray := prog_1_method_28_code
def yX4_digest : MethodName := ⟨RX4, "digest", "()J"⟩
abbrev cX4_isKind : ByteArray := prog_1_method_29_code
def yX4_isKind : MethodName := ⟨RX4, "isKind", "(I)Z"⟩
abbrev cX4_isBeats : ByteArray := prog_1_method_30_code
def yX4_isBeats : MethodName := ⟨RX4, "isBeats", "(I)Z"⟩
def RX5 : String := "CountOutModel"
def TX5 : u_T := fun k => match k with
  | 0 => ("CountOutModel", "rings", "I", false)
  | 1 => ("CountOutModel", "children", "I", false)
  | 2 => ("CountOutModel", "verses", "I", false)
  | 3 => ("CountOutModel", "beatsOf", "[I", true)
  | 4 => ("CountOutModel", "kindOf", "[I", true)
  | 5 => ("CountOutModel", "in", "I", false)
  | 6 => ("CountOutModel", "slipped", "I", false)
  | 7 => ("CountOutModel", "first", "I", false)
  | 8 => ("CountOutModel", "onward", "Z", false)
  | 9 => ("CountOutModel", "counts", "I", false)
  | 10 => ("CountOutModel", "seen", "I", false)
  | 11 => ("CountOutModel", "seenFrom", "[I", true)
  | 12 => ("CountOutModel", "seenOut", "[I", true)
  | 13 => ("CountOutModel", "pageLength", "I", false)
  | 14 => ("CountOutModel", "page", "[B", true)
  | 15 => ("CountOutModel", "isWhole", "Z", false)
  | 16 => ("CountOutModel", "newVerses", "I", false)
  | 17 => ("CountOutModel", "newChildren", "I", false)
  | 18 => ("CountOutModel", "savedIn", "I", false)
  | 19 => ("CountOutModel", "savedSlipped", "I", false)
  | 20 => ("CountOutModel", "savedFirst", "I", false)
  | 21 => ("CountOutModel", "savedOnward", "Z", false)
  | 22 => ("CountOutModel", "comesTo", "[I", true)
  | 23 => ("CountOutModel", "ending", "I", false)
  | 24 => ("CountOutModel", "deepIn", "[I", true)
  | 25 => ("CountOutModel", "deepSlipped", "[I", true)
  | 26 => ("CountOutModel", "deepFirst", "[I", true)
  | 27 => ("CountOutModel", "deepOnward", "[I", true)
  | 28 => ("CountOutModel", "deepWays", "[I", true)
  | 29 => ("CountOutModel", "deepFace", "[I", true)
  | 30 => ("CountOutModel", "faceIn", "[I", true)
  | 31 => ("CountOutModel", "faceSlipped", "[I", true)
  | 32 => ("CountOutModel", "faceFirst", "[I", true)
  | 33 => ("CountOutModel", "faceOnward", "[I", true)
  | 34 => ("CountOutModel", "partsOf", "[I", true)
  | 35 => ("CountOutModel", "outOf", "[I", true)
  | 36 => ("CountOutModel", "seedNow", "J", false)
  | 37 => ("CountOutModel", "isKept", "Z", false)
  | 38 => ("CountOutModel", "keptRing", "I", false)
  | 39 => ("CountOutModel", "keptIn", "I", false)
  | 40 => ("CountOutModel", "keptSlipped", "I", false)
  | 41 => ("CountOutModel", "keptFirst", "I", false)
  | 42 => ("CountOutModel", "keptOnward", "Z", false)
  | 43 => ("CountOutModel", "keptCounts", "I", false)
  | 44 => ("CountOutModel", "keptSeen", "I", false)
  | 45 => ("CountOutModel", "keptKind", "[I", true)
  | 46 => ("CountOutModel", "keptBeats", "[I", true)
  | 47 => ("CountOutModel", "keptFrom", "[I", true)
  | 48 => ("CountOutModel", "keptOut", "[I", true)
  | _ => ("CountOutModel", "h", "J", false)
def tyX5 : Nat → FieldType := fun k => match k with
  | 0 => .int
  | 1 => .int
  | 2 => .int
  | 3 => .array .int
  | 4 => .array .int
  | 5 => .int
  | 6 => .int
  | 7 => .int
  | 8 => .boolean
  | 9 => .int
  | 10 => .int
  | 11 => .array .int
  | 12 => .array .int
  | 13 => .int
  | 14 => .array .byte
  | 15 => .boolean
  | 16 => .int
  | 17 => .int
  | 18 => .int
  | 19 => .int
  | 20 => .int
  | 21 => .boolean
  | 22 => .array .int
  | 23 => .int
  | 24 => .array .int
  | 25 => .array .int
  | 26 => .array .int
  | 27 => .array .int
  | 28 => .array .int
  | 29 => .array .int
  | 30 => .array .int
  | 31 => .array .int
  | 32 => .array .int
  | 33 => .array .int
  | 34 => .array .int
  | 35 => .array .int
  | 36 => .long
  | 37 => .boolean
  | 38 => .int
  | 39 => .int
  | 40 => .int
  | 41 => .int
  | 42 => .boolean
  | 43 => .int
  | 44 => .int
  | 45 => .array .int
  | 46 => .array .int
  | 47 => .array .int
  | 48 => .array .int
  | _ => .long
abbrev wsX50 : List Cond := u_ws RX5 TX5 50
theorem nmX5 : ∀ a, a < 50 → ∀ b, b < 50 → a ≠ b → (TX5 a).2.1 ≠ (TX5 b).2.1 := by decide +kernel
theorem tyX5_ok : ∀ k, k < 50 → parseFieldDescriptor (TX5 k).2.2.1 = some (tyX5 k) := by decide +kernel
abbrev cX5_init : ByteArray := prog_7_method_1_code
def yX5_init : MethodName := ⟨RX5, "<init>", "()V"⟩
abbrev cX5_within : ByteArray := prog_7_method_3_code
def yX5_within : MethodName := ⟨RX5, "within", "(III)Z"⟩
abbrev cX5_isIn : ByteArray := prog_7_method_4_code
def yX5_isIn : MethodName := ⟨RX5, "isIn", "(II)Z"⟩
abbrev cX5_size : ByteArray := prog_7_method_5_code
def yX5_size : MethodName := ⟨RX5, "size", "(I)I"⟩
abbrev cX5_divisor : ByteArray := prog_7_method_6_code
def yX5_divisor : MethodName := ⟨RX5, "divisor", "(II)I"⟩
abbrev cX5_letter : ByteArray := prog_7_method_7_code
def yX5_letter : MethodName := ⟨RX5, "letter", "(I)I"⟩
abbrev cX5_blank : ByteArray := prog_7_method_8_code
def yX5_blank : MethodName := ⟨RX5, "blank", "()I"⟩
abbrev cX5_kindBy : ByteArray := prog_7_method_9_code
def yX5_kindBy : MethodName := ⟨RX5, "kindBy", "(I)I"⟩
abbrev cX5_at : ByteArray := prog_7_method_10_code
def yX5_at : MethodName := ⟨RX5, "at", "(I)I"⟩
abbrev cX5_isFigure : ByteArray := prog_7_method_11_code
def yX5_isFigure : MethodName := ⟨RX5, "isFigure", "(II)Z"⟩
abbrev cX5_readChildren : ByteArray := prog_7_method_12_code
def yX5_readChildren : MethodName := ⟨RX5, "readChildren", "(I)I"⟩
abbrev cX5_read : ByteArray := prog_7_method_13_code
def yX5_read : MethodName := ⟨RX5, "read", "()I"⟩
abbrev cX5_fault : ByteArray := prog_7_method_14_code
def yX5_fault : MethodName := ⟨RX5, "fault", "()I"⟩
abbrev cX5_ring : ByteArray := prog_7_method_15_code
def yX5_ring : MethodName := ⟨RX5, "ring", "()I"⟩
abbrev cX5_isChild : ByteArray := prog_7_method_16_code
def yX5_isChild : MethodName := ⟨RX5, "isChild", "(I)Z"⟩
abbrev cX5_isVerse : ByteArray := prog_7_method_17_code
def yX5_isVerse : MethodName := ⟨RX5, "isVerse", "(I)Z"⟩
abbrev cX5_takes : ByteArray := prog_7_method_18_code
def yX5_takes : MethodName := ⟨RX5, "takes", "(I)I"⟩
abbrev cX5_isSly : ByteArray := prog_7_method_19_code
def yX5_isSly : MethodName := ⟨RX5, "isSly", "(I)Z"⟩
abbrev cX5_beatsIn : ByteArray := prog_7_method_20_code
def yX5_beatsIn : MethodName := ⟨RX5, "beatsIn", "()I"⟩
abbrev cX5_isCount : ByteArray := prog_7_method_21_code
def yX5_isCount : MethodName := ⟨RX5, "isCount", "()Z"⟩
abbrev cX5_nextFrom : ByteArray := prog_7_method_22_code
def yX5_nextFrom : MethodName := ⟨RX5, "nextFrom", "(IZ)I"⟩
abbrev cX5_isOther : ByteArray := prog_7_method_23_code
def yX5_isOther : MethodName := ⟨RX5, "isOther", "(I)Z"⟩
abbrev cX5_goCount : ByteArray := prog_7_method_24_code
def yX5_goCount : MethodName := ⟨RX5, "goCount", "(I)I"⟩
abbrev cX5_save : ByteArray := prog_7_method_25_code
def yX5_save : MethodName := ⟨RX5, "save", "()V"⟩
abbrev cX5_load : ByteArray := prog_7_method_26_code
def yX5_load : MethodName := ⟨RX5, "load", "()V"⟩
abbrev cX5_lastNow : ByteArray := prog_7_method_27_code
def yX5_lastNow : MethodName := ⟨RX5, "lastNow", "(I)I"⟩
abbrev cX5_lastBy : ByteArray := prog_7_method_28_code
def yX5_lastBy : MethodName := ⟨RX5, "lastBy", "(I)I"⟩
abbrev cX5_outBy : ByteArray := prog_7_method_29_code
def yX5_outBy : MethodName := ⟨RX5, "outBy", "(II)I"⟩
abbrev cX5_beatsFor : ByteArray := prog_7_method_30_code
def yX5_beatsFor : MethodName := ⟨RX5, "beatsFor", "(I)I"⟩
abbrev cX5_childNow : ByteArray := prog_7_method_31_code
def yX5_childNow : MethodName := ⟨RX5, "childNow", "(II)I"⟩
abbrev cX5_child : ByteArray := prog_7_method_32_code
def yX5_child : MethodName := ⟨RX5, "child", "(II)I"⟩
abbrev cX5_as : ByteArray := prog_7_method_33_code
def yX5_as : MethodName := ⟨RX5, "as", "(II)I"⟩
abbrev cX5_verseNow : ByteArray := prog_7_method_34_code
def yX5_verseNow : MethodName := ⟨RX5, "verseNow", "(II)I"⟩
abbrev cX5_verse : ByteArray := prog_7_method_35_code
def yX5_verse : MethodName := ⟨RX5, "verse", "(II)I"⟩
abbrev cX5_say : ByteArray := prog_7_method_36_code
def yX5_say : MethodName := ⟨RX5, "say", "(I)I"⟩
abbrev cX5_back : ByteArray := prog_7_method_37_code
def yX5_back : MethodName := ⟨RX5, "back", "(I)I"⟩
abbrev cX5_first : ByteArray := prog_7_method_38_code
def yX5_first : MethodName := ⟨RX5, "first", "(I)I"⟩
abbrev cX5_turn : ByteArray := prog_7_method_39_code
def yX5_turn : MethodName := ⟨RX5, "turn", "()I"⟩
abbrev cX5_beats : ByteArray := prog_7_method_40_code
def yX5_beats : MethodName := ⟨RX5, "beats", "(II)I"⟩
abbrev cX5_be : ByteArray := prog_7_method_41_code
def yX5_be : MethodName := ⟨RX5, "be", "(II)I"⟩
abbrev cX5_areBeats : ByteArray := prog_7_method_42_code
def yX5_areBeats : MethodName := ⟨RX5, "areBeats", "(I)Z"⟩
abbrev cX5_last : ByteArray := prog_7_method_43_code
def yX5_last : MethodName := ⟨RX5, "last", "(I)I"⟩
abbrev cX5_beginNow : ByteArray := prog_7_method_44_code
def yX5_beginNow : MethodName := ⟨RX5, "beginNow", "(II)I"⟩
abbrev cX5_begin : ByteArray := prog_7_method_45_code
def yX5_begin : MethodName := ⟨RX5, "begin", "(II)I"⟩
abbrev cX5_opened : ByteArray := prog_7_method_46_code
def yX5_opened : MethodName := ⟨RX5, "opened", "(II)I"⟩
abbrev cX5_standNow : ByteArray := prog_7_method_47_code
def yX5_standNow : MethodName := ⟨RX5, "standNow", "(II)I"⟩
abbrev cX5_stand : ByteArray := prog_7_method_48_code
def yX5_stand : MethodName := ⟨RX5, "stand", "(II)I"⟩
abbrev cX5_playBy : ByteArray := prog_7_method_49_code
def yX5_playBy : MethodName := ⟨RX5, "playBy", "(IIII)I"⟩
abbrev cX5_layGame : ByteArray := prog_7_method_50_code
def yX5_layGame : MethodName := ⟨RX5, "layGame", "(II)I"⟩
abbrev cX5_foldGame : ByteArray := prog_7_method_51_code
def yX5_foldGame : MethodName := ⟨RX5, "foldGame", "(I)V"⟩
abbrev cX5_gameNow : ByteArray := prog_7_method_52_code
def yX5_gameNow : MethodName := ⟨RX5, "gameNow", "(III)I"⟩
abbrev cX5_game : ByteArray := prog_7_method_53_code
def yX5_game : MethodName := ⟨RX5, "game", "(III)I"⟩
abbrev cX5_setDeep : ByteArray := prog_7_method_54_code
def yX5_setDeep : MethodName := ⟨RX5, "setDeep", "(I)V"⟩
abbrev cX5_putDeep : ByteArray := prog_7_method_55_code
def yX5_putDeep : MethodName := ⟨RX5, "putDeep", "(II)V"⟩
abbrev cX5_layFaces : ByteArray := prog_7_method_56_code
def yX5_layFaces : MethodName := ⟨RX5, "layFaces", "(I)V"⟩
abbrev cX5_areAlike : ByteArray := prog_7_method_57_code
def yX5_areAlike : MethodName := ⟨RX5, "areAlike", "(II)Z"⟩
abbrev cX5_likeFaces : ByteArray := prog_7_method_58_code
def yX5_likeFaces : MethodName := ⟨RX5, "likeFaces", "(II)I"⟩
abbrev cX5_endDeep : ByteArray := prog_7_method_59_code
def yX5_endDeep : MethodName := ⟨RX5, "endDeep", "(I)V"⟩
abbrev cX5_enter : ByteArray := prog_7_method_60_code
def yX5_enter : MethodName := ⟨RX5, "enter", "(II)V"⟩
abbrev cX5_layLikely : ByteArray := prog_7_method_61_code
def yX5_layLikely : MethodName := ⟨RX5, "layLikely", "()V"⟩
abbrev cX5_likelyNow : ByteArray := prog_7_method_62_code
def yX5_likelyNow : MethodName := ⟨RX5, "likelyNow", "(II)I"⟩
abbrev cX5_likely : ByteArray := prog_7_method_63_code
def yX5_likely : MethodName := ⟨RX5, "likely", "(II)I"⟩
abbrev cX5_see : ByteArray := prog_7_method_64_code
def yX5_see : MethodName := ⟨RX5, "see", "(II)I"⟩
abbrev cX5_forget : ByteArray := prog_7_method_65_code
def yX5_forget : MethodName := ⟨RX5, "forget", "()I"⟩
abbrev cX5_lengthsNow : ByteArray := prog_7_method_66_code
def yX5_lengthsNow : MethodName := ⟨RX5, "lengthsNow", "()I"⟩
abbrev cX5_lengths : ByteArray := prog_7_method_67_code
def yX5_lengths : MethodName := ⟨RX5, "lengths", "()I"⟩
abbrev cX5_worstFrom : ByteArray := prog_7_method_68_code
def yX5_worstFrom : MethodName := ⟨RX5, "worstFrom", "(II)I"⟩
abbrev cX5_fromNow : ByteArray := prog_7_method_69_code
def yX5_fromNow : MethodName := ⟨RX5, "fromNow", "()I"⟩
abbrev cX5_from : ByteArray := prog_7_method_70_code
def yX5_from : MethodName := ⟨RX5, "from", "()I"⟩
abbrev cX5_draw : ByteArray := prog_7_method_71_code
def yX5_draw : MethodName := ⟨RX5, "draw", "(I)I"⟩
abbrev cX5_roundsNow : ByteArray := prog_7_method_72_code
def yX5_roundsNow : MethodName := ⟨RX5, "roundsNow", "(III)I"⟩
abbrev cX5_rounds : ByteArray := prog_7_method_73_code
def yX5_rounds : MethodName := ⟨RX5, "rounds", "(III)I"⟩
abbrev cX5_image : ByteArray := prog_7_method_74_code
def yX5_image : MethodName := ⟨RX5, "image", "()I"⟩
abbrev cX5_restore : ByteArray := prog_7_method_75_code
def yX5_restore : MethodName := ⟨RX5, "restore", "()I"⟩
abbrev cX5_howMany : ByteArray := prog_7_method_76_code
def yX5_howMany : MethodName := ⟨RX5, "howMany", "(I)I"⟩
abbrev cX5_count : ByteArray := prog_7_method_77_code
def yX5_count : MethodName := ⟨RX5, "count", "(I)I"⟩
abbrev cX5_mix : ByteArray := prog_7_method_78_code
def yX5_mix : MethodName := ⟨RX5, "mix", "(J)V"⟩
abbrev cX5_mixRing : ByteArray := prog_7_method_79_code
def yX5_mixRing : MethodName := ⟨RX5, "mixRing", "()V"⟩
abbrev cX5_digest : ByteArray := prog_7_method_80_code
def yX5_digest : MethodName := ⟨RX5, "digest", "()J"⟩
def RJ11 : String := "java/lang/Character"
def TJ11 : u_T := fun k => match k with
  | _ => ("", "", "", false)
def tyJ11 : Nat → FieldType := fun k => match k with
  | _ => .int
abbrev wsJ110 : List Cond := u_ws RJ11 TJ11 0
theorem nmJ11 : ∀ a, a < 0 → ∀ b, b < 0 → a ≠ b → (TJ11 a).2.1 ≠ (TJ11 b).2.1 := by decide +kernel
theorem tyJ11_ok : ∀ k, k < 0 → parseFieldDescriptor (TJ11 k).2.2.1 = some (tyJ11 k) := by decide +kernel
abbrev cJ11_isValidCodePoint_9a6ad : ByteArray := prog_8_method_11_code
def yJ11_isValidCodePoint_9a6ad : MethodName := ⟨RJ11, "isValidCodePoint", "(I)Z"⟩
abbrev cJ11_highSurrogate_5068e : ByteArray := prog_8_method_28_code
def yJ11_highSurrogate_5068e : MethodName := ⟨RJ11, "highSurrogate", "(I)C"⟩
abbrev cJ11_lowSurrogate_5068e : ByteArray := prog_8_method_29_code
def yJ11_lowSurrogate_5068e : MethodName := ⟨RJ11, "lowSurrogate", "(I)C"⟩
def RJ6 : String := "java/lang/Integer"
def TJ6 : u_T := fun k => match k with
  | _ => ("", "", "", false)
def tyJ6 : Nat → FieldType := fun k => match k with
  | _ => .int
abbrev wsJ60 : List Cond := u_ws RJ6 TJ6 0
theorem nmJ6 : ∀ a, a < 0 → ∀ b, b < 0 → a ≠ b → (TJ6 a).2.1 ≠ (TJ6 b).2.1 := by decide +kernel
theorem tyJ6_ok : ∀ k, k < 0 → parseFieldDescriptor (TJ6 k).2.2.1 = some (tyJ6 k) := by decide +kernel
abbrev cJ6_numberOfTrailingZeros_0f7a4 : ByteArray := prog_9_method_48_code
def yJ6_numberOfTrailingZeros_0f7a4 : MethodName := ⟨RJ6, "numberOfTrailingZeros", "(I)I"⟩
abbrev cJ6_bitCount_0f7a4 : ByteArray := prog_9_method_49_code
def yJ6_bitCount_0f7a4 : MethodName := ⟨RJ6, "bitCount", "(I)I"⟩
def RJ9 : String := "java/lang/Math"
def TJ9 : u_T := fun k => match k with
  | _ => ("", "", "", false)
def tyJ9 : Nat → FieldType := fun k => match k with
  | _ => .int
abbrev wsJ90 : List Cond := u_ws RJ9 TJ9 0
theorem nmJ9 : ∀ a, a < 0 → ∀ b, b < 0 → a ≠ b → (TJ9 a).2.1 ≠ (TJ9 b).2.1 := by decide +kernel
theorem tyJ9_ok : ∀ k, k < 0 → parseFieldDescriptor (TJ9 k).2.2.1 = some (tyJ9 k) := by decide +kernel
abbrev cJ9_max_7cf53 : ByteArray := prog_10_method_65_code
def yJ9_max_7cf53 : MethodName := ⟨RJ9, "max", "(II)I"⟩
abbrev cJ9_min_7cf53 : ByteArray := prog_10_method_69_code
def yJ9_min_7cf53 : MethodName := ⟨RJ9, "min", "(II)I"⟩
def RJ0 : String := "java/lang/String"
def TJ0 : u_T := fun k => match k with
  | _ => ("", "", "", false)
def tyJ0 : Nat → FieldType := fun k => match k with
  | _ => .int
abbrev wsJ00 : List Cond := u_ws RJ0 TJ0 0
theorem nmJ0 : ∀ a, a < 0 → ∀ b, b < 0 → a ≠ b → (TJ0 a).2.1 ≠ (TJ0 b).2.1 := by decide +kernel
theorem tyJ0_ok : ∀ k, k < 0 → parseFieldDescriptor (TJ0 k).2.2.1 = some (tyJ0 k) := by decide +kernel
abbrev cJ0_length_8abf5 : ByteArray := prog_11_method_54_code
def yJ0_length_8abf5 : MethodName := ⟨RJ0, "length", "()I"⟩
abbrev cJ0_indexOf_0f7a4 : ByteArray := prog_11_method_79_code
def yJ0_indexOf_0f7a4 : MethodName := ⟨RJ0, "indexOf", "(I)I"⟩
abbrev cJ0_indexOf_7cf53 : ByteArray := prog_11_method_80_code
def yJ0_indexOf_7cf53 : MethodName := ⟨RJ0, "indexOf", "(II)I"⟩
abbrev cJ0_coder_7d493 : ByteArray := prog_11_method_152_code
def yJ0_coder_7d493 : MethodName := ⟨RJ0, "coder", "()B"⟩
abbrev cJ0_isLatin1_aae02 : ByteArray := prog_11_method_154_code
def yJ0_isLatin1_aae02 : MethodName := ⟨RJ0, "isLatin1", "()Z"⟩
abbrev cJ0_checkBoundsBeginEnd_23922 : ByteArray := prog_11_method_158_code
def yJ0_checkBoundsBeginEnd_23922 : MethodName := ⟨RJ0, "checkBoundsBeginEnd", "(III)V"⟩
def RJ1 : String := "java/lang/StringLatin1"
def TJ1 : u_T := fun k => match k with
  | _ => ("", "", "", false)
def tyJ1 : Nat → FieldType := fun k => match k with
  | _ => .int
abbrev wsJ10 : List Cond := u_ws RJ1 TJ1 0
theorem nmJ1 : ∀ a, a < 0 → ∀ b, b < 0 → a ≠ b → (TJ1 a).2.1 ≠ (TJ1 b).2.1 := by decide +kernel
theorem tyJ1_ok : ∀ k, k < 0 → parseFieldDescriptor (TJ1 k).2.2.1 = some (tyJ1 k) := by decide +kernel
abbrev cJ1_canEncode_9a6ad : ByteArray := prog_12_method_4_code
def yJ1_canEncode_9a6ad : MethodName := ⟨RJ1, "canEncode", "(I)Z"⟩
abbrev cJ1_indexOf_4cfef : ByteArray := prog_12_method_22_code
def yJ1_indexOf_4cfef : MethodName := ⟨RJ1, "indexOf", "([BIII)I"⟩
abbrev cJ1_indexOfChar_4cfef : ByteArray := prog_12_method_23_code
def yJ1_indexOfChar_4cfef : MethodName := ⟨RJ1, "indexOfChar", "([BIII)I"⟩
def RJ2 : String := "java/lang/StringUTF16"
def TJ2 : u_T := fun k => match k with
  | _ => ("", "", "", false)
def tyJ2 : Nat → FieldType := fun k => match k with
  | _ => .int
abbrev wsJ20 : List Cond := u_ws RJ2 TJ2 0
theorem nmJ2 : ∀ a, a < 0 → ∀ b, b < 0 → a ≠ b → (TJ2 a).2.1 ≠ (TJ2 b).2.1 := by decide +kernel
theorem tyJ2_ok : ∀ k, k < 0 → parseFieldDescriptor (TJ2 k).2.2.1 = some (tyJ2 k) := by decide +kernel
abbrev cJ2_getChar_3b067 : ByteArray := prog_13_method_5_code
def yJ2_getChar_3b067 : MethodName := ⟨RJ2, "getChar", "([BI)C"⟩
abbrev cJ2_length_9d52b : ByteArray := prog_13_method_6_code
def yJ2_length_9d52b : MethodName := ⟨RJ2, "length", "([B)I"⟩
abbrev cJ2_indexOf_4cfef : ByteArray := prog_13_method_40_code
def yJ2_indexOf_4cfef : MethodName := ⟨RJ2, "indexOf", "([BIII)I"⟩
abbrev cJ2_indexOfChar_4cfef : ByteArray := prog_13_method_47_code
def yJ2_indexOfChar_4cfef : MethodName := ⟨RJ2, "indexOfChar", "([BIII)I"⟩
abbrev cJ2_indexOfCharUnsafe_4cfef : ByteArray := prog_13_method_48_code
def yJ2_indexOfCharUnsafe_4cfef : MethodName := ⟨RJ2, "indexOfCharUnsafe", "([BIII)I"⟩
abbrev cJ2_indexOfSupplementary_4cfef : ByteArray := prog_13_method_49_code
def yJ2_indexOfSupplementary_4cfef : MethodName := ⟨RJ2, "indexOfSupplementary", "([BIII)I"⟩
abbrev cJ2_checkBoundsBeginEnd_d044e : ByteArray := prog_13_method_93_code
def yJ2_checkBoundsBeginEnd_d044e : MethodName := ⟨RJ2, "checkBoundsBeginEnd", "(II[B)V"⟩
def RJ10 : String := "java/lang/System"
def TJ10 : u_T := fun k => match k with
  | _ => ("", "", "", false)
def tyJ10 : Nat → FieldType := fun k => match k with
  | _ => .int
abbrev wsJ100 : List Cond := u_ws RJ10 TJ10 0
theorem nmJ10 : ∀ a, a < 0 → ∀ b, b < 0 → a ≠ b → (TJ10 a).2.1 ≠ (TJ10 b).2.1 := by decide +kernel
theorem tyJ10_ok : ∀ k, k < 0 → parseFieldDescriptor (TJ10 k).2.2.1 = some (tyJ10 k) := by decide +kernel
def RJ3 : String := "jdk/internal/util/Preconditions"
def TJ3 : u_T := fun k => match k with
  | _ => ("", "", "", false)
def tyJ3 : Nat → FieldType := fun k => match k with
  | _ => .int
abbrev wsJ30 : List Cond := u_ws RJ3 TJ3 0
theorem nmJ3 : ∀ a, a < 0 → ∀ b, b < 0 → a ≠ b → (TJ3 a).2.1 ≠ (TJ3 b).2.1 := by decide +kernel
theorem tyJ3_ok : ∀ k, k < 0 → parseFieldDescriptor (TJ3 k).2.2.1 = some (tyJ3 k) := by decide +kernel
abbrev cJ3_checkFromToIndex_8c36e : ByteArray := prog_15_method_12_code
def yJ3_checkFromToIndex_8c36e : MethodName := ⟨RJ3, "checkFromToIndex", "(IIILjava/util/function/BiFunction;)I"⟩
def RL : String := "CountOutLaw"
abbrev cL_law : ByteArray := code
def yL_law : MethodName := ⟨RL, "law", "([I)Z"⟩
abbrev vwCl : List vw_C := [(RX0, TX0, 9), (RX1, TX1, 8), (RX2, TX2, 8), (RX3, TX3, 7), (RX4, TX4, 6), (RX5, TX5, 50)]
end
section
theorem dX0_init_0 : decode cX0_init 0 = .ok (.aload_n 0, 1) := by decide +kernel
theorem dX0_init_1 : decode cX0_init 1 = .ok (.invokespecial 3, 3) := by decide +kernel
theorem dX0_init_4 : decode cX0_init 4 = .ok (.return_, 1) := by decide +kernel
theorem dX0_clear_0 : decode cX0_clear 0 = .ok (.aload_n 0, 1) := by decide +kernel
theorem dX0_clear_1 : decode cX0_clear 1 = .ok (.iconst 0, 1) := by decide +kernel
theorem dX0_clear_2 : decode cX0_clear 2 = .ok (.putfield 9, 3) := by decide +kernel
theorem dX0_clear_5 : decode cX0_clear 5 = .ok (.aload_n 0, 1) := by decide +kernel
theorem dX0_clear_6 : decode cX0_clear 6 = .ok (.iconst 0, 1) := by decide +kernel
theorem dX0_clear_7 : decode cX0_clear 7 = .ok (.putfield 15, 3) := by decide +kernel
theorem dX0_clear_10 : decode cX0_clear 10 = .ok (.aload_n 0, 1) := by decide +kernel
theorem dX0_clear_11 : decode cX0_clear 11 = .ok (.iconst 0, 1) := by decide +kernel
theorem dX0_clear_12 : decode cX0_clear 12 = .ok (.putfield 18, 3) := by decide +kernel
theorem dX0_clear_15 : decode cX0_clear 15 = .ok (.aload_n 0, 1) := by decide +kernel
theorem dX0_clear_16 : decode cX0_clear 16 = .ok (.iconst 0, 1) := by decide +kernel
theorem dX0_clear_17 : decode cX0_clear 17 = .ok (.putfield 21, 3) := by decide +kernel
theorem dX0_clear_20 : decode cX0_clear 20 = .ok (.aload_n 0, 1) := by decide +kernel
theorem dX0_clear_21 : decode cX0_clear 21 = .ok (.iconst 0, 1) := by decide +kernel
theorem dX0_clear_22 : decode cX0_clear 22 = .ok (.putfield 24, 3) := by decide +kernel
theorem dX0_clear_25 : decode cX0_clear 25 = .ok (.aload_n 0, 1) := by decide +kernel
theorem dX0_clear_26 : decode cX0_clear 26 = .ok (.iconst 0, 1) := by decide +kernel
theorem dX0_clear_27 : decode cX0_clear 27 = .ok (.putfield 27, 3) := by decide +kernel
theorem dX0_clear_30 : decode cX0_clear 30 = .ok (.aload_n 0, 1) := by decide +kernel
theorem dX0_clear_31 : decode cX0_clear 31 = .ok (.iconst 0, 1) := by decide +kernel
theorem dX0_clear_32 : decode cX0_clear 32 = .ok (.putfield 30, 3) := by decide +kernel
theorem dX0_clear_35 : decode cX0_clear 35 = .ok (.aload_n 0, 1) := by decide +kernel
theorem dX0_clear_36 : decode cX0_clear 36 = .ok (.iconst 0, 1) := by decide +kernel
theorem dX0_clear_37 : decode cX0_clear 37 = .ok (.putfield 33, 3) := by decide +kernel
theorem dX0_clear_40 : decode cX0_clear 40 = .ok (.aload_n 0, 1) := by decide +kernel
theorem dX0_clear_41 : decode cX0_clear 41 = .ok (.iconst 1, 1) := by decide +kernel
theorem dX0_clear_42 : decode cX0_clear 42 = .ok (.putfield 36, 3) := by decide +kernel
theorem dX0_clear_45 : decode cX0_clear 45 = .ok (.return_, 1) := by decide +kernel
theorem dX0_takeAll_0 : decode cX0_takeAll 0 = .ok (.aload_n 0, 1) := by decide +kernel
theorem dX0_takeAll_1 : decode cX0_takeAll 1 = .ok (.aload_n 1, 1) := by decide +kernel
theorem dX0_takeAll_2 : decode cX0_takeAll 2 = .ok (.getfield 9, 3) := by decide +kernel
theorem dX0_takeAll_5 : decode cX0_takeAll 5 = .ok (.putfield 9, 3) := by decide +kernel
theorem dX0_takeAll_8 : decode cX0_takeAll 8 = .ok (.aload_n 0, 1) := by decide +kernel
theorem dX0_takeAll_9 : decode cX0_takeAll 9 = .ok (.aload_n 1, 1) := by decide +kernel
theorem dX0_takeAll_10 : decode cX0_takeAll 10 = .ok (.getfield 15, 3) := by decide +kernel
theorem dX0_takeAll_13 : decode cX0_takeAll 13 = .ok (.putfield 15, 3) := by decide +kernel
theorem dX0_takeAll_16 : decode cX0_takeAll 16 = .ok (.aload_n 0, 1) := by decide +kernel
theorem dX0_takeAll_17 : decode cX0_takeAll 17 = .ok (.aload_n 1, 1) := by decide +kernel
theorem dX0_takeAll_18 : decode cX0_takeAll 18 = .ok (.getfield 18, 3) := by decide +kernel
theorem dX0_takeAll_21 : decode cX0_takeAll 21 = .ok (.putfield 18, 3) := by decide +kernel
theorem dX0_takeAll_24 : decode cX0_takeAll 24 = .ok (.aload_n 0, 1) := by decide +kernel
theorem dX0_takeAll_25 : decode cX0_takeAll 25 = .ok (.aload_n 1, 1) := by decide +kernel
theorem dX0_takeAll_26 : decode cX0_takeAll 26 = .ok (.getfield 21, 3) := by decide +kernel
theorem dX0_takeAll_29 : decode cX0_takeAll 29 = .ok (.putfield 21, 3) := by decide +kernel
theorem dX0_takeAll_32 : decode cX0_takeAll 32 = .ok (.aload_n 0, 1) := by decide +kernel
theorem dX0_takeAll_33 : decode cX0_takeAll 33 = .ok (.aload_n 1, 1) := by decide +kernel
theorem dX0_takeAll_34 : decode cX0_takeAll 34 = .ok (.getfield 24, 3) := by decide +kernel
theorem dX0_takeAll_37 : decode cX0_takeAll 37 = .ok (.putfield 24, 3) := by decide +kernel
theorem dX0_takeAll_40 : decode cX0_takeAll 40 = .ok (.aload_n 0, 1) := by decide +kernel
theorem dX0_takeAll_41 : decode cX0_takeAll 41 = .ok (.aload_n 1, 1) := by decide +kernel
theorem dX0_takeAll_42 : decode cX0_takeAll 42 = .ok (.getfield 27, 3) := by decide +kernel
theorem dX0_takeAll_45 : decode cX0_takeAll 45 = .ok (.putfield 27, 3) := by decide +kernel
theorem dX0_takeAll_48 : decode cX0_takeAll 48 = .ok (.aload_n 0, 1) := by decide +kernel
theorem dX0_takeAll_49 : decode cX0_takeAll 49 = .ok (.aload_n 1, 1) := by decide +kernel
theorem dX0_takeAll_50 : decode cX0_takeAll 50 = .ok (.getfield 30, 3) := by decide +kernel
theorem dX0_takeAll_53 : decode cX0_takeAll 53 = .ok (.putfield 30, 3) := by decide +kernel
theorem dX0_takeAll_56 : decode cX0_takeAll 56 = .ok (.aload_n 0, 1) := by decide +kernel
theorem dX0_takeAll_57 : decode cX0_takeAll 57 = .ok (.aload_n 1, 1) := by decide +kernel
theorem dX0_takeAll_58 : decode cX0_takeAll 58 = .ok (.getfield 33, 3) := by decide +kernel
theorem dX0_takeAll_61 : decode cX0_takeAll 61 = .ok (.putfield 33, 3) := by decide +kernel
theorem dX0_takeAll_64 : decode cX0_takeAll 64 = .ok (.aload_n 0, 1) := by decide +kernel
theorem dX0_takeAll_65 : decode cX0_takeAll 65 = .ok (.aload_n 1, 1) := by decide +kernel
theorem dX0_takeAll_66 : decode cX0_takeAll 66 = .ok (.getfield 36, 3) := by decide +kernel
theorem dX0_takeAll_69 : decode cX0_takeAll 69 = .ok (.putfield 36, 3) := by decide +kernel
theorem dX0_takeAll_72 : decode cX0_takeAll 72 = .ok (.return_, 1) := by decide +kernel
theorem dX0_addBehind_0 : decode cX0_addBehind 0 = .ok (.aload_n 0, 1) := by decide +kernel
theorem dX0_addBehind_1 : decode cX0_addBehind 1 = .ok (.dup, 1) := by decide +kernel
theorem dX0_addBehind_2 : decode cX0_addBehind 2 = .ok (.getfield 27, 3) := by decide +kernel
theorem dX0_addBehind_5 : decode cX0_addBehind 5 = .ok (.iconst 1, 1) := by decide +kernel
theorem dX0_addBehind_6 : decode cX0_addBehind 6 = .ok (.aload_n 0, 1) := by decide +kernel
theorem dX0_addBehind_7 : decode cX0_addBehind 7 = .ok (.getfield 9, 3) := by decide +kernel
theorem dX0_addBehind_10 : decode cX0_addBehind 10 = .ok (.ishl, 1) := by decide +kernel
theorem dX0_addBehind_11 : decode cX0_addBehind 11 = .ok (.ior, 1) := by decide +kernel
theorem dX0_addBehind_12 : decode cX0_addBehind 12 = .ok (.putfield 27, 3) := by decide +kernel
theorem dX0_addBehind_15 : decode cX0_addBehind 15 = .ok (.aload_n 0, 1) := by decide +kernel
theorem dX0_addBehind_16 : decode cX0_addBehind 16 = .ok (.aload_n 0, 1) := by decide +kernel
theorem dX0_addBehind_17 : decode cX0_addBehind 17 = .ok (.getfield 9, 3) := by decide +kernel
theorem dX0_addBehind_20 : decode cX0_addBehind 20 = .ok (.iload_n 1, 1) := by decide +kernel
theorem dX0_addBehind_21 : decode cX0_addBehind 21 = .ok (.invokevirtual 40, 3) := by decide +kernel
theorem dX0_addBehind_24 : decode cX0_addBehind 24 = .ok (.aload_n 0, 1) := by decide +kernel
theorem dX0_addBehind_25 : decode cX0_addBehind 25 = .ok (.dup, 1) := by decide +kernel
theorem dX0_addBehind_26 : decode cX0_addBehind 26 = .ok (.getfield 9, 3) := by decide +kernel
theorem dX0_addBehind_29 : decode cX0_addBehind 29 = .ok (.iconst 1, 1) := by decide +kernel
theorem dX0_addBehind_30 : decode cX0_addBehind 30 = .ok (.iadd, 1) := by decide +kernel
theorem dX0_addBehind_31 : decode cX0_addBehind 31 = .ok (.putfield 9, 3) := by decide +kernel
theorem dX0_addBehind_34 : decode cX0_addBehind 34 = .ok (.return_, 1) := by decide +kernel
theorem dX0_addAhead_0 : decode cX0_addAhead 0 = .ok (.aload_n 0, 1) := by decide +kernel
theorem dX0_addAhead_1 : decode cX0_addAhead 1 = .ok (.aload_n 0, 1) := by decide +kernel
theorem dX0_addAhead_2 : decode cX0_addAhead 2 = .ok (.getfield 15, 3) := by decide +kernel
theorem dX0_addAhead_5 : decode cX0_addAhead 5 = .ok (.iload_n 1, 1) := by decide +kernel
theorem dX0_addAhead_6 : decode cX0_addAhead 6 = .ok (.invokestatic 44, 3) := by decide +kernel
theorem dX0_addAhead_9 : decode cX0_addAhead 9 = .ok (.putfield 15, 3) := by decide +kernel
theorem dX0_addAhead_12 : decode cX0_addAhead 12 = .ok (.aload_n 0, 1) := by decide +kernel
theorem dX0_addAhead_13 : decode cX0_addAhead 13 = .ok (.aload_n 0, 1) := by decide +kernel
theorem dX0_addAhead_14 : decode cX0_addAhead 14 = .ok (.getfield 18, 3) := by decide +kernel
theorem dX0_addAhead_17 : decode cX0_addAhead 17 = .ok (.iload_n 1, 1) := by decide +kernel
theorem dX0_addAhead_18 : decode cX0_addAhead 18 = .ok (.invokestatic 44, 3) := by decide +kernel
theorem dX0_addAhead_21 : decode cX0_addAhead 21 = .ok (.putfield 18, 3) := by decide +kernel
theorem dX0_addAhead_24 : decode cX0_addAhead 24 = .ok (.aload_n 0, 1) := by decide +kernel
theorem dX0_addAhead_25 : decode cX0_addAhead 25 = .ok (.aload_n 0, 1) := by decide +kernel
theorem dX0_addAhead_26 : decode cX0_addAhead 26 = .ok (.getfield 21, 3) := by decide +kernel
theorem dX0_addAhead_29 : decode cX0_addAhead 29 = .ok (.iload_n 1, 1) := by decide +kernel
theorem dX0_addAhead_30 : decode cX0_addAhead 30 = .ok (.invokestatic 44, 3) := by decide +kernel
theorem dX0_addAhead_33 : decode cX0_addAhead 33 = .ok (.putfield 21, 3) := by decide +kernel
theorem dX0_addAhead_36 : decode cX0_addAhead 36 = .ok (.aload_n 0, 1) := by decide +kernel
theorem dX0_addAhead_37 : decode cX0_addAhead 37 = .ok (.aload_n 0, 1) := by decide +kernel
theorem dX0_addAhead_38 : decode cX0_addAhead 38 = .ok (.getfield 24, 3) := by decide +kernel
theorem dX0_addAhead_41 : decode cX0_addAhead 41 = .ok (.iload_n 1, 1) := by decide +kernel
theorem dX0_addAhead_42 : decode cX0_addAhead 42 = .ok (.invokestatic 44, 3) := by decide +kernel
theorem dX0_addAhead_45 : decode cX0_addAhead 45 = .ok (.putfield 24, 3) := by decide +kernel
theorem dX0_addAhead_48 : decode cX0_addAhead 48 = .ok (.aload_n 0, 1) := by decide +kernel
theorem dX0_addAhead_49 : decode cX0_addAhead 49 = .ok (.aload_n 0, 1) := by decide +kernel
theorem dX0_addAhead_50 : decode cX0_addAhead 50 = .ok (.getfield 30, 3) := by decide +kernel
theorem dX0_addAhead_53 : decode cX0_addAhead 53 = .ok (.iload_n 1, 1) := by decide +kernel
theorem dX0_addAhead_54 : decode cX0_addAhead 54 = .ok (.invokestatic 44, 3) := by decide +kernel
theorem dX0_addAhead_57 : decode cX0_addAhead 57 = .ok (.putfield 30, 3) := by decide +kernel
theorem dX0_addAhead_60 : decode cX0_addAhead 60 = .ok (.aload_n 0, 1) := by decide +kernel
theorem dX0_addAhead_61 : decode cX0_addAhead 61 = .ok (.aload_n 0, 1) := by decide +kernel
theorem dX0_addAhead_62 : decode cX0_addAhead 62 = .ok (.getfield 27, 3) := by decide +kernel
theorem dX0_addAhead_65 : decode cX0_addAhead 65 = .ok (.iload_n 1, 1) := by decide +kernel
theorem dX0_addAhead_66 : decode cX0_addAhead 66 = .ok (.invokestatic 44, 3) := by decide +kernel
theorem dX0_addAhead_69 : decode cX0_addAhead 69 = .ok (.iconst 1, 1) := by decide +kernel
theorem dX0_addAhead_70 : decode cX0_addAhead 70 = .ok (.iload_n 1, 1) := by decide +kernel
theorem dX0_addAhead_71 : decode cX0_addAhead 71 = .ok (.ishl, 1) := by decide +kernel
theorem dX0_addAhead_72 : decode cX0_addAhead 72 = .ok (.ior, 1) := by decide +kernel
theorem dX0_addAhead_73 : decode cX0_addAhead 73 = .ok (.putfield 27, 3) := by decide +kernel
theorem dX0_addAhead_76 : decode cX0_addAhead 76 = .ok (.aload_n 0, 1) := by decide +kernel
theorem dX0_addAhead_77 : decode cX0_addAhead 77 = .ok (.getfield 33, 3) := by decide +kernel
theorem dX0_addAhead_80 : decode cX0_addAhead 80 = .ok (.iload_n 1, 1) := by decide +kernel
theorem dX0_addAhead_81 : decode cX0_addAhead 81 = .ok (.if_icmp .lt 13, 3) := by decide +kernel
theorem dX0_addAhead_84 : decode cX0_addAhead 84 = .ok (.aload_n 0, 1) := by decide +kernel
theorem dX0_addAhead_85 : decode cX0_addAhead 85 = .ok (.dup, 1) := by decide +kernel
theorem dX0_addAhead_86 : decode cX0_addAhead 86 = .ok (.getfield 33, 3) := by decide +kernel
theorem dX0_addAhead_89 : decode cX0_addAhead 89 = .ok (.iconst 1, 1) := by decide +kernel
theorem dX0_addAhead_90 : decode cX0_addAhead 90 = .ok (.iadd, 1) := by decide +kernel
theorem dX0_addAhead_91 : decode cX0_addAhead 91 = .ok (.putfield 33, 3) := by decide +kernel
theorem dX0_addAhead_94 : decode cX0_addAhead 94 = .ok (.aload_n 0, 1) := by decide +kernel
theorem dX0_addAhead_95 : decode cX0_addAhead 95 = .ok (.dup, 1) := by decide +kernel
theorem dX0_addAhead_96 : decode cX0_addAhead 96 = .ok (.getfield 9, 3) := by decide +kernel
theorem dX0_addAhead_99 : decode cX0_addAhead 99 = .ok (.iconst 1, 1) := by decide +kernel
theorem dX0_addAhead_100 : decode cX0_addAhead 100 = .ok (.iadd, 1) := by decide +kernel
theorem dX0_addAhead_101 : decode cX0_addAhead 101 = .ok (.putfield 9, 3) := by decide +kernel
theorem dX0_addAhead_104 : decode cX0_addAhead 104 = .ok (.aload_n 0, 1) := by decide +kernel
theorem dX0_addAhead_105 : decode cX0_addAhead 105 = .ok (.iload_n 1, 1) := by decide +kernel
theorem dX0_addAhead_106 : decode cX0_addAhead 106 = .ok (.iload_n 2, 1) := by decide +kernel
theorem dX0_addAhead_107 : decode cX0_addAhead 107 = .ok (.invokevirtual 40, 3) := by decide +kernel
theorem dX0_addAhead_110 : decode cX0_addAhead 110 = .ok (.return_, 1) := by decide +kernel
theorem dX0_movedUp_0 : decode cX0_movedUp 0 = .ok (.iconst 1, 1) := by decide +kernel
theorem dX0_movedUp_1 : decode cX0_movedUp 1 = .ok (.iload_n 1, 1) := by decide +kernel
theorem dX0_movedUp_2 : decode cX0_movedUp 2 = .ok (.ishl, 1) := by decide +kernel
theorem dX0_movedUp_3 : decode cX0_movedUp 3 = .ok (.iconst 1, 1) := by decide +kernel
theorem dX0_movedUp_4 : decode cX0_movedUp 4 = .ok (.isub, 1) := by decide +kernel
theorem dX0_movedUp_5 : decode cX0_movedUp 5 = .ok (.istore_n 2, 1) := by decide +kernel
theorem dX0_movedUp_6 : decode cX0_movedUp 6 = .ok (.iload_n 0, 1) := by decide +kernel
theorem dX0_movedUp_7 : decode cX0_movedUp 7 = .ok (.iload_n 2, 1) := by decide +kernel
theorem dX0_movedUp_8 : decode cX0_movedUp 8 = .ok (.iand, 1) := by decide +kernel
theorem dX0_movedUp_9 : decode cX0_movedUp 9 = .ok (.iload_n 0, 1) := by decide +kernel
theorem dX0_movedUp_10 : decode cX0_movedUp 10 = .ok (.iload_n 2, 1) := by decide +kernel
theorem dX0_movedUp_11 : decode cX0_movedUp 11 = .ok (.iconst (-1), 1) := by decide +kernel
theorem dX0_movedUp_12 : decode cX0_movedUp 12 = .ok (.ixor, 1) := by decide +kernel
theorem dX0_movedUp_13 : decode cX0_movedUp 13 = .ok (.iand, 1) := by decide +kernel
theorem dX0_movedUp_14 : decode cX0_movedUp 14 = .ok (.iconst 1, 1) := by decide +kernel
theorem dX0_movedUp_15 : decode cX0_movedUp 15 = .ok (.ishl, 1) := by decide +kernel
theorem dX0_movedUp_16 : decode cX0_movedUp 16 = .ok (.ior, 1) := by decide +kernel
theorem dX0_movedUp_17 : decode cX0_movedUp 17 = .ok (.ireturn, 1) := by decide +kernel
theorem dX0_become_0 : decode cX0_become 0 = .ok (.iconst 1, 1) := by decide +kernel
theorem dX0_become_1 : decode cX0_become 1 = .ok (.iload_n 1, 1) := by decide +kernel
theorem dX0_become_2 : decode cX0_become 2 = .ok (.ishl, 1) := by decide +kernel
theorem dX0_become_3 : decode cX0_become 3 = .ok (.istore_n 3, 1) := by decide +kernel
theorem dX0_become_4 : decode cX0_become 4 = .ok (.aload_n 0, 1) := by decide +kernel
theorem dX0_become_5 : decode cX0_become 5 = .ok (.iload_n 2, 1) := by decide +kernel
theorem dX0_become_6 : decode cX0_become 6 = .ok (.iconst 1, 1) := by decide +kernel
theorem dX0_become_7 : decode cX0_become 7 = .ok (.if_icmp .ne 12, 3) := by decide +kernel
theorem dX0_become_10 : decode cX0_become 10 = .ok (.aload_n 0, 1) := by decide +kernel
theorem dX0_become_11 : decode cX0_become 11 = .ok (.getfield 15, 3) := by decide +kernel
theorem dX0_become_14 : decode cX0_become 14 = .ok (.iload_n 3, 1) := by decide +kernel
theorem dX0_become_15 : decode cX0_become 15 = .ok (.ior, 1) := by decide +kernel
theorem dX0_become_16 : decode cX0_become 16 = .ok (.goto 11, 3) := by decide +kernel
theorem dX0_become_19 : decode cX0_become 19 = .ok (.aload_n 0, 1) := by decide +kernel
theorem dX0_become_20 : decode cX0_become 20 = .ok (.getfield 15, 3) := by decide +kernel
theorem dX0_become_23 : decode cX0_become 23 = .ok (.iload_n 3, 1) := by decide +kernel
theorem dX0_become_24 : decode cX0_become 24 = .ok (.iconst (-1), 1) := by decide +kernel
theorem dX0_become_25 : decode cX0_become 25 = .ok (.ixor, 1) := by decide +kernel
theorem dX0_become_26 : decode cX0_become 26 = .ok (.iand, 1) := by decide +kernel
theorem dX0_become_27 : decode cX0_become 27 = .ok (.putfield 15, 3) := by decide +kernel
theorem dX0_become_30 : decode cX0_become 30 = .ok (.aload_n 0, 1) := by decide +kernel
theorem dX0_become_31 : decode cX0_become 31 = .ok (.iload_n 2, 1) := by decide +kernel
theorem dX0_become_32 : decode cX0_become 32 = .ok (.iconst 2, 1) := by decide +kernel
theorem dX0_become_33 : decode cX0_become 33 = .ok (.if_icmp .ne 12, 3) := by decide +kernel
theorem dX0_become_36 : decode cX0_become 36 = .ok (.aload_n 0, 1) := by decide +kernel
theorem dX0_become_37 : decode cX0_become 37 = .ok (.getfield 18, 3) := by decide +kernel
theorem dX0_become_40 : decode cX0_become 40 = .ok (.iload_n 3, 1) := by decide +kernel
theorem dX0_become_41 : decode cX0_become 41 = .ok (.ior, 1) := by decide +kernel
theorem dX0_become_42 : decode cX0_become 42 = .ok (.goto 11, 3) := by decide +kernel
theorem dX0_become_45 : decode cX0_become 45 = .ok (.aload_n 0, 1) := by decide +kernel
theorem dX0_become_46 : decode cX0_become 46 = .ok (.getfield 18, 3) := by decide +kernel
theorem dX0_become_49 : decode cX0_become 49 = .ok (.iload_n 3, 1) := by decide +kernel
theorem dX0_become_50 : decode cX0_become 50 = .ok (.iconst (-1), 1) := by decide +kernel
theorem dX0_become_51 : decode cX0_become 51 = .ok (.ixor, 1) := by decide +kernel
theorem dX0_become_52 : decode cX0_become 52 = .ok (.iand, 1) := by decide +kernel
theorem dX0_become_53 : decode cX0_become 53 = .ok (.putfield 18, 3) := by decide +kernel
theorem dX0_become_56 : decode cX0_become 56 = .ok (.aload_n 0, 1) := by decide +kernel
theorem dX0_become_57 : decode cX0_become 57 = .ok (.iload_n 2, 1) := by decide +kernel
theorem dX0_become_58 : decode cX0_become 58 = .ok (.iconst 3, 1) := by decide +kernel
theorem dX0_become_59 : decode cX0_become 59 = .ok (.if_icmp .eq 8, 3) := by decide +kernel
theorem dX0_become_62 : decode cX0_become 62 = .ok (.iload_n 2, 1) := by decide +kernel
theorem dX0_become_63 : decode cX0_become 63 = .ok (.iconst 4, 1) := by decide +kernel
theorem dX0_become_64 : decode cX0_become 64 = .ok (.if_icmp .ne 12, 3) := by decide +kernel
theorem dX0_become_67 : decode cX0_become 67 = .ok (.aload_n 0, 1) := by decide +kernel
theorem dX0_become_68 : decode cX0_become 68 = .ok (.getfield 21, 3) := by decide +kernel
theorem dX0_become_71 : decode cX0_become 71 = .ok (.iload_n 3, 1) := by decide +kernel
theorem dX0_become_72 : decode cX0_become 72 = .ok (.ior, 1) := by decide +kernel
theorem dX0_become_73 : decode cX0_become 73 = .ok (.goto 11, 3) := by decide +kernel
theorem dX0_become_76 : decode cX0_become 76 = .ok (.aload_n 0, 1) := by decide +kernel
theorem dX0_become_77 : decode cX0_become 77 = .ok (.getfield 21, 3) := by decide +kernel
theorem dX0_become_80 : decode cX0_become 80 = .ok (.iload_n 3, 1) := by decide +kernel
theorem dX0_become_81 : decode cX0_become 81 = .ok (.iconst (-1), 1) := by decide +kernel
theorem dX0_become_82 : decode cX0_become 82 = .ok (.ixor, 1) := by decide +kernel
theorem dX0_become_83 : decode cX0_become 83 = .ok (.iand, 1) := by decide +kernel
theorem dX0_become_84 : decode cX0_become 84 = .ok (.putfield 21, 3) := by decide +kernel
theorem dX0_become_87 : decode cX0_become 87 = .ok (.aload_n 0, 1) := by decide +kernel
theorem dX0_become_88 : decode cX0_become 88 = .ok (.iload_n 2, 1) := by decide +kernel
theorem dX0_become_89 : decode cX0_become 89 = .ok (.iconst 4, 1) := by decide +kernel
theorem dX0_become_90 : decode cX0_become 90 = .ok (.if_icmp .ne 12, 3) := by decide +kernel
theorem dX0_become_93 : decode cX0_become 93 = .ok (.aload_n 0, 1) := by decide +kernel
theorem dX0_become_94 : decode cX0_become 94 = .ok (.getfield 24, 3) := by decide +kernel
theorem dX0_become_97 : decode cX0_become 97 = .ok (.iload_n 3, 1) := by decide +kernel
theorem dX0_become_98 : decode cX0_become 98 = .ok (.ior, 1) := by decide +kernel
theorem dX0_become_99 : decode cX0_become 99 = .ok (.goto 11, 3) := by decide +kernel
theorem dX0_become_102 : decode cX0_become 102 = .ok (.aload_n 0, 1) := by decide +kernel
theorem dX0_become_103 : decode cX0_become 103 = .ok (.getfield 24, 3) := by decide +kernel
theorem dX0_become_106 : decode cX0_become 106 = .ok (.iload_n 3, 1) := by decide +kernel
theorem dX0_become_107 : decode cX0_become 107 = .ok (.iconst (-1), 1) := by decide +kernel
theorem dX0_become_108 : decode cX0_become 108 = .ok (.ixor, 1) := by decide +kernel
theorem dX0_become_109 : decode cX0_become 109 = .ok (.iand, 1) := by decide +kernel
theorem dX0_become_110 : decode cX0_become 110 = .ok (.putfield 24, 3) := by decide +kernel
theorem dX0_become_113 : decode cX0_become 113 = .ok (.aload_n 0, 1) := by decide +kernel
theorem dX0_become_114 : decode cX0_become 114 = .ok (.dup, 1) := by decide +kernel
theorem dX0_become_115 : decode cX0_become 115 = .ok (.getfield 30, 3) := by decide +kernel
theorem dX0_become_118 : decode cX0_become 118 = .ok (.iload_n 3, 1) := by decide +kernel
theorem dX0_become_119 : decode cX0_become 119 = .ok (.iconst (-1), 1) := by decide +kernel
theorem dX0_become_120 : decode cX0_become 120 = .ok (.ixor, 1) := by decide +kernel
theorem dX0_become_121 : decode cX0_become 121 = .ok (.iand, 1) := by decide +kernel
theorem dX0_become_122 : decode cX0_become 122 = .ok (.putfield 30, 3) := by decide +kernel
theorem dX0_become_125 : decode cX0_become 125 = .ok (.return_, 1) := by decide +kernel
theorem dX0_kindOf_0 : decode cX0_kindOf 0 = .ok (.iconst 1, 1) := by decide +kernel
theorem dX0_kindOf_1 : decode cX0_kindOf 1 = .ok (.iload_n 1, 1) := by decide +kernel
theorem dX0_kindOf_2 : decode cX0_kindOf 2 = .ok (.ishl, 1) := by decide +kernel
theorem dX0_kindOf_3 : decode cX0_kindOf 3 = .ok (.istore_n 2, 1) := by decide +kernel
theorem dX0_kindOf_4 : decode cX0_kindOf 4 = .ok (.aload_n 0, 1) := by decide +kernel
theorem dX0_kindOf_5 : decode cX0_kindOf 5 = .ok (.getfield 15, 3) := by decide +kernel
theorem dX0_kindOf_8 : decode cX0_kindOf 8 = .ok (.iload_n 2, 1) := by decide +kernel
theorem dX0_kindOf_9 : decode cX0_kindOf 9 = .ok (.iand, 1) := by decide +kernel
theorem dX0_kindOf_10 : decode cX0_kindOf 10 = .ok (.ifCond .eq 5, 3) := by decide +kernel
theorem dX0_kindOf_13 : decode cX0_kindOf 13 = .ok (.iconst 1, 1) := by decide +kernel
theorem dX0_kindOf_14 : decode cX0_kindOf 14 = .ok (.ireturn, 1) := by decide +kernel
theorem dX0_kindOf_15 : decode cX0_kindOf 15 = .ok (.aload_n 0, 1) := by decide +kernel
theorem dX0_kindOf_16 : decode cX0_kindOf 16 = .ok (.getfield 18, 3) := by decide +kernel
theorem dX0_kindOf_19 : decode cX0_kindOf 19 = .ok (.iload_n 2, 1) := by decide +kernel
theorem dX0_kindOf_20 : decode cX0_kindOf 20 = .ok (.iand, 1) := by decide +kernel
theorem dX0_kindOf_21 : decode cX0_kindOf 21 = .ok (.ifCond .eq 5, 3) := by decide +kernel
theorem dX0_kindOf_24 : decode cX0_kindOf 24 = .ok (.iconst 2, 1) := by decide +kernel
theorem dX0_kindOf_25 : decode cX0_kindOf 25 = .ok (.ireturn, 1) := by decide +kernel
theorem dX0_kindOf_26 : decode cX0_kindOf 26 = .ok (.aload_n 0, 1) := by decide +kernel
theorem dX0_kindOf_27 : decode cX0_kindOf 27 = .ok (.getfield 24, 3) := by decide +kernel
theorem dX0_kindOf_30 : decode cX0_kindOf 30 = .ok (.iload_n 2, 1) := by decide +kernel
theorem dX0_kindOf_31 : decode cX0_kindOf 31 = .ok (.iand, 1) := by decide +kernel
theorem dX0_kindOf_32 : decode cX0_kindOf 32 = .ok (.ifCond .eq 5, 3) := by decide +kernel
theorem dX0_kindOf_35 : decode cX0_kindOf 35 = .ok (.iconst 4, 1) := by decide +kernel
theorem dX0_kindOf_36 : decode cX0_kindOf 36 = .ok (.ireturn, 1) := by decide +kernel
theorem dX0_kindOf_37 : decode cX0_kindOf 37 = .ok (.aload_n 0, 1) := by decide +kernel
theorem dX0_kindOf_38 : decode cX0_kindOf 38 = .ok (.getfield 21, 3) := by decide +kernel
theorem dX0_kindOf_41 : decode cX0_kindOf 41 = .ok (.iload_n 2, 1) := by decide +kernel
theorem dX0_kindOf_42 : decode cX0_kindOf 42 = .ok (.iand, 1) := by decide +kernel
theorem dX0_kindOf_43 : decode cX0_kindOf 43 = .ok (.ifCond .eq 7, 3) := by decide +kernel
theorem dX0_kindOf_46 : decode cX0_kindOf 46 = .ok (.iconst 3, 1) := by decide +kernel
theorem dX0_kindOf_47 : decode cX0_kindOf 47 = .ok (.goto 4, 3) := by decide +kernel
theorem dX0_kindOf_50 : decode cX0_kindOf 50 = .ok (.iconst 0, 1) := by decide +kernel
theorem dX0_kindOf_51 : decode cX0_kindOf 51 = .ok (.ireturn, 1) := by decide +kernel
theorem dX0_isIn_0 : decode cX0_isIn 0 = .ok (.aload_n 0, 1) := by decide +kernel
theorem dX0_isIn_1 : decode cX0_isIn 1 = .ok (.getfield 27, 3) := by decide +kernel
theorem dX0_isIn_4 : decode cX0_isIn 4 = .ok (.iload_n 1, 1) := by decide +kernel
theorem dX0_isIn_5 : decode cX0_isIn 5 = .ok (.ishr, 1) := by decide +kernel
theorem dX0_isIn_6 : decode cX0_isIn 6 = .ok (.iconst 1, 1) := by decide +kernel
theorem dX0_isIn_7 : decode cX0_isIn 7 = .ok (.iand, 1) := by decide +kernel
theorem dX0_isIn_8 : decode cX0_isIn 8 = .ok (.ifCond .eq 7, 3) := by decide +kernel
theorem dX0_isIn_11 : decode cX0_isIn 11 = .ok (.iconst 1, 1) := by decide +kernel
theorem dX0_isIn_12 : decode cX0_isIn 12 = .ok (.goto 4, 3) := by decide +kernel
theorem dX0_isIn_15 : decode cX0_isIn 15 = .ok (.iconst 0, 1) := by decide +kernel
theorem dX0_isIn_16 : decode cX0_isIn 16 = .ok (.ireturn, 1) := by decide +kernel
theorem dX0_hasSlipped_0 : decode cX0_hasSlipped 0 = .ok (.aload_n 0, 1) := by decide +kernel
theorem dX0_hasSlipped_1 : decode cX0_hasSlipped 1 = .ok (.getfield 30, 3) := by decide +kernel
theorem dX0_hasSlipped_4 : decode cX0_hasSlipped 4 = .ok (.iload_n 1, 1) := by decide +kernel
theorem dX0_hasSlipped_5 : decode cX0_hasSlipped 5 = .ok (.ishr, 1) := by decide +kernel
theorem dX0_hasSlipped_6 : decode cX0_hasSlipped 6 = .ok (.iconst 1, 1) := by decide +kernel
theorem dX0_hasSlipped_7 : decode cX0_hasSlipped 7 = .ok (.iand, 1) := by decide +kernel
theorem dX0_hasSlipped_8 : decode cX0_hasSlipped 8 = .ok (.ifCond .eq 7, 3) := by decide +kernel
theorem dX0_hasSlipped_11 : decode cX0_hasSlipped 11 = .ok (.iconst 1, 1) := by decide +kernel
theorem dX0_hasSlipped_12 : decode cX0_hasSlipped 12 = .ok (.goto 4, 3) := by decide +kernel
theorem dX0_hasSlipped_15 : decode cX0_hasSlipped 15 = .ok (.iconst 0, 1) := by decide +kernel
theorem dX0_hasSlipped_16 : decode cX0_hasSlipped 16 = .ok (.ireturn, 1) := by decide +kernel
theorem dX0_takenBy_0 : decode cX0_takenBy 0 = .ok (.iconst 1, 1) := by decide +kernel
theorem dX0_takenBy_1 : decode cX0_takenBy 1 = .ok (.iload_n 1, 1) := by decide +kernel
theorem dX0_takenBy_2 : decode cX0_takenBy 2 = .ok (.ishl, 1) := by decide +kernel
theorem dX0_takenBy_3 : decode cX0_takenBy 3 = .ok (.istore_n 2, 1) := by decide +kernel
theorem dX0_takenBy_4 : decode cX0_takenBy 4 = .ok (.aload_n 0, 1) := by decide +kernel
theorem dX0_takenBy_5 : decode cX0_takenBy 5 = .ok (.getfield 18, 3) := by decide +kernel
theorem dX0_takenBy_8 : decode cX0_takenBy 8 = .ok (.iload_n 2, 1) := by decide +kernel
theorem dX0_takenBy_9 : decode cX0_takenBy 9 = .ok (.iand, 1) := by decide +kernel
theorem dX0_takenBy_10 : decode cX0_takenBy 10 = .ok (.ifCond .eq 5, 3) := by decide +kernel
theorem dX0_takenBy_13 : decode cX0_takenBy 13 = .ok (.iconst 0, 1) := by decide +kernel
theorem dX0_takenBy_14 : decode cX0_takenBy 14 = .ok (.ireturn, 1) := by decide +kernel
theorem dX0_takenBy_15 : decode cX0_takenBy 15 = .ok (.aload_n 0, 1) := by decide +kernel
theorem dX0_takenBy_16 : decode cX0_takenBy 16 = .ok (.getfield 15, 3) := by decide +kernel
theorem dX0_takenBy_19 : decode cX0_takenBy 19 = .ok (.iload_n 2, 1) := by decide +kernel
theorem dX0_takenBy_20 : decode cX0_takenBy 20 = .ok (.iand, 1) := by decide +kernel
theorem dX0_takenBy_21 : decode cX0_takenBy 21 = .ok (.ifCond .eq 7, 3) := by decide +kernel
theorem dX0_takenBy_24 : decode cX0_takenBy 24 = .ok (.iconst 2, 1) := by decide +kernel
theorem dX0_takenBy_25 : decode cX0_takenBy 25 = .ok (.goto 4, 3) := by decide +kernel
theorem dX0_takenBy_28 : decode cX0_takenBy 28 = .ok (.iconst 1, 1) := by decide +kernel
theorem dX0_takenBy_29 : decode cX0_takenBy 29 = .ok (.ireturn, 1) := by decide +kernel
theorem dX0_takenTogether_0 : decode cX0_takenTogether 0 = .ok (.aload_n 0, 1) := by decide +kernel
theorem dX0_takenTogether_1 : decode cX0_takenTogether 1 = .ok (.getfield 27, 3) := by decide +kernel
theorem dX0_takenTogether_4 : decode cX0_takenTogether 4 = .ok (.aload_n 0, 1) := by decide +kernel
theorem dX0_takenTogether_5 : decode cX0_takenTogether 5 = .ok (.getfield 18, 3) := by decide +kernel
theorem dX0_takenTogether_8 : decode cX0_takenTogether 8 = .ok (.iconst (-1), 1) := by decide +kernel
theorem dX0_takenTogether_9 : decode cX0_takenTogether 9 = .ok (.ixor, 1) := by decide +kernel
theorem dX0_takenTogether_10 : decode cX0_takenTogether 10 = .ok (.iand, 1) := by decide +kernel
theorem dX0_takenTogether_11 : decode cX0_takenTogether 11 = .ok (.invokestatic 48, 3) := by decide +kernel
theorem dX0_takenTogether_14 : decode cX0_takenTogether 14 = .ok (.aload_n 0, 1) := by decide +kernel
theorem dX0_takenTogether_15 : decode cX0_takenTogether 15 = .ok (.getfield 27, 3) := by decide +kernel
theorem dX0_takenTogether_18 : decode cX0_takenTogether 18 = .ok (.aload_n 0, 1) := by decide +kernel
theorem dX0_takenTogether_19 : decode cX0_takenTogether 19 = .ok (.getfield 15, 3) := by decide +kernel
theorem dX0_takenTogether_22 : decode cX0_takenTogether 22 = .ok (.iand, 1) := by decide +kernel
theorem dX0_takenTogether_23 : decode cX0_takenTogether 23 = .ok (.invokestatic 48, 3) := by decide +kernel
theorem dX0_takenTogether_26 : decode cX0_takenTogether 26 = .ok (.iadd, 1) := by decide +kernel
theorem dX0_takenTogether_27 : decode cX0_takenTogether 27 = .ok (.ireturn, 1) := by decide +kernel
theorem dX0_howManyIn_0 : decode cX0_howManyIn 0 = .ok (.aload_n 0, 1) := by decide +kernel
theorem dX0_howManyIn_1 : decode cX0_howManyIn 1 = .ok (.getfield 27, 3) := by decide +kernel
theorem dX0_howManyIn_4 : decode cX0_howManyIn 4 = .ok (.invokestatic 48, 3) := by decide +kernel
theorem dX0_howManyIn_7 : decode cX0_howManyIn 7 = .ok (.ireturn, 1) := by decide +kernel
theorem dX0_onlyOneIn_0 : decode cX0_onlyOneIn 0 = .ok (.aload_n 0, 1) := by decide +kernel
theorem dX0_onlyOneIn_1 : decode cX0_onlyOneIn 1 = .ok (.getfield 27, 3) := by decide +kernel
theorem dX0_onlyOneIn_4 : decode cX0_onlyOneIn 4 = .ok (.invokestatic 48, 3) := by decide +kernel
theorem dX0_onlyOneIn_7 : decode cX0_onlyOneIn 7 = .ok (.iconst 1, 1) := by decide +kernel
theorem dX0_onlyOneIn_8 : decode cX0_onlyOneIn 8 = .ok (.if_icmp .ne 13, 3) := by decide +kernel
theorem dX0_onlyOneIn_11 : decode cX0_onlyOneIn 11 = .ok (.aload_n 0, 1) := by decide +kernel
theorem dX0_onlyOneIn_12 : decode cX0_onlyOneIn 12 = .ok (.getfield 27, 3) := by decide +kernel
theorem dX0_onlyOneIn_15 : decode cX0_onlyOneIn 15 = .ok (.invokestatic 54, 3) := by decide +kernel
theorem dX0_onlyOneIn_18 : decode cX0_onlyOneIn 18 = .ok (.goto 4, 3) := by decide +kernel
theorem dX0_onlyOneIn_21 : decode cX0_onlyOneIn 21 = .ok (.iconst (-1), 1) := by decide +kernel
theorem dX0_onlyOneIn_22 : decode cX0_onlyOneIn 22 = .ok (.ireturn, 1) := by decide +kernel
theorem dX0_allComeBack_0 : decode cX0_allComeBack 0 = .ok (.aload_n 0, 1) := by decide +kernel
theorem dX0_allComeBack_1 : decode cX0_allComeBack 1 = .ok (.iconst 1, 1) := by decide +kernel
theorem dX0_allComeBack_2 : decode cX0_allComeBack 2 = .ok (.aload_n 0, 1) := by decide +kernel
theorem dX0_allComeBack_3 : decode cX0_allComeBack 3 = .ok (.getfield 9, 3) := by decide +kernel
theorem dX0_allComeBack_6 : decode cX0_allComeBack 6 = .ok (.ishl, 1) := by decide +kernel
theorem dX0_allComeBack_7 : decode cX0_allComeBack 7 = .ok (.iconst 1, 1) := by decide +kernel
theorem dX0_allComeBack_8 : decode cX0_allComeBack 8 = .ok (.isub, 1) := by decide +kernel
theorem dX0_allComeBack_9 : decode cX0_allComeBack 9 = .ok (.putfield 27, 3) := by decide +kernel
theorem dX0_allComeBack_12 : decode cX0_allComeBack 12 = .ok (.aload_n 0, 1) := by decide +kernel
theorem dX0_allComeBack_13 : decode cX0_allComeBack 13 = .ok (.iconst 0, 1) := by decide +kernel
theorem dX0_allComeBack_14 : decode cX0_allComeBack 14 = .ok (.putfield 30, 3) := by decide +kernel
theorem dX0_allComeBack_17 : decode cX0_allComeBack 17 = .ok (.return_, 1) := by decide +kernel
theorem dX0_canCount_0 : decode cX0_canCount 0 = .ok (.aload_n 0, 1) := by decide +kernel
theorem dX0_canCount_1 : decode cX0_canCount 1 = .ok (.getfield 27, 3) := by decide +kernel
theorem dX0_canCount_4 : decode cX0_canCount 4 = .ok (.aload_n 0, 1) := by decide +kernel
theorem dX0_canCount_5 : decode cX0_canCount 5 = .ok (.getfield 18, 3) := by decide +kernel
theorem dX0_canCount_8 : decode cX0_canCount 8 = .ok (.iconst (-1), 1) := by decide +kernel
theorem dX0_canCount_9 : decode cX0_canCount 9 = .ok (.ixor, 1) := by decide +kernel
theorem dX0_canCount_10 : decode cX0_canCount 10 = .ok (.iand, 1) := by decide +kernel
theorem dX0_canCount_11 : decode cX0_canCount 11 = .ok (.ifCond .eq 18, 3) := by decide +kernel
theorem dX0_canCount_14 : decode cX0_canCount 14 = .ok (.aload_n 0, 1) := by decide +kernel
theorem dX0_canCount_15 : decode cX0_canCount 15 = .ok (.getfield 27, 3) := by decide +kernel
theorem dX0_canCount_18 : decode cX0_canCount 18 = .ok (.invokestatic 48, 3) := by decide +kernel
theorem dX0_canCount_21 : decode cX0_canCount 21 = .ok (.iconst 2, 1) := by decide +kernel
theorem dX0_canCount_22 : decode cX0_canCount 22 = .ok (.if_icmp .lt 7, 3) := by decide +kernel
theorem dX0_canCount_25 : decode cX0_canCount 25 = .ok (.iconst 1, 1) := by decide +kernel
theorem dX0_canCount_26 : decode cX0_canCount 26 = .ok (.goto 4, 3) := by decide +kernel
theorem dX0_canCount_29 : decode cX0_canCount 29 = .ok (.iconst 0, 1) := by decide +kernel
theorem dX0_canCount_30 : decode cX0_canCount 30 = .ok (.ireturn, 1) := by decide +kernel
theorem dX0_putOut_0 : decode cX0_putOut 0 = .ok (.aload_n 0, 1) := by decide +kernel
theorem dX0_putOut_1 : decode cX0_putOut 1 = .ok (.invokevirtual 57, 3) := by decide +kernel
theorem dX0_putOut_4 : decode cX0_putOut 4 = .ok (.ifCond .ne 5, 3) := by decide +kernel
theorem dX0_putOut_7 : decode cX0_putOut 7 = .ok (.iconst (-1), 1) := by decide +kernel
theorem dX0_putOut_8 : decode cX0_putOut 8 = .ok (.ireturn, 1) := by decide +kernel
theorem dX0_putOut_9 : decode cX0_putOut 9 = .ok (.aload_n 0, 1) := by decide +kernel
theorem dX0_putOut_10 : decode cX0_putOut 10 = .ok (.aload_n 0, 1) := by decide +kernel
theorem dX0_putOut_11 : decode cX0_putOut 11 = .ok (.iload_n 1, 1) := by decide +kernel
theorem dX0_putOut_12 : decode cX0_putOut 12 = .ok (.invokevirtual 61, 3) := by decide +kernel
theorem dX0_putOut_15 : decode cX0_putOut 15 = .ok (.invokevirtual 64, 3) := by decide +kernel
theorem dX0_putOut_18 : decode cX0_putOut 18 = .ok (.istore_n 2, 1) := by decide +kernel
theorem dX0_putOut_19 : decode cX0_putOut 19 = .ok (.aload_n 0, 1) := by decide +kernel
theorem dX0_putOut_20 : decode cX0_putOut 20 = .ok (.dup, 1) := by decide +kernel
theorem dX0_putOut_21 : decode cX0_putOut 21 = .ok (.getfield 27, 3) := by decide +kernel
theorem dX0_putOut_24 : decode cX0_putOut 24 = .ok (.iconst 1, 1) := by decide +kernel
theorem dX0_putOut_25 : decode cX0_putOut 25 = .ok (.iload_n 2, 1) := by decide +kernel
theorem dX0_putOut_26 : decode cX0_putOut 26 = .ok (.ishl, 1) := by decide +kernel
theorem dX0_putOut_27 : decode cX0_putOut 27 = .ok (.iconst (-1), 1) := by decide +kernel
theorem dX0_putOut_28 : decode cX0_putOut 28 = .ok (.ixor, 1) := by decide +kernel
theorem dX0_putOut_29 : decode cX0_putOut 29 = .ok (.iand, 1) := by decide +kernel
theorem dX0_putOut_30 : decode cX0_putOut 30 = .ok (.putfield 27, 3) := by decide +kernel
theorem dX0_putOut_33 : decode cX0_putOut 33 = .ok (.aload_n 0, 1) := by decide +kernel
theorem dX0_putOut_34 : decode cX0_putOut 34 = .ok (.aload_n 0, 1) := by decide +kernel
theorem dX0_putOut_35 : decode cX0_putOut 35 = .ok (.aload_n 0, 1) := by decide +kernel
theorem dX0_putOut_36 : decode cX0_putOut 36 = .ok (.getfield 27, 3) := by decide +kernel
theorem dX0_putOut_39 : decode cX0_putOut 39 = .ok (.iload_n 2, 1) := by decide +kernel
theorem dX0_putOut_40 : decode cX0_putOut 40 = .ok (.invokevirtual 67, 3) := by decide +kernel
theorem dX0_putOut_43 : decode cX0_putOut 43 = .ok (.putfield 33, 3) := by decide +kernel
theorem dX0_putOut_46 : decode cX0_putOut 46 = .ok (.iload_n 2, 1) := by decide +kernel
theorem dX0_putOut_47 : decode cX0_putOut 47 = .ok (.ireturn, 1) := by decide +kernel
theorem dX0_countDown_0 : decode cX0_countDown 0 = .ok (.iconst 0, 1) := by decide +kernel
theorem dX0_countDown_1 : decode cX0_countDown 1 = .ok (.istore_n 2, 1) := by decide +kernel
theorem dX0_countDown_2 : decode cX0_countDown 2 = .ok (.iload_n 2, 1) := by decide +kernel
theorem dX0_countDown_3 : decode cX0_countDown 3 = .ok (.aload_n 0, 1) := by decide +kernel
theorem dX0_countDown_4 : decode cX0_countDown 4 = .ok (.getfield 9, 3) := by decide +kernel
theorem dX0_countDown_7 : decode cX0_countDown 7 = .ok (.if_icmp .ge 22, 3) := by decide +kernel
theorem dX0_countDown_10 : decode cX0_countDown 10 = .ok (.aload_n 0, 1) := by decide +kernel
theorem dX0_countDown_11 : decode cX0_countDown 11 = .ok (.invokevirtual 57, 3) := by decide +kernel
theorem dX0_countDown_14 : decode cX0_countDown 14 = .ok (.ifCond .eq 15, 3) := by decide +kernel
theorem dX0_countDown_17 : decode cX0_countDown 17 = .ok (.aload_n 0, 1) := by decide +kernel
theorem dX0_countDown_18 : decode cX0_countDown 18 = .ok (.iload_n 1, 1) := by decide +kernel
theorem dX0_countDown_19 : decode cX0_countDown 19 = .ok (.invokevirtual 70, 3) := by decide +kernel
theorem dX0_countDown_22 : decode cX0_countDown 22 = .ok (.pop, 1) := by decide +kernel
theorem dX0_countDown_23 : decode cX0_countDown 23 = .ok (.iinc 2 1, 3) := by decide +kernel
theorem dX0_countDown_26 : decode cX0_countDown 26 = .ok (.goto (-24), 3) := by decide +kernel
theorem dX0_countDown_29 : decode cX0_countDown 29 = .ok (.aload_n 0, 1) := by decide +kernel
theorem dX0_countDown_30 : decode cX0_countDown 30 = .ok (.invokevirtual 73, 3) := by decide +kernel
theorem dX0_countDown_33 : decode cX0_countDown 33 = .ok (.ireturn, 1) := by decide +kernel
theorem dX0_fallsOn_0 : decode cX0_fallsOn 0 = .ok (.aload_n 0, 1) := by decide +kernel
theorem dX0_fallsOn_1 : decode cX0_fallsOn 1 = .ok (.getfield 27, 3) := by decide +kernel
theorem dX0_fallsOn_4 : decode cX0_fallsOn 4 = .ok (.aload_n 0, 1) := by decide +kernel
theorem dX0_fallsOn_5 : decode cX0_fallsOn 5 = .ok (.getfield 18, 3) := by decide +kernel
theorem dX0_fallsOn_8 : decode cX0_fallsOn 8 = .ok (.iconst (-1), 1) := by decide +kernel
theorem dX0_fallsOn_9 : decode cX0_fallsOn 9 = .ok (.ixor, 1) := by decide +kernel
theorem dX0_fallsOn_10 : decode cX0_fallsOn 10 = .ok (.iand, 1) := by decide +kernel
theorem dX0_fallsOn_11 : decode cX0_fallsOn 11 = .ok (.istore_n 2, 1) := by decide +kernel
theorem dX0_fallsOn_12 : decode cX0_fallsOn 12 = .ok (.iload_n 2, 1) := by decide +kernel
theorem dX0_fallsOn_13 : decode cX0_fallsOn 13 = .ok (.invokestatic 48, 3) := by decide +kernel
theorem dX0_fallsOn_16 : decode cX0_fallsOn 16 = .ok (.iload_n 2, 1) := by decide +kernel
theorem dX0_fallsOn_17 : decode cX0_fallsOn 17 = .ok (.aload_n 0, 1) := by decide +kernel
theorem dX0_fallsOn_18 : decode cX0_fallsOn 18 = .ok (.getfield 15, 3) := by decide +kernel
theorem dX0_fallsOn_21 : decode cX0_fallsOn 21 = .ok (.iand, 1) := by decide +kernel
theorem dX0_fallsOn_22 : decode cX0_fallsOn 22 = .ok (.invokestatic 48, 3) := by decide +kernel
theorem dX0_fallsOn_25 : decode cX0_fallsOn 25 = .ok (.iadd, 1) := by decide +kernel
theorem dX0_fallsOn_26 : decode cX0_fallsOn 26 = .ok (.istore_n 3, 1) := by decide +kernel
theorem dX0_fallsOn_27 : decode cX0_fallsOn 27 = .ok (.iload_n 3, 1) := by decide +kernel
theorem dX0_fallsOn_28 : decode cX0_fallsOn 28 = .ok (.ifCond .le 11, 3) := by decide +kernel
theorem dX0_fallsOn_31 : decode cX0_fallsOn 31 = .ok (.iload_n 1, 1) := by decide +kernel
theorem dX0_fallsOn_32 : decode cX0_fallsOn 32 = .ok (.iconst 1, 1) := by decide +kernel
theorem dX0_fallsOn_33 : decode cX0_fallsOn 33 = .ok (.isub, 1) := by decide +kernel
theorem dX0_fallsOn_34 : decode cX0_fallsOn 34 = .ok (.iload_n 3, 1) := by decide +kernel
theorem dX0_fallsOn_35 : decode cX0_fallsOn 35 = .ok (.irem, 1) := by decide +kernel
theorem dX0_fallsOn_36 : decode cX0_fallsOn 36 = .ok (.goto 4, 3) := by decide +kernel
theorem dX0_fallsOn_39 : decode cX0_fallsOn 39 = .ok (.iconst 0, 1) := by decide +kernel
theorem dX0_fallsOn_40 : decode cX0_fallsOn 40 = .ok (.istore 4, 2) := by decide +kernel
theorem dX0_fallsOn_42 : decode cX0_fallsOn 42 = .ok (.iload_n 2, 1) := by decide +kernel
theorem dX0_fallsOn_43 : decode cX0_fallsOn 43 = .ok (.aload_n 0, 1) := by decide +kernel
theorem dX0_fallsOn_44 : decode cX0_fallsOn 44 = .ok (.getfield 33, 3) := by decide +kernel
theorem dX0_fallsOn_47 : decode cX0_fallsOn 47 = .ok (.ishr, 1) := by decide +kernel
theorem dX0_fallsOn_48 : decode cX0_fallsOn 48 = .ok (.iconst 1, 1) := by decide +kernel
theorem dX0_fallsOn_49 : decode cX0_fallsOn 49 = .ok (.iand, 1) := by decide +kernel
theorem dX0_fallsOn_50 : decode cX0_fallsOn 50 = .ok (.ifCond .eq 10, 3) := by decide +kernel
theorem dX0_fallsOn_53 : decode cX0_fallsOn 53 = .ok (.aload_n 0, 1) := by decide +kernel
theorem dX0_fallsOn_54 : decode cX0_fallsOn 54 = .ok (.getfield 33, 3) := by decide +kernel
theorem dX0_fallsOn_57 : decode cX0_fallsOn 57 = .ok (.goto 12, 3) := by decide +kernel
theorem dX0_fallsOn_60 : decode cX0_fallsOn 60 = .ok (.aload_n 0, 1) := by decide +kernel
theorem dX0_fallsOn_61 : decode cX0_fallsOn 61 = .ok (.iload_n 2, 1) := by decide +kernel
theorem dX0_fallsOn_62 : decode cX0_fallsOn 62 = .ok (.aload_n 0, 1) := by decide +kernel
theorem dX0_fallsOn_63 : decode cX0_fallsOn 63 = .ok (.getfield 33, 3) := by decide +kernel
theorem dX0_fallsOn_66 : decode cX0_fallsOn 66 = .ok (.invokevirtual 67, 3) := by decide +kernel
theorem dX0_fallsOn_69 : decode cX0_fallsOn 69 = .ok (.istore 5, 2) := by decide +kernel
theorem dX0_fallsOn_71 : decode cX0_fallsOn 71 = .ok (.iconst 0, 1) := by decide +kernel
theorem dX0_fallsOn_72 : decode cX0_fallsOn 72 = .ok (.istore 6, 2) := by decide +kernel
theorem dX0_fallsOn_74 : decode cX0_fallsOn 74 = .ok (.iload 6, 2) := by decide +kernel
theorem dX0_fallsOn_76 : decode cX0_fallsOn 76 = .ok (.aload_n 0, 1) := by decide +kernel
theorem dX0_fallsOn_77 : decode cX0_fallsOn 77 = .ok (.getfield 9, 3) := by decide +kernel
theorem dX0_fallsOn_80 : decode cX0_fallsOn 80 = .ok (.if_icmp .ge 37, 3) := by decide +kernel
theorem dX0_fallsOn_83 : decode cX0_fallsOn 83 = .ok (.iload 4, 2) := by decide +kernel
theorem dX0_fallsOn_85 : decode cX0_fallsOn 85 = .ok (.aload_n 0, 1) := by decide +kernel
theorem dX0_fallsOn_86 : decode cX0_fallsOn 86 = .ok (.iload 5, 2) := by decide +kernel
theorem dX0_fallsOn_88 : decode cX0_fallsOn 88 = .ok (.invokevirtual 77, 3) := by decide +kernel
theorem dX0_fallsOn_91 : decode cX0_fallsOn 91 = .ok (.isub, 1) := by decide +kernel
theorem dX0_fallsOn_92 : decode cX0_fallsOn 92 = .ok (.istore 4, 2) := by decide +kernel
theorem dX0_fallsOn_94 : decode cX0_fallsOn 94 = .ok (.iload 4, 2) := by decide +kernel
theorem dX0_fallsOn_96 : decode cX0_fallsOn 96 = .ok (.ifCond .ge 6, 3) := by decide +kernel
theorem dX0_fallsOn_99 : decode cX0_fallsOn 99 = .ok (.goto 18, 3) := by decide +kernel
theorem dX0_fallsOn_102 : decode cX0_fallsOn 102 = .ok (.aload_n 0, 1) := by decide +kernel
theorem dX0_fallsOn_103 : decode cX0_fallsOn 103 = .ok (.iload_n 2, 1) := by decide +kernel
theorem dX0_fallsOn_104 : decode cX0_fallsOn 104 = .ok (.iload 5, 2) := by decide +kernel
theorem dX0_fallsOn_106 : decode cX0_fallsOn 106 = .ok (.invokevirtual 67, 3) := by decide +kernel
theorem dX0_fallsOn_109 : decode cX0_fallsOn 109 = .ok (.istore 5, 2) := by decide +kernel
theorem dX0_fallsOn_111 : decode cX0_fallsOn 111 = .ok (.iinc 6 1, 3) := by decide +kernel
theorem dX0_fallsOn_114 : decode cX0_fallsOn 114 = .ok (.goto (-40), 3) := by decide +kernel
theorem dX0_fallsOn_117 : decode cX0_fallsOn 117 = .ok (.iload 5, 2) := by decide +kernel
theorem dX0_fallsOn_119 : decode cX0_fallsOn 119 = .ok (.ireturn, 1) := by decide +kernel
theorem dX0_slipOn_0 : decode cX0_slipOn 0 = .ok (.aload_n 0, 1) := by decide +kernel
theorem dX0_slipOn_1 : decode cX0_slipOn 1 = .ok (.getfield 27, 3) := by decide +kernel
theorem dX0_slipOn_4 : decode cX0_slipOn 4 = .ok (.aload_n 0, 1) := by decide +kernel
theorem dX0_slipOn_5 : decode cX0_slipOn 5 = .ok (.getfield 18, 3) := by decide +kernel
theorem dX0_slipOn_8 : decode cX0_slipOn 8 = .ok (.iconst (-1), 1) := by decide +kernel
theorem dX0_slipOn_9 : decode cX0_slipOn 9 = .ok (.ixor, 1) := by decide +kernel
theorem dX0_slipOn_10 : decode cX0_slipOn 10 = .ok (.iand, 1) := by decide +kernel
theorem dX0_slipOn_11 : decode cX0_slipOn 11 = .ok (.istore_n 2, 1) := by decide +kernel
theorem dX0_slipOn_12 : decode cX0_slipOn 12 = .ok (.iload_n 1, 1) := by decide +kernel
theorem dX0_slipOn_13 : decode cX0_slipOn 13 = .ok (.istore_n 3, 1) := by decide +kernel
theorem dX0_slipOn_14 : decode cX0_slipOn 14 = .ok (.iconst 0, 1) := by decide +kernel
theorem dX0_slipOn_15 : decode cX0_slipOn 15 = .ok (.istore 4, 2) := by decide +kernel
theorem dX0_slipOn_17 : decode cX0_slipOn 17 = .ok (.iload 4, 2) := by decide +kernel
theorem dX0_slipOn_19 : decode cX0_slipOn 19 = .ok (.aload_n 0, 1) := by decide +kernel
theorem dX0_slipOn_20 : decode cX0_slipOn 20 = .ok (.getfield 9, 3) := by decide +kernel
theorem dX0_slipOn_23 : decode cX0_slipOn 23 = .ok (.if_icmp .ge 87, 3) := by decide +kernel
theorem dX0_slipOn_26 : decode cX0_slipOn 26 = .ok (.iconst 1, 1) := by decide +kernel
theorem dX0_slipOn_27 : decode cX0_slipOn 27 = .ok (.iload_n 3, 1) := by decide +kernel
theorem dX0_slipOn_28 : decode cX0_slipOn 28 = .ok (.ishl, 1) := by decide +kernel
theorem dX0_slipOn_29 : decode cX0_slipOn 29 = .ok (.istore 5, 2) := by decide +kernel
theorem dX0_slipOn_31 : decode cX0_slipOn 31 = .ok (.aload_n 0, 1) := by decide +kernel
theorem dX0_slipOn_32 : decode cX0_slipOn 32 = .ok (.getfield 21, 3) := by decide +kernel
theorem dX0_slipOn_35 : decode cX0_slipOn 35 = .ok (.aload_n 0, 1) := by decide +kernel
theorem dX0_slipOn_36 : decode cX0_slipOn 36 = .ok (.getfield 30, 3) := by decide +kernel
theorem dX0_slipOn_39 : decode cX0_slipOn 39 = .ok (.iconst (-1), 1) := by decide +kernel
theorem dX0_slipOn_40 : decode cX0_slipOn 40 = .ok (.ixor, 1) := by decide +kernel
theorem dX0_slipOn_41 : decode cX0_slipOn 41 = .ok (.iand, 1) := by decide +kernel
theorem dX0_slipOn_42 : decode cX0_slipOn 42 = .ok (.iload 5, 2) := by decide +kernel
theorem dX0_slipOn_44 : decode cX0_slipOn 44 = .ok (.iand, 1) := by decide +kernel
theorem dX0_slipOn_45 : decode cX0_slipOn 45 = .ok (.ifCond .eq 65, 3) := by decide +kernel
theorem dX0_slipOn_48 : decode cX0_slipOn 48 = .ok (.iload_n 2, 1) := by decide +kernel
theorem dX0_slipOn_49 : decode cX0_slipOn 49 = .ok (.iload 5, 2) := by decide +kernel
theorem dX0_slipOn_51 : decode cX0_slipOn 51 = .ok (.iconst (-1), 1) := by decide +kernel
theorem dX0_slipOn_52 : decode cX0_slipOn 52 = .ok (.ixor, 1) := by decide +kernel
theorem dX0_slipOn_53 : decode cX0_slipOn 53 = .ok (.iand, 1) := by decide +kernel
theorem dX0_slipOn_54 : decode cX0_slipOn 54 = .ok (.ifCond .ne 6, 3) := by decide +kernel
theorem dX0_slipOn_57 : decode cX0_slipOn 57 = .ok (.goto 53, 3) := by decide +kernel
theorem dX0_slipOn_60 : decode cX0_slipOn 60 = .ok (.aload_n 0, 1) := by decide +kernel
theorem dX0_slipOn_61 : decode cX0_slipOn 61 = .ok (.dup, 1) := by decide +kernel
theorem dX0_slipOn_62 : decode cX0_slipOn 62 = .ok (.getfield 30, 3) := by decide +kernel
theorem dX0_slipOn_65 : decode cX0_slipOn 65 = .ok (.iload 5, 2) := by decide +kernel
theorem dX0_slipOn_67 : decode cX0_slipOn 67 = .ok (.ior, 1) := by decide +kernel
theorem dX0_slipOn_68 : decode cX0_slipOn 68 = .ok (.putfield 30, 3) := by decide +kernel
theorem dX0_slipOn_71 : decode cX0_slipOn 71 = .ok (.aload_n 0, 1) := by decide +kernel
theorem dX0_slipOn_72 : decode cX0_slipOn 72 = .ok (.getfield 24, 3) := by decide +kernel
theorem dX0_slipOn_75 : decode cX0_slipOn 75 = .ok (.iload 5, 2) := by decide +kernel
theorem dX0_slipOn_77 : decode cX0_slipOn 77 = .ok (.iand, 1) := by decide +kernel
theorem dX0_slipOn_78 : decode cX0_slipOn 78 = .ok (.ifCond .eq 19, 3) := by decide +kernel
theorem dX0_slipOn_81 : decode cX0_slipOn 81 = .ok (.aload_n 0, 1) := by decide +kernel
theorem dX0_slipOn_82 : decode cX0_slipOn 82 = .ok (.aload_n 0, 1) := by decide +kernel
theorem dX0_slipOn_83 : decode cX0_slipOn 83 = .ok (.getfield 36, 3) := by decide +kernel
theorem dX0_slipOn_86 : decode cX0_slipOn 86 = .ok (.ifCond .ne 7, 3) := by decide +kernel
theorem dX0_slipOn_89 : decode cX0_slipOn 89 = .ok (.iconst 1, 1) := by decide +kernel
theorem dX0_slipOn_90 : decode cX0_slipOn 90 = .ok (.goto 4, 3) := by decide +kernel
theorem dX0_slipOn_93 : decode cX0_slipOn 93 = .ok (.iconst 0, 1) := by decide +kernel
theorem dX0_slipOn_94 : decode cX0_slipOn 94 = .ok (.putfield 36, 3) := by decide +kernel
theorem dX0_slipOn_97 : decode cX0_slipOn 97 = .ok (.aload_n 0, 1) := by decide +kernel
theorem dX0_slipOn_98 : decode cX0_slipOn 98 = .ok (.iload_n 2, 1) := by decide +kernel
theorem dX0_slipOn_99 : decode cX0_slipOn 99 = .ok (.iload_n 3, 1) := by decide +kernel
theorem dX0_slipOn_100 : decode cX0_slipOn 100 = .ok (.invokevirtual 67, 3) := by decide +kernel
theorem dX0_slipOn_103 : decode cX0_slipOn 103 = .ok (.istore_n 3, 1) := by decide +kernel
theorem dX0_slipOn_104 : decode cX0_slipOn 104 = .ok (.iinc 4 1, 3) := by decide +kernel
theorem dX0_slipOn_107 : decode cX0_slipOn 107 = .ok (.goto (-90), 3) := by decide +kernel
theorem dX0_slipOn_110 : decode cX0_slipOn 110 = .ok (.iload_n 3, 1) := by decide +kernel
theorem dX0_slipOn_111 : decode cX0_slipOn 111 = .ok (.ireturn, 1) := by decide +kernel
theorem dX0_nextOf_0 : decode cX0_nextOf 0 = .ok (.iload_n 2, 1) := by decide +kernel
theorem dX0_nextOf_1 : decode cX0_nextOf 1 = .ok (.istore_n 3, 1) := by decide +kernel
theorem dX0_nextOf_2 : decode cX0_nextOf 2 = .ok (.iconst 0, 1) := by decide +kernel
theorem dX0_nextOf_3 : decode cX0_nextOf 3 = .ok (.istore 4, 2) := by decide +kernel
theorem dX0_nextOf_5 : decode cX0_nextOf 5 = .ok (.iload 4, 2) := by decide +kernel
theorem dX0_nextOf_7 : decode cX0_nextOf 7 = .ok (.aload_n 0, 1) := by decide +kernel
theorem dX0_nextOf_8 : decode cX0_nextOf 8 = .ok (.getfield 9, 3) := by decide +kernel
theorem dX0_nextOf_11 : decode cX0_nextOf 11 = .ok (.if_icmp .ge 65, 3) := by decide +kernel
theorem dX0_nextOf_14 : decode cX0_nextOf 14 = .ok (.aload_n 0, 1) := by decide +kernel
theorem dX0_nextOf_15 : decode cX0_nextOf 15 = .ok (.getfield 36, 3) := by decide +kernel
theorem dX0_nextOf_18 : decode cX0_nextOf 18 = .ok (.ifCond .eq 24, 3) := by decide +kernel
theorem dX0_nextOf_21 : decode cX0_nextOf 21 = .ok (.iload_n 3, 1) := by decide +kernel
theorem dX0_nextOf_22 : decode cX0_nextOf 22 = .ok (.iconst 1, 1) := by decide +kernel
theorem dX0_nextOf_23 : decode cX0_nextOf 23 = .ok (.iadd, 1) := by decide +kernel
theorem dX0_nextOf_24 : decode cX0_nextOf 24 = .ok (.aload_n 0, 1) := by decide +kernel
theorem dX0_nextOf_25 : decode cX0_nextOf 25 = .ok (.getfield 9, 3) := by decide +kernel
theorem dX0_nextOf_28 : decode cX0_nextOf 28 = .ok (.if_icmp .ge 9, 3) := by decide +kernel
theorem dX0_nextOf_31 : decode cX0_nextOf 31 = .ok (.iload_n 3, 1) := by decide +kernel
theorem dX0_nextOf_32 : decode cX0_nextOf 32 = .ok (.iconst 1, 1) := by decide +kernel
theorem dX0_nextOf_33 : decode cX0_nextOf 33 = .ok (.iadd, 1) := by decide +kernel
theorem dX0_nextOf_34 : decode cX0_nextOf 34 = .ok (.goto 4, 3) := by decide +kernel
theorem dX0_nextOf_37 : decode cX0_nextOf 37 = .ok (.iconst 0, 1) := by decide +kernel
theorem dX0_nextOf_38 : decode cX0_nextOf 38 = .ok (.istore_n 3, 1) := by decide +kernel
theorem dX0_nextOf_39 : decode cX0_nextOf 39 = .ok (.goto 20, 3) := by decide +kernel
theorem dX0_nextOf_42 : decode cX0_nextOf 42 = .ok (.iload_n 3, 1) := by decide +kernel
theorem dX0_nextOf_43 : decode cX0_nextOf 43 = .ok (.ifCond .le 9, 3) := by decide +kernel
theorem dX0_nextOf_46 : decode cX0_nextOf 46 = .ok (.iload_n 3, 1) := by decide +kernel
theorem dX0_nextOf_47 : decode cX0_nextOf 47 = .ok (.iconst 1, 1) := by decide +kernel
theorem dX0_nextOf_48 : decode cX0_nextOf 48 = .ok (.isub, 1) := by decide +kernel
theorem dX0_nextOf_49 : decode cX0_nextOf 49 = .ok (.goto 9, 3) := by decide +kernel
theorem dX0_nextOf_52 : decode cX0_nextOf 52 = .ok (.aload_n 0, 1) := by decide +kernel
theorem dX0_nextOf_53 : decode cX0_nextOf 53 = .ok (.getfield 9, 3) := by decide +kernel
theorem dX0_nextOf_56 : decode cX0_nextOf 56 = .ok (.iconst 1, 1) := by decide +kernel
theorem dX0_nextOf_57 : decode cX0_nextOf 57 = .ok (.isub, 1) := by decide +kernel
theorem dX0_nextOf_58 : decode cX0_nextOf 58 = .ok (.istore_n 3, 1) := by decide +kernel
theorem dX0_nextOf_59 : decode cX0_nextOf 59 = .ok (.iload_n 1, 1) := by decide +kernel
theorem dX0_nextOf_60 : decode cX0_nextOf 60 = .ok (.iload_n 3, 1) := by decide +kernel
theorem dX0_nextOf_61 : decode cX0_nextOf 61 = .ok (.ishr, 1) := by decide +kernel
theorem dX0_nextOf_62 : decode cX0_nextOf 62 = .ok (.iconst 1, 1) := by decide +kernel
theorem dX0_nextOf_63 : decode cX0_nextOf 63 = .ok (.iand, 1) := by decide +kernel
theorem dX0_nextOf_64 : decode cX0_nextOf 64 = .ok (.ifCond .eq 6, 3) := by decide +kernel
theorem dX0_nextOf_67 : decode cX0_nextOf 67 = .ok (.goto 9, 3) := by decide +kernel
theorem dX0_nextOf_70 : decode cX0_nextOf 70 = .ok (.iinc 4 1, 3) := by decide +kernel
theorem dX0_nextOf_73 : decode cX0_nextOf 73 = .ok (.goto (-68), 3) := by decide +kernel
theorem dX0_nextOf_76 : decode cX0_nextOf 76 = .ok (.iload_n 3, 1) := by decide +kernel
theorem dX0_nextOf_77 : decode cX0_nextOf 77 = .ok (.ireturn, 1) := by decide +kernel
theorem dX0_pose_0 : decode cX0_pose 0 = .ok (.aload_n 0, 1) := by decide +kernel
theorem dX0_pose_1 : decode cX0_pose 1 = .ok (.getfield 36, 3) := by decide +kernel
theorem dX0_pose_4 : decode cX0_pose 4 = .ok (.ifCond .eq 7, 3) := by decide +kernel
theorem dX0_pose_7 : decode cX0_pose 7 = .ok (.iconst 1, 1) := by decide +kernel
theorem dX0_pose_8 : decode cX0_pose 8 = .ok (.goto 4, 3) := by decide +kernel
theorem dX0_pose_11 : decode cX0_pose 11 = .ok (.iconst 0, 1) := by decide +kernel
theorem dX0_pose_12 : decode cX0_pose 12 = .ok (.istore_n 1, 1) := by decide +kernel
theorem dX0_pose_13 : decode cX0_pose 13 = .ok (.iload_n 1, 1) := by decide +kernel
theorem dX0_pose_14 : decode cX0_pose 14 = .ok (.iconst 4, 1) := by decide +kernel
theorem dX0_pose_15 : decode cX0_pose 15 = .ok (.ishl, 1) := by decide +kernel
theorem dX0_pose_16 : decode cX0_pose 16 = .ok (.aload_n 0, 1) := by decide +kernel
theorem dX0_pose_17 : decode cX0_pose 17 = .ok (.getfield 33, 3) := by decide +kernel
theorem dX0_pose_20 : decode cX0_pose 20 = .ok (.ior, 1) := by decide +kernel
theorem dX0_pose_21 : decode cX0_pose 21 = .ok (.istore_n 1, 1) := by decide +kernel
theorem dX0_pose_22 : decode cX0_pose 22 = .ok (.iload_n 1, 1) := by decide +kernel
theorem dX0_pose_23 : decode cX0_pose 23 = .ok (.bipush 9, 2) := by decide +kernel
theorem dX0_pose_25 : decode cX0_pose 25 = .ok (.ishl, 1) := by decide +kernel
theorem dX0_pose_26 : decode cX0_pose 26 = .ok (.aload_n 0, 1) := by decide +kernel
theorem dX0_pose_27 : decode cX0_pose 27 = .ok (.getfield 30, 3) := by decide +kernel
theorem dX0_pose_30 : decode cX0_pose 30 = .ok (.ior, 1) := by decide +kernel
theorem dX0_pose_31 : decode cX0_pose 31 = .ok (.istore_n 1, 1) := by decide +kernel
theorem dX0_pose_32 : decode cX0_pose 32 = .ok (.iload_n 1, 1) := by decide +kernel
theorem dX0_pose_33 : decode cX0_pose 33 = .ok (.bipush 9, 2) := by decide +kernel
theorem dX0_pose_35 : decode cX0_pose 35 = .ok (.ishl, 1) := by decide +kernel
theorem dX0_pose_36 : decode cX0_pose 36 = .ok (.aload_n 0, 1) := by decide +kernel
theorem dX0_pose_37 : decode cX0_pose 37 = .ok (.getfield 27, 3) := by decide +kernel
theorem dX0_pose_40 : decode cX0_pose 40 = .ok (.ior, 1) := by decide +kernel
theorem dX0_pose_41 : decode cX0_pose 41 = .ok (.ireturn, 1) := by decide +kernel
theorem dX0_takePose_0 : decode cX0_takePose 0 = .ok (.aload_n 0, 1) := by decide +kernel
theorem dX0_takePose_1 : decode cX0_takePose 1 = .ok (.iload_n 1, 1) := by decide +kernel
theorem dX0_takePose_2 : decode cX0_takePose 2 = .ok (.sipush 511, 3) := by decide +kernel
theorem dX0_takePose_5 : decode cX0_takePose 5 = .ok (.iand, 1) := by decide +kernel
theorem dX0_takePose_6 : decode cX0_takePose 6 = .ok (.putfield 27, 3) := by decide +kernel
theorem dX0_takePose_9 : decode cX0_takePose 9 = .ok (.aload_n 0, 1) := by decide +kernel
theorem dX0_takePose_10 : decode cX0_takePose 10 = .ok (.iload_n 1, 1) := by decide +kernel
theorem dX0_takePose_11 : decode cX0_takePose 11 = .ok (.bipush 9, 2) := by decide +kernel
theorem dX0_takePose_13 : decode cX0_takePose 13 = .ok (.ishr, 1) := by decide +kernel
theorem dX0_takePose_14 : decode cX0_takePose 14 = .ok (.sipush 511, 3) := by decide +kernel
theorem dX0_takePose_17 : decode cX0_takePose 17 = .ok (.iand, 1) := by decide +kernel
theorem dX0_takePose_18 : decode cX0_takePose 18 = .ok (.putfield 30, 3) := by decide +kernel
theorem dX0_takePose_21 : decode cX0_takePose 21 = .ok (.aload_n 0, 1) := by decide +kernel
theorem dX0_takePose_22 : decode cX0_takePose 22 = .ok (.iload_n 1, 1) := by decide +kernel
theorem dX0_takePose_23 : decode cX0_takePose 23 = .ok (.bipush 18, 2) := by decide +kernel
theorem dX0_takePose_25 : decode cX0_takePose 25 = .ok (.ishr, 1) := by decide +kernel
theorem dX0_takePose_26 : decode cX0_takePose 26 = .ok (.bipush 15, 2) := by decide +kernel
theorem dX0_takePose_28 : decode cX0_takePose 28 = .ok (.iand, 1) := by decide +kernel
theorem dX0_takePose_29 : decode cX0_takePose 29 = .ok (.putfield 33, 3) := by decide +kernel
theorem dX0_takePose_32 : decode cX0_takePose 32 = .ok (.aload_n 0, 1) := by decide +kernel
theorem dX0_takePose_33 : decode cX0_takePose 33 = .ok (.iload_n 1, 1) := by decide +kernel
theorem dX0_takePose_34 : decode cX0_takePose 34 = .ok (.bipush 22, 2) := by decide +kernel
theorem dX0_takePose_36 : decode cX0_takePose 36 = .ok (.ishr, 1) := by decide +kernel
theorem dX0_takePose_37 : decode cX0_takePose 37 = .ok (.ifCond .eq 7, 3) := by decide +kernel
theorem dX0_takePose_40 : decode cX0_takePose 40 = .ok (.iconst 1, 1) := by decide +kernel
theorem dX0_takePose_41 : decode cX0_takePose 41 = .ok (.goto 4, 3) := by decide +kernel
theorem dX0_takePose_44 : decode cX0_takePose 44 = .ok (.iconst 0, 1) := by decide +kernel
theorem dX0_takePose_45 : decode cX0_takePose 45 = .ok (.putfield 36, 3) := by decide +kernel
theorem dX0_takePose_48 : decode cX0_takePose 48 = .ok (.return_, 1) := by decide +kernel
theorem dX0_key_0 : decode cX0_key 0 = .ok (.aload_n 0, 1) := by decide +kernel
theorem dX0_key_1 : decode cX0_key 1 = .ok (.getfield 9, 3) := by decide +kernel
theorem dX0_key_4 : decode cX0_key 4 = .ok (.i2l, 1) := by decide +kernel
theorem dX0_key_5 : decode cX0_key 5 = .ok (.lstore_n 1, 1) := by decide +kernel
theorem dX0_key_6 : decode cX0_key 6 = .ok (.lload_n 1, 1) := by decide +kernel
theorem dX0_key_7 : decode cX0_key 7 = .ok (.bipush 8, 2) := by decide +kernel
theorem dX0_key_9 : decode cX0_key 9 = .ok (.lshl, 1) := by decide +kernel
theorem dX0_key_10 : decode cX0_key 10 = .ok (.aload_n 0, 1) := by decide +kernel
theorem dX0_key_11 : decode cX0_key 11 = .ok (.getfield 15, 3) := by decide +kernel
theorem dX0_key_14 : decode cX0_key 14 = .ok (.i2l, 1) := by decide +kernel
theorem dX0_key_15 : decode cX0_key 15 = .ok (.lor, 1) := by decide +kernel
theorem dX0_key_16 : decode cX0_key 16 = .ok (.lstore_n 1, 1) := by decide +kernel
theorem dX0_key_17 : decode cX0_key 17 = .ok (.lload_n 1, 1) := by decide +kernel
theorem dX0_key_18 : decode cX0_key 18 = .ok (.bipush 8, 2) := by decide +kernel
theorem dX0_key_20 : decode cX0_key 20 = .ok (.lshl, 1) := by decide +kernel
theorem dX0_key_21 : decode cX0_key 21 = .ok (.aload_n 0, 1) := by decide +kernel
theorem dX0_key_22 : decode cX0_key 22 = .ok (.getfield 18, 3) := by decide +kernel
theorem dX0_key_25 : decode cX0_key 25 = .ok (.i2l, 1) := by decide +kernel
theorem dX0_key_26 : decode cX0_key 26 = .ok (.lor, 1) := by decide +kernel
theorem dX0_key_27 : decode cX0_key 27 = .ok (.lstore_n 1, 1) := by decide +kernel
theorem dX0_key_28 : decode cX0_key 28 = .ok (.lload_n 1, 1) := by decide +kernel
theorem dX0_key_29 : decode cX0_key 29 = .ok (.bipush 8, 2) := by decide +kernel
theorem dX0_key_31 : decode cX0_key 31 = .ok (.lshl, 1) := by decide +kernel
theorem dX0_key_32 : decode cX0_key 32 = .ok (.aload_n 0, 1) := by decide +kernel
theorem dX0_key_33 : decode cX0_key 33 = .ok (.getfield 21, 3) := by decide +kernel
theorem dX0_key_36 : decode cX0_key 36 = .ok (.i2l, 1) := by decide +kernel
theorem dX0_key_37 : decode cX0_key 37 = .ok (.lor, 1) := by decide +kernel
theorem dX0_key_38 : decode cX0_key 38 = .ok (.lstore_n 1, 1) := by decide +kernel
theorem dX0_key_39 : decode cX0_key 39 = .ok (.lload_n 1, 1) := by decide +kernel
theorem dX0_key_40 : decode cX0_key 40 = .ok (.bipush 8, 2) := by decide +kernel
theorem dX0_key_42 : decode cX0_key 42 = .ok (.lshl, 1) := by decide +kernel
theorem dX0_key_43 : decode cX0_key 43 = .ok (.aload_n 0, 1) := by decide +kernel
theorem dX0_key_44 : decode cX0_key 44 = .ok (.getfield 24, 3) := by decide +kernel
theorem dX0_key_47 : decode cX0_key 47 = .ok (.i2l, 1) := by decide +kernel
theorem dX0_key_48 : decode cX0_key 48 = .ok (.lor, 1) := by decide +kernel
theorem dX0_key_49 : decode cX0_key 49 = .ok (.lstore_n 1, 1) := by decide +kernel
theorem dX0_key_50 : decode cX0_key 50 = .ok (.lload_n 1, 1) := by decide +kernel
theorem dX0_key_51 : decode cX0_key 51 = .ok (.bipush 23, 2) := by decide +kernel
theorem dX0_key_53 : decode cX0_key 53 = .ok (.lshl, 1) := by decide +kernel
theorem dX0_key_54 : decode cX0_key 54 = .ok (.aload_n 0, 1) := by decide +kernel
theorem dX0_key_55 : decode cX0_key 55 = .ok (.invokevirtual 80, 3) := by decide +kernel
theorem dX0_key_58 : decode cX0_key 58 = .ok (.i2l, 1) := by decide +kernel
theorem dX0_key_59 : decode cX0_key 59 = .ok (.lor, 1) := by decide +kernel
theorem dX0_key_60 : decode cX0_key 60 = .ok (.lreturn, 1) := by decide +kernel
theorem dX1_init_0 : decode cX1_init 0 = .ok (.aload_n 0, 1) := by decide +kernel
theorem dX1_init_1 : decode cX1_init 1 = .ok (.invokespecial 3, 3) := by decide +kernel
theorem dX1_init_4 : decode cX1_init 4 = .ok (.aload_n 0, 1) := by decide +kernel
theorem dX1_init_5 : decode cX1_init 5 = .ok (.new 9, 3) := by decide +kernel
theorem dX1_init_8 : decode cX1_init 8 = .ok (.dup, 1) := by decide +kernel
theorem dX1_init_9 : decode cX1_init 9 = .ok (.invokespecial 11, 3) := by decide +kernel
theorem dX1_init_12 : decode cX1_init 12 = .ok (.putfield 12, 3) := by decide +kernel
theorem dX1_init_15 : decode cX1_init 15 = .ok (.aload_n 0, 1) := by decide +kernel
theorem dX1_init_16 : decode cX1_init 16 = .ok (.bipush 61, 2) := by decide +kernel
theorem dX1_init_18 : decode cX1_init 18 = .ok (.newarray .int, 2) := by decide +kernel
theorem dX1_init_20 : decode cX1_init 20 = .ok (.putfield 18, 3) := by decide +kernel
theorem dX1_init_23 : decode cX1_init 23 = .ok (.aload_n 0, 1) := by decide +kernel
theorem dX1_init_24 : decode cX1_init 24 = .ok (.ldc2_w 22, 3) := by decide +kernel
theorem dX1_init_27 : decode cX1_init 27 = .ok (.putfield 24, 3) := by decide +kernel
theorem dX1_init_30 : decode cX1_init 30 = .ok (.aload_n 0, 1) := by decide +kernel
theorem dX1_init_31 : decode cX1_init 31 = .ok (.bipush 8, 2) := by decide +kernel
theorem dX1_init_33 : decode cX1_init 33 = .ok (.newarray .int, 2) := by decide +kernel
theorem dX1_init_35 : decode cX1_init 35 = .ok (.putfield 28, 3) := by decide +kernel
theorem dX1_init_38 : decode cX1_init 38 = .ok (.aload_n 0, 1) := by decide +kernel
theorem dX1_init_39 : decode cX1_init 39 = .ok (.ldc2_w 22, 3) := by decide +kernel
theorem dX1_init_42 : decode cX1_init 42 = .ok (.putfield 31, 3) := by decide +kernel
theorem dX1_init_45 : decode cX1_init 45 = .ok (.aload_n 0, 1) := by decide +kernel
theorem dX1_init_46 : decode cX1_init 46 = .ok (.bipush 8, 2) := by decide +kernel
theorem dX1_init_48 : decode cX1_init 48 = .ok (.newarray .int, 2) := by decide +kernel
theorem dX1_init_50 : decode cX1_init 50 = .ok (.putfield 34, 3) := by decide +kernel
theorem dX1_init_53 : decode cX1_init 53 = .ok (.aload_n 0, 1) := by decide +kernel
theorem dX1_init_54 : decode cX1_init 54 = .ok (.aload_n 1, 1) := by decide +kernel
theorem dX1_init_55 : decode cX1_init 55 = .ok (.putfield 37, 3) := by decide +kernel
theorem dX1_init_58 : decode cX1_init 58 = .ok (.return_, 1) := by decide +kernel
theorem dX1_outBy_0 : decode cX1_outBy 0 = .ok (.aload_n 0, 1) := by decide +kernel
theorem dX1_outBy_1 : decode cX1_outBy 1 = .ok (.getfield 12, 3) := by decide +kernel
theorem dX1_outBy_4 : decode cX1_outBy 4 = .ok (.aload_n 0, 1) := by decide +kernel
theorem dX1_outBy_5 : decode cX1_outBy 5 = .ok (.getfield 37, 3) := by decide +kernel
theorem dX1_outBy_8 : decode cX1_outBy 8 = .ok (.getfield 41, 3) := by decide +kernel
theorem dX1_outBy_11 : decode cX1_outBy 11 = .ok (.invokevirtual 46, 3) := by decide +kernel
theorem dX1_outBy_14 : decode cX1_outBy 14 = .ok (.aload_n 0, 1) := by decide +kernel
theorem dX1_outBy_15 : decode cX1_outBy 15 = .ok (.getfield 12, 3) := by decide +kernel
theorem dX1_outBy_18 : decode cX1_outBy 18 = .ok (.iload_n 1, 1) := by decide +kernel
theorem dX1_outBy_19 : decode cX1_outBy 19 = .ok (.putfield 50, 3) := by decide +kernel
theorem dX1_outBy_22 : decode cX1_outBy 22 = .ok (.aload_n 0, 1) := by decide +kernel
theorem dX1_outBy_23 : decode cX1_outBy 23 = .ok (.getfield 12, 3) := by decide +kernel
theorem dX1_outBy_26 : decode cX1_outBy 26 = .ok (.iload_n 2, 1) := by decide +kernel
theorem dX1_outBy_27 : decode cX1_outBy 27 = .ok (.invokevirtual 54, 3) := by decide +kernel
theorem dX1_outBy_30 : decode cX1_outBy 30 = .ok (.ireturn, 1) := by decide +kernel
theorem dX1_leftBy_0 : decode cX1_leftBy 0 = .ok (.aload_n 0, 1) := by decide +kernel
theorem dX1_leftBy_1 : decode cX1_leftBy 1 = .ok (.getfield 12, 3) := by decide +kernel
theorem dX1_leftBy_4 : decode cX1_leftBy 4 = .ok (.aload_n 0, 1) := by decide +kernel
theorem dX1_leftBy_5 : decode cX1_leftBy 5 = .ok (.getfield 37, 3) := by decide +kernel
theorem dX1_leftBy_8 : decode cX1_leftBy 8 = .ok (.getfield 41, 3) := by decide +kernel
theorem dX1_leftBy_11 : decode cX1_leftBy 11 = .ok (.invokevirtual 46, 3) := by decide +kernel
theorem dX1_leftBy_14 : decode cX1_leftBy 14 = .ok (.aload_n 0, 1) := by decide +kernel
theorem dX1_leftBy_15 : decode cX1_leftBy 15 = .ok (.getfield 12, 3) := by decide +kernel
theorem dX1_leftBy_18 : decode cX1_leftBy 18 = .ok (.iload_n 1, 1) := by decide +kernel
theorem dX1_leftBy_19 : decode cX1_leftBy 19 = .ok (.invokevirtual 58, 3) := by decide +kernel
theorem dX1_leftBy_22 : decode cX1_leftBy 22 = .ok (.ireturn, 1) := by decide +kernel
theorem dX1_fewestBeats_0 : decode cX1_fewestBeats 0 = .ok (.aload_n 0, 1) := by decide +kernel
theorem dX1_fewestBeats_1 : decode cX1_fewestBeats 1 = .ok (.getfield 37, 3) := by decide +kernel
theorem dX1_fewestBeats_4 : decode cX1_fewestBeats 4 = .ok (.getfield 41, 3) := by decide +kernel
theorem dX1_fewestBeats_7 : decode cX1_fewestBeats 7 = .ok (.invokevirtual 61, 3) := by decide +kernel
theorem dX1_fewestBeats_10 : decode cX1_fewestBeats 10 = .ok (.lstore_n 2, 1) := by decide +kernel
theorem dX1_fewestBeats_11 : decode cX1_fewestBeats 11 = .ok (.lload_n 2, 1) := by decide +kernel
theorem dX1_fewestBeats_12 : decode cX1_fewestBeats 12 = .ok (.aload_n 0, 1) := by decide +kernel
theorem dX1_fewestBeats_13 : decode cX1_fewestBeats 13 = .ok (.getfield 24, 3) := by decide +kernel
theorem dX1_fewestBeats_16 : decode cX1_fewestBeats 16 = .ok (.lcmp, 1) := by decide +kernel
theorem dX1_fewestBeats_17 : decode cX1_fewestBeats 17 = .ok (.ifCond .eq 40, 3) := by decide +kernel
theorem dX1_fewestBeats_20 : decode cX1_fewestBeats 20 = .ok (.iconst 1, 1) := by decide +kernel
theorem dX1_fewestBeats_21 : decode cX1_fewestBeats 21 = .ok (.istore 4, 2) := by decide +kernel
theorem dX1_fewestBeats_23 : decode cX1_fewestBeats 23 = .ok (.iload 4, 2) := by decide +kernel
theorem dX1_fewestBeats_25 : decode cX1_fewestBeats 25 = .ok (.aload_n 0, 1) := by decide +kernel
theorem dX1_fewestBeats_26 : decode cX1_fewestBeats 26 = .ok (.getfield 18, 3) := by decide +kernel
theorem dX1_fewestBeats_29 : decode cX1_fewestBeats 29 = .ok (.arraylength, 1) := by decide +kernel
theorem dX1_fewestBeats_30 : decode cX1_fewestBeats 30 = .ok (.if_icmp .ge 22, 3) := by decide +kernel
theorem dX1_fewestBeats_33 : decode cX1_fewestBeats 33 = .ok (.aload_n 0, 1) := by decide +kernel
theorem dX1_fewestBeats_34 : decode cX1_fewestBeats 34 = .ok (.getfield 18, 3) := by decide +kernel
theorem dX1_fewestBeats_37 : decode cX1_fewestBeats 37 = .ok (.iload 4, 2) := by decide +kernel
theorem dX1_fewestBeats_39 : decode cX1_fewestBeats 39 = .ok (.aload_n 0, 1) := by decide +kernel
theorem dX1_fewestBeats_40 : decode cX1_fewestBeats 40 = .ok (.iload 4, 2) := by decide +kernel
theorem dX1_fewestBeats_42 : decode cX1_fewestBeats 42 = .ok (.invokevirtual 65, 3) := by decide +kernel
theorem dX1_fewestBeats_45 : decode cX1_fewestBeats 45 = .ok (.iastore, 1) := by decide +kernel
theorem dX1_fewestBeats_46 : decode cX1_fewestBeats 46 = .ok (.iinc 4 1, 3) := by decide +kernel
theorem dX1_fewestBeats_49 : decode cX1_fewestBeats 49 = .ok (.goto (-26), 3) := by decide +kernel
theorem dX1_fewestBeats_52 : decode cX1_fewestBeats 52 = .ok (.aload_n 0, 1) := by decide +kernel
theorem dX1_fewestBeats_53 : decode cX1_fewestBeats 53 = .ok (.lload_n 2, 1) := by decide +kernel
theorem dX1_fewestBeats_54 : decode cX1_fewestBeats 54 = .ok (.putfield 24, 3) := by decide +kernel
theorem dX1_fewestBeats_57 : decode cX1_fewestBeats 57 = .ok (.iconst 1, 1) := by decide +kernel
theorem dX1_fewestBeats_58 : decode cX1_fewestBeats 58 = .ok (.istore 4, 2) := by decide +kernel
theorem dX1_fewestBeats_60 : decode cX1_fewestBeats 60 = .ok (.iload 4, 2) := by decide +kernel
theorem dX1_fewestBeats_62 : decode cX1_fewestBeats 62 = .ok (.aload_n 0, 1) := by decide +kernel
theorem dX1_fewestBeats_63 : decode cX1_fewestBeats 63 = .ok (.getfield 18, 3) := by decide +kernel
theorem dX1_fewestBeats_66 : decode cX1_fewestBeats 66 = .ok (.arraylength, 1) := by decide +kernel
theorem dX1_fewestBeats_67 : decode cX1_fewestBeats 67 = .ok (.if_icmp .ge 23, 3) := by decide +kernel
theorem dX1_fewestBeats_70 : decode cX1_fewestBeats 70 = .ok (.aload_n 0, 1) := by decide +kernel
theorem dX1_fewestBeats_71 : decode cX1_fewestBeats 71 = .ok (.getfield 18, 3) := by decide +kernel
theorem dX1_fewestBeats_74 : decode cX1_fewestBeats 74 = .ok (.iload 4, 2) := by decide +kernel
theorem dX1_fewestBeats_76 : decode cX1_fewestBeats 76 = .ok (.iaload, 1) := by decide +kernel
theorem dX1_fewestBeats_77 : decode cX1_fewestBeats 77 = .ok (.iload_n 1, 1) := by decide +kernel
theorem dX1_fewestBeats_78 : decode cX1_fewestBeats 78 = .ok (.if_icmp .ne 6, 3) := by decide +kernel
theorem dX1_fewestBeats_81 : decode cX1_fewestBeats 81 = .ok (.iload 4, 2) := by decide +kernel
theorem dX1_fewestBeats_83 : decode cX1_fewestBeats 83 = .ok (.ireturn, 1) := by decide +kernel
theorem dX1_fewestBeats_84 : decode cX1_fewestBeats 84 = .ok (.iinc 4 1, 3) := by decide +kernel
theorem dX1_fewestBeats_87 : decode cX1_fewestBeats 87 = .ok (.goto (-27), 3) := by decide +kernel
theorem dX1_fewestBeats_90 : decode cX1_fewestBeats 90 = .ok (.iconst (-1), 1) := by decide +kernel
theorem dX1_fewestBeats_91 : decode cX1_fewestBeats 91 = .ok (.ireturn, 1) := by decide +kernel
theorem dX1_startsFor_0 : decode cX1_startsFor 0 = .ok (.iconst 0, 1) := by decide +kernel
theorem dX1_startsFor_1 : decode cX1_startsFor 1 = .ok (.istore_n 3, 1) := by decide +kernel
theorem dX1_startsFor_2 : decode cX1_startsFor 2 = .ok (.iconst 0, 1) := by decide +kernel
theorem dX1_startsFor_3 : decode cX1_startsFor 3 = .ok (.istore 4, 2) := by decide +kernel
theorem dX1_startsFor_5 : decode cX1_startsFor 5 = .ok (.iload 4, 2) := by decide +kernel
theorem dX1_startsFor_7 : decode cX1_startsFor 7 = .ok (.aload_n 0, 1) := by decide +kernel
theorem dX1_startsFor_8 : decode cX1_startsFor 8 = .ok (.getfield 37, 3) := by decide +kernel
theorem dX1_startsFor_11 : decode cX1_startsFor 11 = .ok (.getfield 41, 3) := by decide +kernel
theorem dX1_startsFor_14 : decode cX1_startsFor 14 = .ok (.getfield 68, 3) := by decide +kernel
theorem dX1_startsFor_17 : decode cX1_startsFor 17 = .ok (.if_icmp .ge 70, 3) := by decide +kernel
theorem dX1_startsFor_20 : decode cX1_startsFor 20 = .ok (.aload_n 0, 1) := by decide +kernel
theorem dX1_startsFor_21 : decode cX1_startsFor 21 = .ok (.getfield 37, 3) := by decide +kernel
theorem dX1_startsFor_24 : decode cX1_startsFor 24 = .ok (.getfield 41, 3) := by decide +kernel
theorem dX1_startsFor_27 : decode cX1_startsFor 27 = .ok (.iload 4, 2) := by decide +kernel
theorem dX1_startsFor_29 : decode cX1_startsFor 29 = .ok (.invokevirtual 71, 3) := by decide +kernel
theorem dX1_startsFor_32 : decode cX1_startsFor 32 = .ok (.ifCond .eq 49, 3) := by decide +kernel
theorem dX1_startsFor_35 : decode cX1_startsFor 35 = .ok (.aload_n 0, 1) := by decide +kernel
theorem dX1_startsFor_36 : decode cX1_startsFor 36 = .ok (.getfield 12, 3) := by decide +kernel
theorem dX1_startsFor_39 : decode cX1_startsFor 39 = .ok (.aload_n 0, 1) := by decide +kernel
theorem dX1_startsFor_40 : decode cX1_startsFor 40 = .ok (.getfield 37, 3) := by decide +kernel
theorem dX1_startsFor_43 : decode cX1_startsFor 43 = .ok (.getfield 41, 3) := by decide +kernel
theorem dX1_startsFor_46 : decode cX1_startsFor 46 = .ok (.invokevirtual 46, 3) := by decide +kernel
theorem dX1_startsFor_49 : decode cX1_startsFor 49 = .ok (.aload_n 0, 1) := by decide +kernel
theorem dX1_startsFor_50 : decode cX1_startsFor 50 = .ok (.getfield 12, 3) := by decide +kernel
theorem dX1_startsFor_53 : decode cX1_startsFor 53 = .ok (.iload 4, 2) := by decide +kernel
theorem dX1_startsFor_55 : decode cX1_startsFor 55 = .ok (.putfield 50, 3) := by decide +kernel
theorem dX1_startsFor_58 : decode cX1_startsFor 58 = .ok (.iload_n 3, 1) := by decide +kernel
theorem dX1_startsFor_59 : decode cX1_startsFor 59 = .ok (.aload_n 0, 1) := by decide +kernel
theorem dX1_startsFor_60 : decode cX1_startsFor 60 = .ok (.getfield 12, 3) := by decide +kernel
theorem dX1_startsFor_63 : decode cX1_startsFor 63 = .ok (.iload_n 2, 1) := by decide +kernel
theorem dX1_startsFor_64 : decode cX1_startsFor 64 = .ok (.invokevirtual 58, 3) := by decide +kernel
theorem dX1_startsFor_67 : decode cX1_startsFor 67 = .ok (.iload_n 1, 1) := by decide +kernel
theorem dX1_startsFor_68 : decode cX1_startsFor 68 = .ok (.if_icmp .ne 10, 3) := by decide +kernel
theorem dX1_startsFor_71 : decode cX1_startsFor 71 = .ok (.iconst 1, 1) := by decide +kernel
theorem dX1_startsFor_72 : decode cX1_startsFor 72 = .ok (.iload 4, 2) := by decide +kernel
theorem dX1_startsFor_74 : decode cX1_startsFor 74 = .ok (.ishl, 1) := by decide +kernel
theorem dX1_startsFor_75 : decode cX1_startsFor 75 = .ok (.goto 4, 3) := by decide +kernel
theorem dX1_startsFor_78 : decode cX1_startsFor 78 = .ok (.iconst 0, 1) := by decide +kernel
theorem dX1_startsFor_79 : decode cX1_startsFor 79 = .ok (.ior, 1) := by decide +kernel
theorem dX1_startsFor_80 : decode cX1_startsFor 80 = .ok (.istore_n 3, 1) := by decide +kernel
theorem dX1_startsFor_81 : decode cX1_startsFor 81 = .ok (.iinc 4 1, 3) := by decide +kernel
theorem dX1_startsFor_84 : decode cX1_startsFor 84 = .ok (.goto (-79), 3) := by decide +kernel
theorem dX1_startsFor_87 : decode cX1_startsFor 87 = .ok (.iload_n 3, 1) := by decide +kernel
theorem dX1_startsFor_88 : decode cX1_startsFor 88 = .ok (.ireturn, 1) := by decide +kernel
theorem dX1_placesFor_0 : decode cX1_placesFor 0 = .ok (.iconst 0, 1) := by decide +kernel
theorem dX1_placesFor_1 : decode cX1_placesFor 1 = .ok (.istore_n 3, 1) := by decide +kernel
theorem dX1_placesFor_2 : decode cX1_placesFor 2 = .ok (.iconst 0, 1) := by decide +kernel
theorem dX1_placesFor_3 : decode cX1_placesFor 3 = .ok (.istore 4, 2) := by decide +kernel
theorem dX1_placesFor_5 : decode cX1_placesFor 5 = .ok (.iload 4, 2) := by decide +kernel
theorem dX1_placesFor_7 : decode cX1_placesFor 7 = .ok (.aload_n 0, 1) := by decide +kernel
theorem dX1_placesFor_8 : decode cX1_placesFor 8 = .ok (.getfield 37, 3) := by decide +kernel
theorem dX1_placesFor_11 : decode cX1_placesFor 11 = .ok (.getfield 41, 3) := by decide +kernel
theorem dX1_placesFor_14 : decode cX1_placesFor 14 = .ok (.getfield 68, 3) := by decide +kernel
theorem dX1_placesFor_17 : decode cX1_placesFor 17 = .ok (.if_icmp .gt 57, 3) := by decide +kernel
theorem dX1_placesFor_20 : decode cX1_placesFor 20 = .ok (.aload_n 0, 1) := by decide +kernel
theorem dX1_placesFor_21 : decode cX1_placesFor 21 = .ok (.getfield 12, 3) := by decide +kernel
theorem dX1_placesFor_24 : decode cX1_placesFor 24 = .ok (.aload_n 0, 1) := by decide +kernel
theorem dX1_placesFor_25 : decode cX1_placesFor 25 = .ok (.getfield 37, 3) := by decide +kernel
theorem dX1_placesFor_28 : decode cX1_placesFor 28 = .ok (.getfield 41, 3) := by decide +kernel
theorem dX1_placesFor_31 : decode cX1_placesFor 31 = .ok (.invokevirtual 46, 3) := by decide +kernel
theorem dX1_placesFor_34 : decode cX1_placesFor 34 = .ok (.aload_n 0, 1) := by decide +kernel
theorem dX1_placesFor_35 : decode cX1_placesFor 35 = .ok (.getfield 12, 3) := by decide +kernel
theorem dX1_placesFor_38 : decode cX1_placesFor 38 = .ok (.iload 4, 2) := by decide +kernel
theorem dX1_placesFor_40 : decode cX1_placesFor 40 = .ok (.iload_n 1, 1) := by decide +kernel
theorem dX1_placesFor_41 : decode cX1_placesFor 41 = .ok (.invokevirtual 75, 3) := by decide +kernel
theorem dX1_placesFor_44 : decode cX1_placesFor 44 = .ok (.iload_n 3, 1) := by decide +kernel
theorem dX1_placesFor_45 : decode cX1_placesFor 45 = .ok (.aload_n 0, 1) := by decide +kernel
theorem dX1_placesFor_46 : decode cX1_placesFor 46 = .ok (.getfield 12, 3) := by decide +kernel
theorem dX1_placesFor_49 : decode cX1_placesFor 49 = .ok (.iload_n 2, 1) := by decide +kernel
theorem dX1_placesFor_50 : decode cX1_placesFor 50 = .ok (.invokevirtual 58, 3) := by decide +kernel
theorem dX1_placesFor_53 : decode cX1_placesFor 53 = .ok (.iload 4, 2) := by decide +kernel
theorem dX1_placesFor_55 : decode cX1_placesFor 55 = .ok (.if_icmp .ne 10, 3) := by decide +kernel
theorem dX1_placesFor_58 : decode cX1_placesFor 58 = .ok (.iconst 1, 1) := by decide +kernel
theorem dX1_placesFor_59 : decode cX1_placesFor 59 = .ok (.iload 4, 2) := by decide +kernel
theorem dX1_placesFor_61 : decode cX1_placesFor 61 = .ok (.ishl, 1) := by decide +kernel
theorem dX1_placesFor_62 : decode cX1_placesFor 62 = .ok (.goto 4, 3) := by decide +kernel
theorem dX1_placesFor_65 : decode cX1_placesFor 65 = .ok (.iconst 0, 1) := by decide +kernel
theorem dX1_placesFor_66 : decode cX1_placesFor 66 = .ok (.ior, 1) := by decide +kernel
theorem dX1_placesFor_67 : decode cX1_placesFor 67 = .ok (.istore_n 3, 1) := by decide +kernel
theorem dX1_placesFor_68 : decode cX1_placesFor 68 = .ok (.iinc 4 1, 3) := by decide +kernel
theorem dX1_placesFor_71 : decode cX1_placesFor 71 = .ok (.goto (-66), 3) := by decide +kernel
theorem dX1_placesFor_74 : decode cX1_placesFor 74 = .ok (.iload_n 3, 1) := by decide +kernel
theorem dX1_placesFor_75 : decode cX1_placesFor 75 = .ok (.ireturn, 1) := by decide +kernel
theorem dX1_bestFor_0 : decode cX1_bestFor 0 = .ok (.aload_n 0, 1) := by decide +kernel
theorem dX1_bestFor_1 : decode cX1_bestFor 1 = .ok (.getfield 12, 3) := by decide +kernel
theorem dX1_bestFor_4 : decode cX1_bestFor 4 = .ok (.aload_n 0, 1) := by decide +kernel
theorem dX1_bestFor_5 : decode cX1_bestFor 5 = .ok (.getfield 37, 3) := by decide +kernel
theorem dX1_bestFor_8 : decode cX1_bestFor 8 = .ok (.getfield 41, 3) := by decide +kernel
theorem dX1_bestFor_11 : decode cX1_bestFor 11 = .ok (.invokevirtual 46, 3) := by decide +kernel
theorem dX1_bestFor_14 : decode cX1_bestFor 14 = .ok (.aload_n 0, 1) := by decide +kernel
theorem dX1_bestFor_15 : decode cX1_bestFor 15 = .ok (.iload_n 1, 1) := by decide +kernel
theorem dX1_bestFor_16 : decode cX1_bestFor 16 = .ok (.iload_n 2, 1) := by decide +kernel
theorem dX1_bestFor_17 : decode cX1_bestFor 17 = .ok (.iconst 0, 1) := by decide +kernel
theorem dX1_bestFor_18 : decode cX1_bestFor 18 = .ok (.invokevirtual 79, 3) := by decide +kernel
theorem dX1_bestFor_21 : decode cX1_bestFor 21 = .ok (.ireturn, 1) := by decide +kernel
theorem dX1_verseFor_0 : decode cX1_verseFor 0 = .ok (.aload_n 0, 1) := by decide +kernel
theorem dX1_verseFor_1 : decode cX1_verseFor 1 = .ok (.getfield 12, 3) := by decide +kernel
theorem dX1_verseFor_4 : decode cX1_verseFor 4 = .ok (.aload_n 0, 1) := by decide +kernel
theorem dX1_verseFor_5 : decode cX1_verseFor 5 = .ok (.getfield 37, 3) := by decide +kernel
theorem dX1_verseFor_8 : decode cX1_verseFor 8 = .ok (.getfield 41, 3) := by decide +kernel
theorem dX1_verseFor_11 : decode cX1_verseFor 11 = .ok (.invokevirtual 46, 3) := by decide +kernel
theorem dX1_verseFor_14 : decode cX1_verseFor 14 = .ok (.aload_n 0, 1) := by decide +kernel
theorem dX1_verseFor_15 : decode cX1_verseFor 15 = .ok (.iload_n 1, 1) := by decide +kernel
theorem dX1_verseFor_16 : decode cX1_verseFor 16 = .ok (.iload_n 2, 1) := by decide +kernel
theorem dX1_verseFor_17 : decode cX1_verseFor 17 = .ok (.iconst 0, 1) := by decide +kernel
theorem dX1_verseFor_18 : decode cX1_verseFor 18 = .ok (.invokevirtual 79, 3) := by decide +kernel
theorem dX1_verseFor_21 : decode cX1_verseFor 21 = .ok (.pop, 1) := by decide +kernel
theorem dX1_verseFor_22 : decode cX1_verseFor 22 = .ok (.aload_n 0, 1) := by decide +kernel
theorem dX1_verseFor_23 : decode cX1_verseFor 23 = .ok (.getfield 83, 3) := by decide +kernel
theorem dX1_verseFor_26 : decode cX1_verseFor 26 = .ok (.ireturn, 1) := by decide +kernel
theorem dX1_worth_0 : decode cX1_worth 0 = .ok (.iload_n 3, 1) := by decide +kernel
theorem dX1_worth_1 : decode cX1_worth 1 = .ok (.bipush 7, 2) := by decide +kernel
theorem dX1_worth_3 : decode cX1_worth 3 = .ok (.if_icmp .ge 13, 3) := by decide +kernel
theorem dX1_worth_6 : decode cX1_worth 6 = .ok (.aload_n 0, 1) := by decide +kernel
theorem dX1_worth_7 : decode cX1_worth 7 = .ok (.getfield 12, 3) := by decide +kernel
theorem dX1_worth_10 : decode cX1_worth 10 = .ok (.invokevirtual 86, 3) := by decide +kernel
theorem dX1_worth_13 : decode cX1_worth 13 = .ok (.ifCond .ne 10, 3) := by decide +kernel
theorem dX1_worth_16 : decode cX1_worth 16 = .ok (.aload_n 0, 1) := by decide +kernel
theorem dX1_worth_17 : decode cX1_worth 17 = .ok (.iconst (-1), 1) := by decide +kernel
theorem dX1_worth_18 : decode cX1_worth 18 = .ok (.putfield 83, 3) := by decide +kernel
theorem dX1_worth_21 : decode cX1_worth 21 = .ok (.iconst 1, 1) := by decide +kernel
theorem dX1_worth_22 : decode cX1_worth 22 = .ok (.ireturn, 1) := by decide +kernel
theorem dX1_worth_23 : decode cX1_worth 23 = .ok (.aload_n 0, 1) := by decide +kernel
theorem dX1_worth_24 : decode cX1_worth 24 = .ok (.getfield 12, 3) := by decide +kernel
theorem dX1_worth_27 : decode cX1_worth 27 = .ok (.invokevirtual 90, 3) := by decide +kernel
theorem dX1_worth_30 : decode cX1_worth 30 = .ok (.istore 4, 2) := by decide +kernel
theorem dX1_worth_32 : decode cX1_worth 32 = .ok (.iconst (-1), 1) := by decide +kernel
theorem dX1_worth_33 : decode cX1_worth 33 = .ok (.istore 5, 2) := by decide +kernel
theorem dX1_worth_35 : decode cX1_worth 35 = .ok (.iconst (-1), 1) := by decide +kernel
theorem dX1_worth_36 : decode cX1_worth 36 = .ok (.istore 6, 2) := by decide +kernel
theorem dX1_worth_38 : decode cX1_worth 38 = .ok (.iconst 0, 1) := by decide +kernel
theorem dX1_worth_39 : decode cX1_worth 39 = .ok (.istore 7, 2) := by decide +kernel
theorem dX1_worth_41 : decode cX1_worth 41 = .ok (.iload 7, 2) := by decide +kernel
theorem dX1_worth_43 : decode cX1_worth 43 = .ok (.aload_n 0, 1) := by decide +kernel
theorem dX1_worth_44 : decode cX1_worth 44 = .ok (.getfield 37, 3) := by decide +kernel
theorem dX1_worth_47 : decode cX1_worth 47 = .ok (.getfield 94, 3) := by decide +kernel
theorem dX1_worth_50 : decode cX1_worth 50 = .ok (.if_icmp .ge 95, 3) := by decide +kernel
theorem dX1_worth_53 : decode cX1_worth 53 = .ok (.iload 5, 2) := by decide +kernel
theorem dX1_worth_55 : decode cX1_worth 55 = .ok (.iconst 2, 1) := by decide +kernel
theorem dX1_worth_56 : decode cX1_worth 56 = .ok (.if_icmp .ge 89, 3) := by decide +kernel
theorem dX1_worth_59 : decode cX1_worth 59 = .ok (.aload_n 0, 1) := by decide +kernel
theorem dX1_worth_60 : decode cX1_worth 60 = .ok (.getfield 12, 3) := by decide +kernel
theorem dX1_worth_63 : decode cX1_worth 63 = .ok (.aload_n 0, 1) := by decide +kernel
theorem dX1_worth_64 : decode cX1_worth 64 = .ok (.getfield 37, 3) := by decide +kernel
theorem dX1_worth_67 : decode cX1_worth 67 = .ok (.getfield 97, 3) := by decide +kernel
theorem dX1_worth_70 : decode cX1_worth 70 = .ok (.iload 7, 2) := by decide +kernel
theorem dX1_worth_72 : decode cX1_worth 72 = .ok (.iaload, 1) := by decide +kernel
theorem dX1_worth_73 : decode cX1_worth 73 = .ok (.invokevirtual 54, 3) := by decide +kernel
theorem dX1_worth_76 : decode cX1_worth 76 = .ok (.istore 8, 2) := by decide +kernel
theorem dX1_worth_78 : decode cX1_worth 78 = .ok (.iload 8, 2) := by decide +kernel
theorem dX1_worth_80 : decode cX1_worth 80 = .ok (.iload_n 1, 1) := by decide +kernel
theorem dX1_worth_81 : decode cX1_worth 81 = .ok (.if_icmp .ne 9, 3) := by decide +kernel
theorem dX1_worth_84 : decode cX1_worth 84 = .ok (.iconst 0, 1) := by decide +kernel
theorem dX1_worth_85 : decode cX1_worth 85 = .ok (.istore 9, 2) := by decide +kernel
theorem dX1_worth_87 : decode cX1_worth 87 = .ok (.goto 28, 3) := by decide +kernel
theorem dX1_worth_90 : decode cX1_worth 90 = .ok (.iload 8, 2) := by decide +kernel
theorem dX1_worth_92 : decode cX1_worth 92 = .ok (.iload_n 2, 1) := by decide +kernel
theorem dX1_worth_93 : decode cX1_worth 93 = .ok (.if_icmp .ne 9, 3) := by decide +kernel
theorem dX1_worth_96 : decode cX1_worth 96 = .ok (.iconst 2, 1) := by decide +kernel
theorem dX1_worth_97 : decode cX1_worth 97 = .ok (.istore 9, 2) := by decide +kernel
theorem dX1_worth_99 : decode cX1_worth 99 = .ok (.goto 16, 3) := by decide +kernel
theorem dX1_worth_102 : decode cX1_worth 102 = .ok (.iconst 2, 1) := by decide +kernel
theorem dX1_worth_103 : decode cX1_worth 103 = .ok (.aload_n 0, 1) := by decide +kernel
theorem dX1_worth_104 : decode cX1_worth 104 = .ok (.iload_n 2, 1) := by decide +kernel
theorem dX1_worth_105 : decode cX1_worth 105 = .ok (.iload_n 1, 1) := by decide +kernel
theorem dX1_worth_106 : decode cX1_worth 106 = .ok (.iload_n 3, 1) := by decide +kernel
theorem dX1_worth_107 : decode cX1_worth 107 = .ok (.iconst 1, 1) := by decide +kernel
theorem dX1_worth_108 : decode cX1_worth 108 = .ok (.iadd, 1) := by decide +kernel
theorem dX1_worth_109 : decode cX1_worth 109 = .ok (.invokevirtual 79, 3) := by decide +kernel
theorem dX1_worth_112 : decode cX1_worth 112 = .ok (.isub, 1) := by decide +kernel
theorem dX1_worth_113 : decode cX1_worth 113 = .ok (.istore 9, 2) := by decide +kernel
theorem dX1_worth_115 : decode cX1_worth 115 = .ok (.aload_n 0, 1) := by decide +kernel
theorem dX1_worth_116 : decode cX1_worth 116 = .ok (.getfield 12, 3) := by decide +kernel
theorem dX1_worth_119 : decode cX1_worth 119 = .ok (.iload 4, 2) := by decide +kernel
theorem dX1_worth_121 : decode cX1_worth 121 = .ok (.invokevirtual 100, 3) := by decide +kernel
theorem dX1_worth_124 : decode cX1_worth 124 = .ok (.iload 9, 2) := by decide +kernel
theorem dX1_worth_126 : decode cX1_worth 126 = .ok (.iload 5, 2) := by decide +kernel
theorem dX1_worth_128 : decode cX1_worth 128 = .ok (.if_icmp .le 11, 3) := by decide +kernel
theorem dX1_worth_131 : decode cX1_worth 131 = .ok (.iload 9, 2) := by decide +kernel
theorem dX1_worth_133 : decode cX1_worth 133 = .ok (.istore 5, 2) := by decide +kernel
theorem dX1_worth_135 : decode cX1_worth 135 = .ok (.iload 7, 2) := by decide +kernel
theorem dX1_worth_137 : decode cX1_worth 137 = .ok (.istore 6, 2) := by decide +kernel
theorem dX1_worth_139 : decode cX1_worth 139 = .ok (.iinc 7 1, 3) := by decide +kernel
theorem dX1_worth_142 : decode cX1_worth 142 = .ok (.goto (-101), 3) := by decide +kernel
theorem dX1_worth_145 : decode cX1_worth 145 = .ok (.aload_n 0, 1) := by decide +kernel
theorem dX1_worth_146 : decode cX1_worth 146 = .ok (.iload 6, 2) := by decide +kernel
theorem dX1_worth_148 : decode cX1_worth 148 = .ok (.putfield 83, 3) := by decide +kernel
theorem dX1_worth_151 : decode cX1_worth 151 = .ok (.iload 5, 2) := by decide +kernel
theorem dX1_worth_153 : decode cX1_worth 153 = .ok (.ireturn, 1) := by decide +kernel
theorem dX1_chanceOf_0 : decode cX1_chanceOf 0 = .ok (.aload_n 0, 1) := by decide +kernel
theorem dX1_chanceOf_1 : decode cX1_chanceOf 1 = .ok (.getfield 37, 3) := by decide +kernel
theorem dX1_chanceOf_4 : decode cX1_chanceOf 4 = .ok (.getfield 41, 3) := by decide +kernel
theorem dX1_chanceOf_7 : decode cX1_chanceOf 7 = .ok (.invokevirtual 61, 3) := by decide +kernel
theorem dX1_chanceOf_10 : decode cX1_chanceOf 10 = .ok (.lstore_n 3, 1) := by decide +kernel
theorem dX1_chanceOf_11 : decode cX1_chanceOf 11 = .ok (.lload_n 3, 1) := by decide +kernel
theorem dX1_chanceOf_12 : decode cX1_chanceOf 12 = .ok (.aload_n 0, 1) := by decide +kernel
theorem dX1_chanceOf_13 : decode cX1_chanceOf 13 = .ok (.getfield 31, 3) := by decide +kernel
theorem dX1_chanceOf_16 : decode cX1_chanceOf 16 = .ok (.lcmp, 1) := by decide +kernel
theorem dX1_chanceOf_17 : decode cX1_chanceOf 17 = .ok (.ifCond .eq 57, 3) := by decide +kernel
theorem dX1_chanceOf_20 : decode cX1_chanceOf 20 = .ok (.iconst 0, 1) := by decide +kernel
theorem dX1_chanceOf_21 : decode cX1_chanceOf 21 = .ok (.istore 5, 2) := by decide +kernel
theorem dX1_chanceOf_23 : decode cX1_chanceOf 23 = .ok (.iload 5, 2) := by decide +kernel
theorem dX1_chanceOf_25 : decode cX1_chanceOf 25 = .ok (.aload_n 0, 1) := by decide +kernel
theorem dX1_chanceOf_26 : decode cX1_chanceOf 26 = .ok (.getfield 28, 3) := by decide +kernel
theorem dX1_chanceOf_29 : decode cX1_chanceOf 29 = .ok (.arraylength, 1) := by decide +kernel
theorem dX1_chanceOf_30 : decode cX1_chanceOf 30 = .ok (.if_icmp .ge 17, 3) := by decide +kernel
theorem dX1_chanceOf_33 : decode cX1_chanceOf 33 = .ok (.aload_n 0, 1) := by decide +kernel
theorem dX1_chanceOf_34 : decode cX1_chanceOf 34 = .ok (.getfield 28, 3) := by decide +kernel
theorem dX1_chanceOf_37 : decode cX1_chanceOf 37 = .ok (.iload 5, 2) := by decide +kernel
theorem dX1_chanceOf_39 : decode cX1_chanceOf 39 = .ok (.iconst 0, 1) := by decide +kernel
theorem dX1_chanceOf_40 : decode cX1_chanceOf 40 = .ok (.iastore, 1) := by decide +kernel
theorem dX1_chanceOf_41 : decode cX1_chanceOf 41 = .ok (.iinc 5 1, 3) := by decide +kernel
theorem dX1_chanceOf_44 : decode cX1_chanceOf 44 = .ok (.goto (-21), 3) := by decide +kernel
theorem dX1_chanceOf_47 : decode cX1_chanceOf 47 = .ok (.aload_n 0, 1) := by decide +kernel
theorem dX1_chanceOf_48 : decode cX1_chanceOf 48 = .ok (.getfield 12, 3) := by decide +kernel
theorem dX1_chanceOf_51 : decode cX1_chanceOf 51 = .ok (.aload_n 0, 1) := by decide +kernel
theorem dX1_chanceOf_52 : decode cX1_chanceOf 52 = .ok (.getfield 37, 3) := by decide +kernel
theorem dX1_chanceOf_55 : decode cX1_chanceOf 55 = .ok (.getfield 41, 3) := by decide +kernel
theorem dX1_chanceOf_58 : decode cX1_chanceOf 58 = .ok (.invokevirtual 46, 3) := by decide +kernel
theorem dX1_chanceOf_61 : decode cX1_chanceOf 61 = .ok (.aload_n 0, 1) := by decide +kernel
theorem dX1_chanceOf_62 : decode cX1_chanceOf 62 = .ok (.sipush 2187, 3) := by decide +kernel
theorem dX1_chanceOf_65 : decode cX1_chanceOf 65 = .ok (.iconst 0, 1) := by decide +kernel
theorem dX1_chanceOf_66 : decode cX1_chanceOf 66 = .ok (.invokevirtual 104, 3) := by decide +kernel
theorem dX1_chanceOf_69 : decode cX1_chanceOf 69 = .ok (.aload_n 0, 1) := by decide +kernel
theorem dX1_chanceOf_70 : decode cX1_chanceOf 70 = .ok (.lload_n 3, 1) := by decide +kernel
theorem dX1_chanceOf_71 : decode cX1_chanceOf 71 = .ok (.putfield 31, 3) := by decide +kernel
theorem dX1_chanceOf_74 : decode cX1_chanceOf 74 = .ok (.iload_n 1, 1) := by decide +kernel
theorem dX1_chanceOf_75 : decode cX1_chanceOf 75 = .ok (.ifCond .lt 21, 3) := by decide +kernel
theorem dX1_chanceOf_78 : decode cX1_chanceOf 78 = .ok (.iload_n 1, 1) := by decide +kernel
theorem dX1_chanceOf_79 : decode cX1_chanceOf 79 = .ok (.aload_n 0, 1) := by decide +kernel
theorem dX1_chanceOf_80 : decode cX1_chanceOf 80 = .ok (.getfield 28, 3) := by decide +kernel
theorem dX1_chanceOf_83 : decode cX1_chanceOf 83 = .ok (.arraylength, 1) := by decide +kernel
theorem dX1_chanceOf_84 : decode cX1_chanceOf 84 = .ok (.if_icmp .ge 12, 3) := by decide +kernel
theorem dX1_chanceOf_87 : decode cX1_chanceOf 87 = .ok (.aload_n 0, 1) := by decide +kernel
theorem dX1_chanceOf_88 : decode cX1_chanceOf 88 = .ok (.getfield 28, 3) := by decide +kernel
theorem dX1_chanceOf_91 : decode cX1_chanceOf 91 = .ok (.iload_n 1, 1) := by decide +kernel
theorem dX1_chanceOf_92 : decode cX1_chanceOf 92 = .ok (.iaload, 1) := by decide +kernel
theorem dX1_chanceOf_93 : decode cX1_chanceOf 93 = .ok (.goto 4, 3) := by decide +kernel
theorem dX1_chanceOf_96 : decode cX1_chanceOf 96 = .ok (.iconst 0, 1) := by decide +kernel
theorem dX1_chanceOf_97 : decode cX1_chanceOf 97 = .ok (.istore 5, 2) := by decide +kernel
theorem dX1_chanceOf_99 : decode cX1_chanceOf 99 = .ok (.sipush 2187, 3) := by decide +kernel
theorem dX1_chanceOf_102 : decode cX1_chanceOf 102 = .ok (.istore 6, 2) := by decide +kernel
theorem dX1_chanceOf_104 : decode cX1_chanceOf 104 = .ok (.iconst 0, 1) := by decide +kernel
theorem dX1_chanceOf_105 : decode cX1_chanceOf 105 = .ok (.istore 7, 2) := by decide +kernel
theorem dX1_chanceOf_107 : decode cX1_chanceOf 107 = .ok (.iload 7, 2) := by decide +kernel
theorem dX1_chanceOf_109 : decode cX1_chanceOf 109 = .ok (.bipush 7, 2) := by decide +kernel
theorem dX1_chanceOf_111 : decode cX1_chanceOf 111 = .ok (.if_icmp .ge 28, 3) := by decide +kernel
theorem dX1_chanceOf_114 : decode cX1_chanceOf 114 = .ok (.iload 5, 2) := by decide +kernel
theorem dX1_chanceOf_116 : decode cX1_chanceOf 116 = .ok (.iconst 3, 1) := by decide +kernel
theorem dX1_chanceOf_117 : decode cX1_chanceOf 117 = .ok (.irem, 1) := by decide +kernel
theorem dX1_chanceOf_118 : decode cX1_chanceOf 118 = .ok (.ifCond .ne 21, 3) := by decide +kernel
theorem dX1_chanceOf_121 : decode cX1_chanceOf 121 = .ok (.iload 5, 2) := by decide +kernel
theorem dX1_chanceOf_123 : decode cX1_chanceOf 123 = .ok (.iconst 3, 1) := by decide +kernel
theorem dX1_chanceOf_124 : decode cX1_chanceOf 124 = .ok (.idiv, 1) := by decide +kernel
theorem dX1_chanceOf_125 : decode cX1_chanceOf 125 = .ok (.istore 5, 2) := by decide +kernel
theorem dX1_chanceOf_127 : decode cX1_chanceOf 127 = .ok (.iload 6, 2) := by decide +kernel
theorem dX1_chanceOf_129 : decode cX1_chanceOf 129 = .ok (.iconst 3, 1) := by decide +kernel
theorem dX1_chanceOf_130 : decode cX1_chanceOf 130 = .ok (.idiv, 1) := by decide +kernel
theorem dX1_chanceOf_131 : decode cX1_chanceOf 131 = .ok (.istore 6, 2) := by decide +kernel
theorem dX1_chanceOf_133 : decode cX1_chanceOf 133 = .ok (.iinc 7 1, 3) := by decide +kernel
theorem dX1_chanceOf_136 : decode cX1_chanceOf 136 = .ok (.goto (-29), 3) := by decide +kernel
theorem dX1_chanceOf_139 : decode cX1_chanceOf 139 = .ok (.iload_n 2, 1) := by decide +kernel
theorem dX1_chanceOf_140 : decode cX1_chanceOf 140 = .ok (.ifCond .eq 8, 3) := by decide +kernel
theorem dX1_chanceOf_143 : decode cX1_chanceOf 143 = .ok (.iload 5, 2) := by decide +kernel
theorem dX1_chanceOf_145 : decode cX1_chanceOf 145 = .ok (.goto 5, 3) := by decide +kernel
theorem dX1_chanceOf_148 : decode cX1_chanceOf 148 = .ok (.iload 6, 2) := by decide +kernel
theorem dX1_chanceOf_150 : decode cX1_chanceOf 150 = .ok (.ireturn, 1) := by decide +kernel
theorem dX1_shareOut_0 : decode cX1_shareOut 0 = .ok (.iload_n 2, 1) := by decide +kernel
theorem dX1_shareOut_1 : decode cX1_shareOut 1 = .ok (.bipush 7, 2) := by decide +kernel
theorem dX1_shareOut_3 : decode cX1_shareOut 3 = .ok (.if_icmp .ge 13, 3) := by decide +kernel
theorem dX1_shareOut_6 : decode cX1_shareOut 6 = .ok (.aload_n 0, 1) := by decide +kernel
theorem dX1_shareOut_7 : decode cX1_shareOut 7 = .ok (.getfield 12, 3) := by decide +kernel
theorem dX1_shareOut_10 : decode cX1_shareOut 10 = .ok (.invokevirtual 86, 3) := by decide +kernel
theorem dX1_shareOut_13 : decode cX1_shareOut 13 = .ok (.ifCond .ne 35, 3) := by decide +kernel
theorem dX1_shareOut_16 : decode cX1_shareOut 16 = .ok (.aload_n 0, 1) := by decide +kernel
theorem dX1_shareOut_17 : decode cX1_shareOut 17 = .ok (.getfield 12, 3) := by decide +kernel
theorem dX1_shareOut_20 : decode cX1_shareOut 20 = .ok (.invokevirtual 107, 3) := by decide +kernel
theorem dX1_shareOut_23 : decode cX1_shareOut 23 = .ok (.istore_n 3, 1) := by decide +kernel
theorem dX1_shareOut_24 : decode cX1_shareOut 24 = .ok (.iload_n 3, 1) := by decide +kernel
theorem dX1_shareOut_25 : decode cX1_shareOut 25 = .ok (.ifCond .lt 22, 3) := by decide +kernel
theorem dX1_shareOut_28 : decode cX1_shareOut 28 = .ok (.iload_n 3, 1) := by decide +kernel
theorem dX1_shareOut_29 : decode cX1_shareOut 29 = .ok (.aload_n 0, 1) := by decide +kernel
theorem dX1_shareOut_30 : decode cX1_shareOut 30 = .ok (.getfield 28, 3) := by decide +kernel
theorem dX1_shareOut_33 : decode cX1_shareOut 33 = .ok (.arraylength, 1) := by decide +kernel
theorem dX1_shareOut_34 : decode cX1_shareOut 34 = .ok (.if_icmp .ge 13, 3) := by decide +kernel
theorem dX1_shareOut_37 : decode cX1_shareOut 37 = .ok (.aload_n 0, 1) := by decide +kernel
theorem dX1_shareOut_38 : decode cX1_shareOut 38 = .ok (.getfield 28, 3) := by decide +kernel
theorem dX1_shareOut_41 : decode cX1_shareOut 41 = .ok (.iload_n 3, 1) := by decide +kernel
theorem dX1_shareOut_42 : decode cX1_shareOut 42 = .ok (.dup2, 1) := by decide +kernel
theorem dX1_shareOut_43 : decode cX1_shareOut 43 = .ok (.iaload, 1) := by decide +kernel
theorem dX1_shareOut_44 : decode cX1_shareOut 44 = .ok (.iload_n 1, 1) := by decide +kernel
theorem dX1_shareOut_45 : decode cX1_shareOut 45 = .ok (.iadd, 1) := by decide +kernel
theorem dX1_shareOut_46 : decode cX1_shareOut 46 = .ok (.iastore, 1) := by decide +kernel
theorem dX1_shareOut_47 : decode cX1_shareOut 47 = .ok (.return_, 1) := by decide +kernel
theorem dX1_shareOut_48 : decode cX1_shareOut 48 = .ok (.aload_n 0, 1) := by decide +kernel
theorem dX1_shareOut_49 : decode cX1_shareOut 49 = .ok (.getfield 12, 3) := by decide +kernel
theorem dX1_shareOut_52 : decode cX1_shareOut 52 = .ok (.invokevirtual 90, 3) := by decide +kernel
theorem dX1_shareOut_55 : decode cX1_shareOut 55 = .ok (.istore_n 3, 1) := by decide +kernel
theorem dX1_shareOut_56 : decode cX1_shareOut 56 = .ok (.iconst 1, 1) := by decide +kernel
theorem dX1_shareOut_57 : decode cX1_shareOut 57 = .ok (.istore 4, 2) := by decide +kernel
theorem dX1_shareOut_59 : decode cX1_shareOut 59 = .ok (.iload 4, 2) := by decide +kernel
theorem dX1_shareOut_61 : decode cX1_shareOut 61 = .ok (.iconst 3, 1) := by decide +kernel
theorem dX1_shareOut_62 : decode cX1_shareOut 62 = .ok (.if_icmp .gt 37, 3) := by decide +kernel
theorem dX1_shareOut_65 : decode cX1_shareOut 65 = .ok (.aload_n 0, 1) := by decide +kernel
theorem dX1_shareOut_66 : decode cX1_shareOut 66 = .ok (.getfield 12, 3) := by decide +kernel
theorem dX1_shareOut_69 : decode cX1_shareOut 69 = .ok (.iload 4, 2) := by decide +kernel
theorem dX1_shareOut_71 : decode cX1_shareOut 71 = .ok (.invokevirtual 54, 3) := by decide +kernel
theorem dX1_shareOut_74 : decode cX1_shareOut 74 = .ok (.pop, 1) := by decide +kernel
theorem dX1_shareOut_75 : decode cX1_shareOut 75 = .ok (.aload_n 0, 1) := by decide +kernel
theorem dX1_shareOut_76 : decode cX1_shareOut 76 = .ok (.iload_n 1, 1) := by decide +kernel
theorem dX1_shareOut_77 : decode cX1_shareOut 77 = .ok (.iconst 3, 1) := by decide +kernel
theorem dX1_shareOut_78 : decode cX1_shareOut 78 = .ok (.idiv, 1) := by decide +kernel
theorem dX1_shareOut_79 : decode cX1_shareOut 79 = .ok (.iload_n 2, 1) := by decide +kernel
theorem dX1_shareOut_80 : decode cX1_shareOut 80 = .ok (.iconst 1, 1) := by decide +kernel
theorem dX1_shareOut_81 : decode cX1_shareOut 81 = .ok (.iadd, 1) := by decide +kernel
theorem dX1_shareOut_82 : decode cX1_shareOut 82 = .ok (.invokevirtual 104, 3) := by decide +kernel
theorem dX1_shareOut_85 : decode cX1_shareOut 85 = .ok (.aload_n 0, 1) := by decide +kernel
theorem dX1_shareOut_86 : decode cX1_shareOut 86 = .ok (.getfield 12, 3) := by decide +kernel
theorem dX1_shareOut_89 : decode cX1_shareOut 89 = .ok (.iload_n 3, 1) := by decide +kernel
theorem dX1_shareOut_90 : decode cX1_shareOut 90 = .ok (.invokevirtual 100, 3) := by decide +kernel
theorem dX1_shareOut_93 : decode cX1_shareOut 93 = .ok (.iinc 4 1, 3) := by decide +kernel
theorem dX1_shareOut_96 : decode cX1_shareOut 96 = .ok (.goto (-37), 3) := by decide +kernel
theorem dX1_shareOut_99 : decode cX1_shareOut 99 = .ok (.return_, 1) := by decide +kernel
theorem dX1_lengthBits_0 : decode cX1_lengthBits 0 = .ok (.ldc 110, 2) := by decide +kernel
theorem dX1_lengthBits_2 : decode cX1_lengthBits 2 = .ok (.istore_n 1, 1) := by decide +kernel
theorem dX1_lengthBits_3 : decode cX1_lengthBits 3 = .ok (.iconst 0, 1) := by decide +kernel
theorem dX1_lengthBits_4 : decode cX1_lengthBits 4 = .ok (.istore_n 2, 1) := by decide +kernel
theorem dX1_lengthBits_5 : decode cX1_lengthBits 5 = .ok (.iload_n 2, 1) := by decide +kernel
theorem dX1_lengthBits_6 : decode cX1_lengthBits 6 = .ok (.aload_n 0, 1) := by decide +kernel
theorem dX1_lengthBits_7 : decode cX1_lengthBits 7 = .ok (.getfield 37, 3) := by decide +kernel
theorem dX1_lengthBits_10 : decode cX1_lengthBits 10 = .ok (.getfield 111, 3) := by decide +kernel
theorem dX1_lengthBits_13 : decode cX1_lengthBits 13 = .ok (.if_icmp .ge 65, 3) := by decide +kernel
theorem dX1_lengthBits_16 : decode cX1_lengthBits 16 = .ok (.iload_n 2, 1) := by decide +kernel
theorem dX1_lengthBits_17 : decode cX1_lengthBits 17 = .ok (.bipush 6, 2) := by decide +kernel
theorem dX1_lengthBits_19 : decode cX1_lengthBits 19 = .ok (.if_icmp .ge 59, 3) := by decide +kernel
theorem dX1_lengthBits_22 : decode cX1_lengthBits 22 = .ok (.iconst 1, 1) := by decide +kernel
theorem dX1_lengthBits_23 : decode cX1_lengthBits 23 = .ok (.istore_n 3, 1) := by decide +kernel
theorem dX1_lengthBits_24 : decode cX1_lengthBits 24 = .ok (.iload_n 3, 1) := by decide +kernel
theorem dX1_lengthBits_25 : decode cX1_lengthBits 25 = .ok (.bipush 24, 2) := by decide +kernel
theorem dX1_lengthBits_27 : decode cX1_lengthBits 27 = .ok (.if_icmp .gt 45, 3) := by decide +kernel
theorem dX1_lengthBits_30 : decode cX1_lengthBits 30 = .ok (.aload_n 0, 1) := by decide +kernel
theorem dX1_lengthBits_31 : decode cX1_lengthBits 31 = .ok (.aload_n 0, 1) := by decide +kernel
theorem dX1_lengthBits_32 : decode cX1_lengthBits 32 = .ok (.getfield 37, 3) := by decide +kernel
theorem dX1_lengthBits_35 : decode cX1_lengthBits 35 = .ok (.getfield 114, 3) := by decide +kernel
theorem dX1_lengthBits_38 : decode cX1_lengthBits 38 = .ok (.iload_n 2, 1) := by decide +kernel
theorem dX1_lengthBits_39 : decode cX1_lengthBits 39 = .ok (.iaload, 1) := by decide +kernel
theorem dX1_lengthBits_40 : decode cX1_lengthBits 40 = .ok (.iload_n 3, 1) := by decide +kernel
theorem dX1_lengthBits_41 : decode cX1_lengthBits 41 = .ok (.invokevirtual 117, 3) := by decide +kernel
theorem dX1_lengthBits_44 : decode cX1_lengthBits 44 = .ok (.aload_n 0, 1) := by decide +kernel
theorem dX1_lengthBits_45 : decode cX1_lengthBits 45 = .ok (.getfield 37, 3) := by decide +kernel
theorem dX1_lengthBits_48 : decode cX1_lengthBits 48 = .ok (.getfield 121, 3) := by decide +kernel
theorem dX1_lengthBits_51 : decode cX1_lengthBits 51 = .ok (.iload_n 2, 1) := by decide +kernel
theorem dX1_lengthBits_52 : decode cX1_lengthBits 52 = .ok (.iaload, 1) := by decide +kernel
theorem dX1_lengthBits_53 : decode cX1_lengthBits 53 = .ok (.if_icmp .eq 13, 3) := by decide +kernel
theorem dX1_lengthBits_56 : decode cX1_lengthBits 56 = .ok (.iload_n 1, 1) := by decide +kernel
theorem dX1_lengthBits_57 : decode cX1_lengthBits 57 = .ok (.iconst 1, 1) := by decide +kernel
theorem dX1_lengthBits_58 : decode cX1_lengthBits 58 = .ok (.iload_n 3, 1) := by decide +kernel
theorem dX1_lengthBits_59 : decode cX1_lengthBits 59 = .ok (.iconst 1, 1) := by decide +kernel
theorem dX1_lengthBits_60 : decode cX1_lengthBits 60 = .ok (.isub, 1) := by decide +kernel
theorem dX1_lengthBits_61 : decode cX1_lengthBits 61 = .ok (.ishl, 1) := by decide +kernel
theorem dX1_lengthBits_62 : decode cX1_lengthBits 62 = .ok (.iconst (-1), 1) := by decide +kernel
theorem dX1_lengthBits_63 : decode cX1_lengthBits 63 = .ok (.ixor, 1) := by decide +kernel
theorem dX1_lengthBits_64 : decode cX1_lengthBits 64 = .ok (.iand, 1) := by decide +kernel
theorem dX1_lengthBits_65 : decode cX1_lengthBits 65 = .ok (.istore_n 1, 1) := by decide +kernel
theorem dX1_lengthBits_66 : decode cX1_lengthBits 66 = .ok (.iinc 3 1, 3) := by decide +kernel
theorem dX1_lengthBits_69 : decode cX1_lengthBits 69 = .ok (.goto (-45), 3) := by decide +kernel
theorem dX1_lengthBits_72 : decode cX1_lengthBits 72 = .ok (.iinc 2 1, 3) := by decide +kernel
theorem dX1_lengthBits_75 : decode cX1_lengthBits 75 = .ok (.goto (-70), 3) := by decide +kernel
theorem dX1_lengthBits_78 : decode cX1_lengthBits 78 = .ok (.iload_n 1, 1) := by decide +kernel
theorem dX1_lengthBits_79 : decode cX1_lengthBits 79 = .ok (.ireturn, 1) := by decide +kernel
theorem dX1_tellingStart_0 : decode cX1_tellingStart 0 = .ok (.iload_n 1, 1) := by decide +kernel
theorem dX1_tellingStart_1 : decode cX1_tellingStart 1 = .ok (.ifCond .eq 16, 3) := by decide +kernel
theorem dX1_tellingStart_4 : decode cX1_tellingStart 4 = .ok (.aload_n 0, 1) := by decide +kernel
theorem dX1_tellingStart_5 : decode cX1_tellingStart 5 = .ok (.getfield 37, 3) := by decide +kernel
theorem dX1_tellingStart_8 : decode cX1_tellingStart 8 = .ok (.getfield 41, 3) := by decide +kernel
theorem dX1_tellingStart_11 : decode cX1_tellingStart 11 = .ok (.invokevirtual 86, 3) := by decide +kernel
theorem dX1_tellingStart_14 : decode cX1_tellingStart 14 = .ok (.ifCond .ne 5, 3) := by decide +kernel
theorem dX1_tellingStart_17 : decode cX1_tellingStart 17 = .ok (.iconst (-1), 1) := by decide +kernel
theorem dX1_tellingStart_18 : decode cX1_tellingStart 18 = .ok (.ireturn, 1) := by decide +kernel
theorem dX1_tellingStart_19 : decode cX1_tellingStart 19 = .ok (.iconst (-1), 1) := by decide +kernel
theorem dX1_tellingStart_20 : decode cX1_tellingStart 20 = .ok (.istore_n 2, 1) := by decide +kernel
theorem dX1_tellingStart_21 : decode cX1_tellingStart 21 = .ok (.bipush 25, 2) := by decide +kernel
theorem dX1_tellingStart_23 : decode cX1_tellingStart 23 = .ok (.istore_n 3, 1) := by decide +kernel
theorem dX1_tellingStart_24 : decode cX1_tellingStart 24 = .ok (.iconst 0, 1) := by decide +kernel
theorem dX1_tellingStart_25 : decode cX1_tellingStart 25 = .ok (.istore 4, 2) := by decide +kernel
theorem dX1_tellingStart_27 : decode cX1_tellingStart 27 = .ok (.iload 4, 2) := by decide +kernel
theorem dX1_tellingStart_29 : decode cX1_tellingStart 29 = .ok (.aload_n 0, 1) := by decide +kernel
theorem dX1_tellingStart_30 : decode cX1_tellingStart 30 = .ok (.getfield 37, 3) := by decide +kernel
theorem dX1_tellingStart_33 : decode cX1_tellingStart 33 = .ok (.getfield 41, 3) := by decide +kernel
theorem dX1_tellingStart_36 : decode cX1_tellingStart 36 = .ok (.getfield 68, 3) := by decide +kernel
theorem dX1_tellingStart_39 : decode cX1_tellingStart 39 = .ok (.if_icmp .ge 30, 3) := by decide +kernel
theorem dX1_tellingStart_42 : decode cX1_tellingStart 42 = .ok (.aload_n 0, 1) := by decide +kernel
theorem dX1_tellingStart_43 : decode cX1_tellingStart 43 = .ok (.iload 4, 2) := by decide +kernel
theorem dX1_tellingStart_45 : decode cX1_tellingStart 45 = .ok (.iload_n 1, 1) := by decide +kernel
theorem dX1_tellingStart_46 : decode cX1_tellingStart 46 = .ok (.invokevirtual 124, 3) := by decide +kernel
theorem dX1_tellingStart_49 : decode cX1_tellingStart 49 = .ok (.istore 5, 2) := by decide +kernel
theorem dX1_tellingStart_51 : decode cX1_tellingStart 51 = .ok (.iload 5, 2) := by decide +kernel
theorem dX1_tellingStart_53 : decode cX1_tellingStart 53 = .ok (.iload_n 3, 1) := by decide +kernel
theorem dX1_tellingStart_54 : decode cX1_tellingStart 54 = .ok (.if_icmp .ge 9, 3) := by decide +kernel
theorem dX1_tellingStart_57 : decode cX1_tellingStart 57 = .ok (.iload 5, 2) := by decide +kernel
theorem dX1_tellingStart_59 : decode cX1_tellingStart 59 = .ok (.istore_n 3, 1) := by decide +kernel
theorem dX1_tellingStart_60 : decode cX1_tellingStart 60 = .ok (.iload 4, 2) := by decide +kernel
theorem dX1_tellingStart_62 : decode cX1_tellingStart 62 = .ok (.istore_n 2, 1) := by decide +kernel
theorem dX1_tellingStart_63 : decode cX1_tellingStart 63 = .ok (.iinc 4 1, 3) := by decide +kernel
theorem dX1_tellingStart_66 : decode cX1_tellingStart 66 = .ok (.goto (-39), 3) := by decide +kernel
theorem dX1_tellingStart_69 : decode cX1_tellingStart 69 = .ok (.iload_n 2, 1) := by decide +kernel
theorem dX1_tellingStart_70 : decode cX1_tellingStart 70 = .ok (.ireturn, 1) := by decide +kernel
theorem dX1_mostLeft_0 : decode cX1_mostLeft 0 = .ok (.iconst 0, 1) := by decide +kernel
theorem dX1_mostLeft_1 : decode cX1_mostLeft 1 = .ok (.istore_n 3, 1) := by decide +kernel
theorem dX1_mostLeft_2 : decode cX1_mostLeft 2 = .ok (.iload_n 3, 1) := by decide +kernel
theorem dX1_mostLeft_3 : decode cX1_mostLeft 3 = .ok (.aload_n 0, 1) := by decide +kernel
theorem dX1_mostLeft_4 : decode cX1_mostLeft 4 = .ok (.getfield 34, 3) := by decide +kernel
theorem dX1_mostLeft_7 : decode cX1_mostLeft 7 = .ok (.arraylength, 1) := by decide +kernel
theorem dX1_mostLeft_8 : decode cX1_mostLeft 8 = .ok (.if_icmp .ge 16, 3) := by decide +kernel
theorem dX1_mostLeft_11 : decode cX1_mostLeft 11 = .ok (.aload_n 0, 1) := by decide +kernel
theorem dX1_mostLeft_12 : decode cX1_mostLeft 12 = .ok (.getfield 34, 3) := by decide +kernel
theorem dX1_mostLeft_15 : decode cX1_mostLeft 15 = .ok (.iload_n 3, 1) := by decide +kernel
theorem dX1_mostLeft_16 : decode cX1_mostLeft 16 = .ok (.iconst 0, 1) := by decide +kernel
theorem dX1_mostLeft_17 : decode cX1_mostLeft 17 = .ok (.iastore, 1) := by decide +kernel
theorem dX1_mostLeft_18 : decode cX1_mostLeft 18 = .ok (.iinc 3 1, 3) := by decide +kernel
theorem dX1_mostLeft_21 : decode cX1_mostLeft 21 = .ok (.goto (-19), 3) := by decide +kernel
theorem dX1_mostLeft_24 : decode cX1_mostLeft 24 = .ok (.iconst 0, 1) := by decide +kernel
theorem dX1_mostLeft_25 : decode cX1_mostLeft 25 = .ok (.istore_n 3, 1) := by decide +kernel
theorem dX1_mostLeft_26 : decode cX1_mostLeft 26 = .ok (.iconst 1, 1) := by decide +kernel
theorem dX1_mostLeft_27 : decode cX1_mostLeft 27 = .ok (.istore 4, 2) := by decide +kernel
theorem dX1_mostLeft_29 : decode cX1_mostLeft 29 = .ok (.iload 4, 2) := by decide +kernel
theorem dX1_mostLeft_31 : decode cX1_mostLeft 31 = .ok (.bipush 24, 2) := by decide +kernel
theorem dX1_mostLeft_33 : decode cX1_mostLeft 33 = .ok (.if_icmp .gt 67, 3) := by decide +kernel
theorem dX1_mostLeft_36 : decode cX1_mostLeft 36 = .ok (.iload_n 2, 1) := by decide +kernel
theorem dX1_mostLeft_37 : decode cX1_mostLeft 37 = .ok (.iload 4, 2) := by decide +kernel
theorem dX1_mostLeft_39 : decode cX1_mostLeft 39 = .ok (.iconst 1, 1) := by decide +kernel
theorem dX1_mostLeft_40 : decode cX1_mostLeft 40 = .ok (.isub, 1) := by decide +kernel
theorem dX1_mostLeft_41 : decode cX1_mostLeft 41 = .ok (.ishr, 1) := by decide +kernel
theorem dX1_mostLeft_42 : decode cX1_mostLeft 42 = .ok (.iconst 1, 1) := by decide +kernel
theorem dX1_mostLeft_43 : decode cX1_mostLeft 43 = .ok (.iand, 1) := by decide +kernel
theorem dX1_mostLeft_44 : decode cX1_mostLeft 44 = .ok (.ifCond .eq 50, 3) := by decide +kernel
theorem dX1_mostLeft_47 : decode cX1_mostLeft 47 = .ok (.aload_n 0, 1) := by decide +kernel
theorem dX1_mostLeft_48 : decode cX1_mostLeft 48 = .ok (.iload_n 1, 1) := by decide +kernel
theorem dX1_mostLeft_49 : decode cX1_mostLeft 49 = .ok (.iload 4, 2) := by decide +kernel
theorem dX1_mostLeft_51 : decode cX1_mostLeft 51 = .ok (.invokevirtual 117, 3) := by decide +kernel
theorem dX1_mostLeft_54 : decode cX1_mostLeft 54 = .ok (.istore 5, 2) := by decide +kernel
theorem dX1_mostLeft_56 : decode cX1_mostLeft 56 = .ok (.iload 5, 2) := by decide +kernel
theorem dX1_mostLeft_58 : decode cX1_mostLeft 58 = .ok (.ifCond .lt 36, 3) := by decide +kernel
theorem dX1_mostLeft_61 : decode cX1_mostLeft 61 = .ok (.iload 5, 2) := by decide +kernel
theorem dX1_mostLeft_63 : decode cX1_mostLeft 63 = .ok (.aload_n 0, 1) := by decide +kernel
theorem dX1_mostLeft_64 : decode cX1_mostLeft 64 = .ok (.getfield 34, 3) := by decide +kernel
theorem dX1_mostLeft_67 : decode cX1_mostLeft 67 = .ok (.arraylength, 1) := by decide +kernel
theorem dX1_mostLeft_68 : decode cX1_mostLeft 68 = .ok (.if_icmp .ge 26, 3) := by decide +kernel
theorem dX1_mostLeft_71 : decode cX1_mostLeft 71 = .ok (.aload_n 0, 1) := by decide +kernel
theorem dX1_mostLeft_72 : decode cX1_mostLeft 72 = .ok (.getfield 34, 3) := by decide +kernel
theorem dX1_mostLeft_75 : decode cX1_mostLeft 75 = .ok (.iload 5, 2) := by decide +kernel
theorem dX1_mostLeft_77 : decode cX1_mostLeft 77 = .ok (.dup2, 1) := by decide +kernel
theorem dX1_mostLeft_78 : decode cX1_mostLeft 78 = .ok (.iaload, 1) := by decide +kernel
theorem dX1_mostLeft_79 : decode cX1_mostLeft 79 = .ok (.iconst 1, 1) := by decide +kernel
theorem dX1_mostLeft_80 : decode cX1_mostLeft 80 = .ok (.iadd, 1) := by decide +kernel
theorem dX1_mostLeft_81 : decode cX1_mostLeft 81 = .ok (.iastore, 1) := by decide +kernel
theorem dX1_mostLeft_82 : decode cX1_mostLeft 82 = .ok (.iload_n 3, 1) := by decide +kernel
theorem dX1_mostLeft_83 : decode cX1_mostLeft 83 = .ok (.aload_n 0, 1) := by decide +kernel
theorem dX1_mostLeft_84 : decode cX1_mostLeft 84 = .ok (.getfield 34, 3) := by decide +kernel
theorem dX1_mostLeft_87 : decode cX1_mostLeft 87 = .ok (.iload 5, 2) := by decide +kernel
theorem dX1_mostLeft_89 : decode cX1_mostLeft 89 = .ok (.iaload, 1) := by decide +kernel
theorem dX1_mostLeft_90 : decode cX1_mostLeft 90 = .ok (.invokestatic 127, 3) := by decide +kernel
theorem dX1_mostLeft_93 : decode cX1_mostLeft 93 = .ok (.istore_n 3, 1) := by decide +kernel
theorem dX1_mostLeft_94 : decode cX1_mostLeft 94 = .ok (.iinc 4 1, 3) := by decide +kernel
theorem dX1_mostLeft_97 : decode cX1_mostLeft 97 = .ok (.goto (-68), 3) := by decide +kernel
theorem dX1_mostLeft_100 : decode cX1_mostLeft 100 = .ok (.iload_n 3, 1) := by decide +kernel
theorem dX1_mostLeft_101 : decode cX1_mostLeft 101 = .ok (.ireturn, 1) := by decide +kernel
theorem dX1_playRounds_0 : decode cX1_playRounds 0 = .ok (.aload_n 0, 1) := by decide +kernel
theorem dX1_playRounds_1 : decode cX1_playRounds 1 = .ok (.getfield 12, 3) := by decide +kernel
theorem dX1_playRounds_4 : decode cX1_playRounds 4 = .ok (.aload_n 0, 1) := by decide +kernel
theorem dX1_playRounds_5 : decode cX1_playRounds 5 = .ok (.getfield 37, 3) := by decide +kernel
theorem dX1_playRounds_8 : decode cX1_playRounds 8 = .ok (.getfield 41, 3) := by decide +kernel
theorem dX1_playRounds_11 : decode cX1_playRounds 11 = .ok (.invokevirtual 46, 3) := by decide +kernel
theorem dX1_playRounds_14 : decode cX1_playRounds 14 = .ok (.iload_n 2, 1) := by decide +kernel
theorem dX1_playRounds_15 : decode cX1_playRounds 15 = .ok (.istore 4, 2) := by decide +kernel
theorem dX1_playRounds_17 : decode cX1_playRounds 17 = .ok (.iconst 0, 1) := by decide +kernel
theorem dX1_playRounds_18 : decode cX1_playRounds 18 = .ok (.istore 5, 2) := by decide +kernel
theorem dX1_playRounds_20 : decode cX1_playRounds 20 = .ok (.iconst 0, 1) := by decide +kernel
theorem dX1_playRounds_21 : decode cX1_playRounds 21 = .ok (.istore 6, 2) := by decide +kernel
theorem dX1_playRounds_23 : decode cX1_playRounds 23 = .ok (.iload 6, 2) := by decide +kernel
theorem dX1_playRounds_25 : decode cX1_playRounds 25 = .ok (.iload_n 1, 1) := by decide +kernel
theorem dX1_playRounds_26 : decode cX1_playRounds 26 = .ok (.if_icmp .ge 64, 3) := by decide +kernel
theorem dX1_playRounds_29 : decode cX1_playRounds 29 = .ok (.aload_n 0, 1) := by decide +kernel
theorem dX1_playRounds_30 : decode cX1_playRounds 30 = .ok (.getfield 12, 3) := by decide +kernel
theorem dX1_playRounds_33 : decode cX1_playRounds 33 = .ok (.invokevirtual 86, 3) := by decide +kernel
theorem dX1_playRounds_36 : decode cX1_playRounds 36 = .ok (.ifCond .eq 38, 3) := by decide +kernel
theorem dX1_playRounds_39 : decode cX1_playRounds 39 = .ok (.ldc2_w 132, 3) := by decide +kernel
theorem dX1_playRounds_42 : decode cX1_playRounds 42 = .ok (.iload 4, 2) := by decide +kernel
theorem dX1_playRounds_44 : decode cX1_playRounds 44 = .ok (.i2l, 1) := by decide +kernel
theorem dX1_playRounds_45 : decode cX1_playRounds 45 = .ok (.lmul, 1) := by decide +kernel
theorem dX1_playRounds_46 : decode cX1_playRounds 46 = .ok (.ldc2_w 134, 3) := by decide +kernel
theorem dX1_playRounds_49 : decode cX1_playRounds 49 = .ok (.ladd, 1) := by decide +kernel
theorem dX1_playRounds_50 : decode cX1_playRounds 50 = .ok (.ldc2_w 136, 3) := by decide +kernel
theorem dX1_playRounds_53 : decode cX1_playRounds 53 = .ok (.lrem, 1) := by decide +kernel
theorem dX1_playRounds_54 : decode cX1_playRounds 54 = .ok (.l2i, 1) := by decide +kernel
theorem dX1_playRounds_55 : decode cX1_playRounds 55 = .ok (.istore 4, 2) := by decide +kernel
theorem dX1_playRounds_57 : decode cX1_playRounds 57 = .ok (.aload_n 0, 1) := by decide +kernel
theorem dX1_playRounds_58 : decode cX1_playRounds 58 = .ok (.getfield 12, 3) := by decide +kernel
theorem dX1_playRounds_61 : decode cX1_playRounds 61 = .ok (.aload_n 0, 1) := by decide +kernel
theorem dX1_playRounds_62 : decode cX1_playRounds 62 = .ok (.iload 4, 2) := by decide +kernel
theorem dX1_playRounds_64 : decode cX1_playRounds 64 = .ok (.invokevirtual 138, 3) := by decide +kernel
theorem dX1_playRounds_67 : decode cX1_playRounds 67 = .ok (.invokevirtual 54, 3) := by decide +kernel
theorem dX1_playRounds_70 : decode cX1_playRounds 70 = .ok (.pop, 1) := by decide +kernel
theorem dX1_playRounds_71 : decode cX1_playRounds 71 = .ok (.goto 13, 3) := by decide +kernel
theorem dX1_playRounds_74 : decode cX1_playRounds 74 = .ok (.aload_n 0, 1) := by decide +kernel
theorem dX1_playRounds_75 : decode cX1_playRounds 75 = .ok (.getfield 12, 3) := by decide +kernel
theorem dX1_playRounds_78 : decode cX1_playRounds 78 = .ok (.invokevirtual 141, 3) := by decide +kernel
theorem dX1_playRounds_81 : decode cX1_playRounds 81 = .ok (.iinc 5 1, 3) := by decide +kernel
theorem dX1_playRounds_84 : decode cX1_playRounds 84 = .ok (.iinc 6 1, 3) := by decide +kernel
theorem dX1_playRounds_87 : decode cX1_playRounds 87 = .ok (.goto (-64), 3) := by decide +kernel
theorem dX1_playRounds_90 : decode cX1_playRounds 90 = .ok (.iload_n 3, 1) := by decide +kernel
theorem dX1_playRounds_91 : decode cX1_playRounds 91 = .ok (.ifCond .ne 6, 3) := by decide +kernel
theorem dX1_playRounds_94 : decode cX1_playRounds 94 = .ok (.iload 5, 2) := by decide +kernel
theorem dX1_playRounds_96 : decode cX1_playRounds 96 = .ok (.ireturn, 1) := by decide +kernel
theorem dX1_playRounds_97 : decode cX1_playRounds 97 = .ok (.iload_n 3, 1) := by decide +kernel
theorem dX1_playRounds_98 : decode cX1_playRounds 98 = .ok (.iconst 1, 1) := by decide +kernel
theorem dX1_playRounds_99 : decode cX1_playRounds 99 = .ok (.if_icmp .ne 13, 3) := by decide +kernel
theorem dX1_playRounds_102 : decode cX1_playRounds 102 = .ok (.aload_n 0, 1) := by decide +kernel
theorem dX1_playRounds_103 : decode cX1_playRounds 103 = .ok (.getfield 12, 3) := by decide +kernel
theorem dX1_playRounds_106 : decode cX1_playRounds 106 = .ok (.getfield 50, 3) := by decide +kernel
theorem dX1_playRounds_109 : decode cX1_playRounds 109 = .ok (.goto 5, 3) := by decide +kernel
theorem dX1_playRounds_112 : decode cX1_playRounds 112 = .ok (.iload 4, 2) := by decide +kernel
theorem dX1_playRounds_114 : decode cX1_playRounds 114 = .ok (.ireturn, 1) := by decide +kernel
theorem dX1_beatsDrawn_0 : decode cX1_beatsDrawn 0 = .ok (.aload_n 0, 1) := by decide +kernel
theorem dX1_beatsDrawn_1 : decode cX1_beatsDrawn 1 = .ok (.getfield 37, 3) := by decide +kernel
theorem dX1_beatsDrawn_4 : decode cX1_beatsDrawn 4 = .ok (.getfield 94, 3) := by decide +kernel
theorem dX1_beatsDrawn_7 : decode cX1_beatsDrawn 7 = .ok (.ifCond .le 18, 3) := by decide +kernel
theorem dX1_beatsDrawn_10 : decode cX1_beatsDrawn 10 = .ok (.iload_n 1, 1) := by decide +kernel
theorem dX1_beatsDrawn_11 : decode cX1_beatsDrawn 11 = .ok (.ldc 144, 2) := by decide +kernel
theorem dX1_beatsDrawn_13 : decode cX1_beatsDrawn 13 = .ok (.idiv, 1) := by decide +kernel
theorem dX1_beatsDrawn_14 : decode cX1_beatsDrawn 14 = .ok (.aload_n 0, 1) := by decide +kernel
theorem dX1_beatsDrawn_15 : decode cX1_beatsDrawn 15 = .ok (.getfield 37, 3) := by decide +kernel
theorem dX1_beatsDrawn_18 : decode cX1_beatsDrawn 18 = .ok (.getfield 94, 3) := by decide +kernel
theorem dX1_beatsDrawn_21 : decode cX1_beatsDrawn 21 = .ok (.irem, 1) := by decide +kernel
theorem dX1_beatsDrawn_22 : decode cX1_beatsDrawn 22 = .ok (.goto 4, 3) := by decide +kernel
theorem dX1_beatsDrawn_25 : decode cX1_beatsDrawn 25 = .ok (.iconst 0, 1) := by decide +kernel
theorem dX1_beatsDrawn_26 : decode cX1_beatsDrawn 26 = .ok (.istore_n 2, 1) := by decide +kernel
theorem dX1_beatsDrawn_27 : decode cX1_beatsDrawn 27 = .ok (.aload_n 0, 1) := by decide +kernel
theorem dX1_beatsDrawn_28 : decode cX1_beatsDrawn 28 = .ok (.getfield 37, 3) := by decide +kernel
theorem dX1_beatsDrawn_31 : decode cX1_beatsDrawn 31 = .ok (.iload_n 2, 1) := by decide +kernel
theorem dX1_beatsDrawn_32 : decode cX1_beatsDrawn 32 = .ok (.invokevirtual 145, 3) := by decide +kernel
theorem dX1_beatsDrawn_35 : decode cX1_beatsDrawn 35 = .ok (.ifCond .eq 15, 3) := by decide +kernel
theorem dX1_beatsDrawn_38 : decode cX1_beatsDrawn 38 = .ok (.aload_n 0, 1) := by decide +kernel
theorem dX1_beatsDrawn_39 : decode cX1_beatsDrawn 39 = .ok (.getfield 37, 3) := by decide +kernel
theorem dX1_beatsDrawn_42 : decode cX1_beatsDrawn 42 = .ok (.getfield 97, 3) := by decide +kernel
theorem dX1_beatsDrawn_45 : decode cX1_beatsDrawn 45 = .ok (.iload_n 2, 1) := by decide +kernel
theorem dX1_beatsDrawn_46 : decode cX1_beatsDrawn 46 = .ok (.iaload, 1) := by decide +kernel
theorem dX1_beatsDrawn_47 : decode cX1_beatsDrawn 47 = .ok (.goto 4, 3) := by decide +kernel
theorem dX1_beatsDrawn_50 : decode cX1_beatsDrawn 50 = .ok (.iconst 1, 1) := by decide +kernel
theorem dX1_beatsDrawn_51 : decode cX1_beatsDrawn 51 = .ok (.ireturn, 1) := by decide +kernel
theorem dX2_init_0 : decode cX2_init 0 = .ok (.aload_n 0, 1) := by decide +kernel
theorem dX2_init_1 : decode cX2_init 1 = .ok (.invokespecial 3, 3) := by decide +kernel
theorem dX2_init_4 : decode cX2_init 4 = .ok (.aload_n 0, 1) := by decide +kernel
theorem dX2_init_5 : decode cX2_init 5 = .ok (.bipush 20, 2) := by decide +kernel
theorem dX2_init_7 : decode cX2_init 7 = .ok (.newarray .int, 2) := by decide +kernel
theorem dX2_init_9 : decode cX2_init 9 = .ok (.putfield 9, 3) := by decide +kernel
theorem dX2_init_12 : decode cX2_init 12 = .ok (.aload_n 0, 1) := by decide +kernel
theorem dX2_init_13 : decode cX2_init 13 = .ok (.iconst 3, 1) := by decide +kernel
theorem dX2_init_14 : decode cX2_init 14 = .ok (.newarray .int, 2) := by decide +kernel
theorem dX2_init_16 : decode cX2_init 16 = .ok (.putfield 15, 3) := by decide +kernel
theorem dX2_init_19 : decode cX2_init 19 = .ok (.aload_n 0, 1) := by decide +kernel
theorem dX2_init_20 : decode cX2_init 20 = .ok (.bipush 8, 2) := by decide +kernel
theorem dX2_init_22 : decode cX2_init 22 = .ok (.newarray .int, 2) := by decide +kernel
theorem dX2_init_24 : decode cX2_init 24 = .ok (.putfield 18, 3) := by decide +kernel
theorem dX2_init_27 : decode cX2_init 27 = .ok (.return_, 1) := by decide +kernel
theorem dX2_append_0 : decode cX2_append 0 = .ok (.aload_n 0, 1) := by decide +kernel
theorem dX2_append_1 : decode cX2_append 1 = .ok (.getfield 21, 3) := by decide +kernel
theorem dX2_append_4 : decode cX2_append 4 = .ok (.ifCond .lt 15, 3) := by decide +kernel
theorem dX2_append_7 : decode cX2_append 7 = .ok (.aload_n 0, 1) := by decide +kernel
theorem dX2_append_8 : decode cX2_append 8 = .ok (.getfield 21, 3) := by decide +kernel
theorem dX2_append_11 : decode cX2_append 11 = .ok (.aload_n 0, 1) := by decide +kernel
theorem dX2_append_12 : decode cX2_append 12 = .ok (.getfield 9, 3) := by decide +kernel
theorem dX2_append_15 : decode cX2_append 15 = .ok (.arraylength, 1) := by decide +kernel
theorem dX2_append_16 : decode cX2_append 16 = .ok (.if_icmp .lt 5, 3) := by decide +kernel
theorem dX2_append_19 : decode cX2_append 19 = .ok (.iconst 0, 1) := by decide +kernel
theorem dX2_append_20 : decode cX2_append 20 = .ok (.ireturn, 1) := by decide +kernel
theorem dX2_append_21 : decode cX2_append 21 = .ok (.aload_n 0, 1) := by decide +kernel
theorem dX2_append_22 : decode cX2_append 22 = .ok (.getfield 9, 3) := by decide +kernel
theorem dX2_append_25 : decode cX2_append 25 = .ok (.aload_n 0, 1) := by decide +kernel
theorem dX2_append_26 : decode cX2_append 26 = .ok (.getfield 21, 3) := by decide +kernel
theorem dX2_append_29 : decode cX2_append 29 = .ok (.iload_n 1, 1) := by decide +kernel
theorem dX2_append_30 : decode cX2_append 30 = .ok (.iastore, 1) := by decide +kernel
theorem dX2_append_31 : decode cX2_append 31 = .ok (.aload_n 0, 1) := by decide +kernel
theorem dX2_append_32 : decode cX2_append 32 = .ok (.dup, 1) := by decide +kernel
theorem dX2_append_33 : decode cX2_append 33 = .ok (.getfield 21, 3) := by decide +kernel
theorem dX2_append_36 : decode cX2_append 36 = .ok (.iconst 1, 1) := by decide +kernel
theorem dX2_append_37 : decode cX2_append 37 = .ok (.iadd, 1) := by decide +kernel
theorem dX2_append_38 : decode cX2_append 38 = .ok (.putfield 21, 3) := by decide +kernel
theorem dX2_append_41 : decode cX2_append 41 = .ok (.iconst 1, 1) := by decide +kernel
theorem dX2_append_42 : decode cX2_append 42 = .ok (.ireturn, 1) := by decide +kernel
theorem dX2_isRing_0 : decode cX2_isRing 0 = .ok (.aload_n 0, 1) := by decide +kernel
theorem dX2_isRing_1 : decode cX2_isRing 1 = .ok (.invokevirtual 25, 3) := by decide +kernel
theorem dX2_isRing_4 : decode cX2_isRing 4 = .ok (.aload_n 0, 1) := by decide +kernel
theorem dX2_isRing_5 : decode cX2_isRing 5 = .ok (.getfield 21, 3) := by decide +kernel
theorem dX2_isRing_8 : decode cX2_isRing 8 = .ok (.if_icmp .ne 15, 3) := by decide +kernel
theorem dX2_isRing_11 : decode cX2_isRing 11 = .ok (.aload_n 0, 1) := by decide +kernel
theorem dX2_isRing_12 : decode cX2_isRing 12 = .ok (.getfield 29, 3) := by decide +kernel
theorem dX2_isRing_15 : decode cX2_isRing 15 = .ok (.iconst 2, 1) := by decide +kernel
theorem dX2_isRing_16 : decode cX2_isRing 16 = .ok (.if_icmp .lt 7, 3) := by decide +kernel
theorem dX2_isRing_19 : decode cX2_isRing 19 = .ok (.iconst 1, 1) := by decide +kernel
theorem dX2_isRing_20 : decode cX2_isRing 20 = .ok (.goto 4, 3) := by decide +kernel
theorem dX2_isRing_23 : decode cX2_isRing 23 = .ok (.iconst 0, 1) := by decide +kernel
theorem dX2_isRing_24 : decode cX2_isRing 24 = .ok (.ireturn, 1) := by decide +kernel
theorem dX2_firstFault_0 : decode cX2_firstFault 0 = .ok (.aload_n 0, 1) := by decide +kernel
theorem dX2_firstFault_1 : decode cX2_firstFault 1 = .ok (.iconst 0, 1) := by decide +kernel
theorem dX2_firstFault_2 : decode cX2_firstFault 2 = .ok (.putfield 32, 3) := by decide +kernel
theorem dX2_firstFault_5 : decode cX2_firstFault 5 = .ok (.aload_n 0, 1) := by decide +kernel
theorem dX2_firstFault_6 : decode cX2_firstFault 6 = .ok (.iconst 0, 1) := by decide +kernel
theorem dX2_firstFault_7 : decode cX2_firstFault 7 = .ok (.putfield 35, 3) := by decide +kernel
theorem dX2_firstFault_10 : decode cX2_firstFault 10 = .ok (.aload_n 0, 1) := by decide +kernel
theorem dX2_firstFault_11 : decode cX2_firstFault 11 = .ok (.iconst 0, 1) := by decide +kernel
theorem dX2_firstFault_12 : decode cX2_firstFault 12 = .ok (.putfield 29, 3) := by decide +kernel
theorem dX2_firstFault_15 : decode cX2_firstFault 15 = .ok (.iconst 0, 1) := by decide +kernel
theorem dX2_firstFault_16 : decode cX2_firstFault 16 = .ok (.istore_n 1, 1) := by decide +kernel
theorem dX2_firstFault_17 : decode cX2_firstFault 17 = .ok (.iload_n 1, 1) := by decide +kernel
theorem dX2_firstFault_18 : decode cX2_firstFault 18 = .ok (.aload_n 0, 1) := by decide +kernel
theorem dX2_firstFault_19 : decode cX2_firstFault 19 = .ok (.getfield 21, 3) := by decide +kernel
theorem dX2_firstFault_22 : decode cX2_firstFault 22 = .ok (.if_icmp .ge 24, 3) := by decide +kernel
theorem dX2_firstFault_25 : decode cX2_firstFault 25 = .ok (.aload_n 0, 1) := by decide +kernel
theorem dX2_firstFault_26 : decode cX2_firstFault 26 = .ok (.aload_n 0, 1) := by decide +kernel
theorem dX2_firstFault_27 : decode cX2_firstFault 27 = .ok (.getfield 9, 3) := by decide +kernel
theorem dX2_firstFault_30 : decode cX2_firstFault 30 = .ok (.iload_n 1, 1) := by decide +kernel
theorem dX2_firstFault_31 : decode cX2_firstFault 31 = .ok (.iaload, 1) := by decide +kernel
theorem dX2_firstFault_32 : decode cX2_firstFault 32 = .ok (.invokevirtual 38, 3) := by decide +kernel
theorem dX2_firstFault_35 : decode cX2_firstFault 35 = .ok (.ifCond .ne 5, 3) := by decide +kernel
theorem dX2_firstFault_38 : decode cX2_firstFault 38 = .ok (.iload_n 1, 1) := by decide +kernel
theorem dX2_firstFault_39 : decode cX2_firstFault 39 = .ok (.ireturn, 1) := by decide +kernel
theorem dX2_firstFault_40 : decode cX2_firstFault 40 = .ok (.iinc 1 1, 3) := by decide +kernel
theorem dX2_firstFault_43 : decode cX2_firstFault 43 = .ok (.goto (-26), 3) := by decide +kernel
theorem dX2_firstFault_46 : decode cX2_firstFault 46 = .ok (.aload_n 0, 1) := by decide +kernel
theorem dX2_firstFault_47 : decode cX2_firstFault 47 = .ok (.getfield 21, 3) := by decide +kernel
theorem dX2_firstFault_50 : decode cX2_firstFault 50 = .ok (.ireturn, 1) := by decide +kernel
theorem dX2_reads_0 : decode cX2_reads 0 = .ok (.aload_n 0, 1) := by decide +kernel
theorem dX2_reads_1 : decode cX2_reads 1 = .ok (.getfield 32, 3) := by decide +kernel
theorem dX2_reads_4 : decode cX2_reads 4 = .ok (.tableswitch 46 0 2 #[28, 34, 40], 28) := by decide +kernel
theorem dX2_reads_32 : decode cX2_reads 32 = .ok (.aload_n 0, 1) := by decide +kernel
theorem dX2_reads_33 : decode cX2_reads 33 = .ok (.iload_n 1, 1) := by decide +kernel
theorem dX2_reads_34 : decode cX2_reads 34 = .ok (.invokevirtual 42, 3) := by decide +kernel
theorem dX2_reads_37 : decode cX2_reads 37 = .ok (.ireturn, 1) := by decide +kernel
theorem dX2_reads_38 : decode cX2_reads 38 = .ok (.aload_n 0, 1) := by decide +kernel
theorem dX2_reads_39 : decode cX2_reads 39 = .ok (.iload_n 1, 1) := by decide +kernel
theorem dX2_reads_40 : decode cX2_reads 40 = .ok (.invokevirtual 45, 3) := by decide +kernel
theorem dX2_reads_43 : decode cX2_reads 43 = .ok (.ireturn, 1) := by decide +kernel
theorem dX2_reads_44 : decode cX2_reads 44 = .ok (.aload_n 0, 1) := by decide +kernel
theorem dX2_reads_45 : decode cX2_reads 45 = .ok (.iload_n 1, 1) := by decide +kernel
theorem dX2_reads_46 : decode cX2_reads 46 = .ok (.invokevirtual 48, 3) := by decide +kernel
theorem dX2_reads_49 : decode cX2_reads 49 = .ok (.ireturn, 1) := by decide +kernel
theorem dX2_reads_50 : decode cX2_reads 50 = .ok (.aload_n 0, 1) := by decide +kernel
theorem dX2_reads_51 : decode cX2_reads 51 = .ok (.iload_n 1, 1) := by decide +kernel
theorem dX2_reads_52 : decode cX2_reads 52 = .ok (.invokevirtual 51, 3) := by decide +kernel
theorem dX2_reads_55 : decode cX2_reads 55 = .ok (.ireturn, 1) := by decide +kernel
theorem dX2_readsTens_0 : decode cX2_readsTens 0 = .ok (.iload_n 1, 1) := by decide +kernel
theorem dX2_readsTens_1 : decode cX2_readsTens 1 = .ok (.bipush 48, 2) := by decide +kernel
theorem dX2_readsTens_3 : decode cX2_readsTens 3 = .ok (.if_icmp .lt 9, 3) := by decide +kernel
theorem dX2_readsTens_6 : decode cX2_readsTens 6 = .ok (.iload_n 1, 1) := by decide +kernel
theorem dX2_readsTens_7 : decode cX2_readsTens 7 = .ok (.bipush 57, 2) := by decide +kernel
theorem dX2_readsTens_9 : decode cX2_readsTens 9 = .ok (.if_icmp .le 5, 3) := by decide +kernel
theorem dX2_readsTens_12 : decode cX2_readsTens 12 = .ok (.iconst 0, 1) := by decide +kernel
theorem dX2_readsTens_13 : decode cX2_readsTens 13 = .ok (.ireturn, 1) := by decide +kernel
theorem dX2_readsTens_14 : decode cX2_readsTens 14 = .ok (.aload_n 0, 1) := by decide +kernel
theorem dX2_readsTens_15 : decode cX2_readsTens 15 = .ok (.iload_n 1, 1) := by decide +kernel
theorem dX2_readsTens_16 : decode cX2_readsTens 16 = .ok (.bipush 48, 2) := by decide +kernel
theorem dX2_readsTens_18 : decode cX2_readsTens 18 = .ok (.isub, 1) := by decide +kernel
theorem dX2_readsTens_19 : decode cX2_readsTens 19 = .ok (.putfield 54, 3) := by decide +kernel
theorem dX2_readsTens_22 : decode cX2_readsTens 22 = .ok (.aload_n 0, 1) := by decide +kernel
theorem dX2_readsTens_23 : decode cX2_readsTens 23 = .ok (.iconst 1, 1) := by decide +kernel
theorem dX2_readsTens_24 : decode cX2_readsTens 24 = .ok (.putfield 32, 3) := by decide +kernel
theorem dX2_readsTens_27 : decode cX2_readsTens 27 = .ok (.iconst 1, 1) := by decide +kernel
theorem dX2_readsTens_28 : decode cX2_readsTens 28 = .ok (.ireturn, 1) := by decide +kernel
theorem dX2_readsOnes_0 : decode cX2_readsOnes 0 = .ok (.bipush 10, 2) := by decide +kernel
theorem dX2_readsOnes_2 : decode cX2_readsOnes 2 = .ok (.aload_n 0, 1) := by decide +kernel
theorem dX2_readsOnes_3 : decode cX2_readsOnes 3 = .ok (.getfield 54, 3) := by decide +kernel
theorem dX2_readsOnes_6 : decode cX2_readsOnes 6 = .ok (.imul, 1) := by decide +kernel
theorem dX2_readsOnes_7 : decode cX2_readsOnes 7 = .ok (.iload_n 1, 1) := by decide +kernel
theorem dX2_readsOnes_8 : decode cX2_readsOnes 8 = .ok (.iadd, 1) := by decide +kernel
theorem dX2_readsOnes_9 : decode cX2_readsOnes 9 = .ok (.bipush 48, 2) := by decide +kernel
theorem dX2_readsOnes_11 : decode cX2_readsOnes 11 = .ok (.isub, 1) := by decide +kernel
theorem dX2_readsOnes_12 : decode cX2_readsOnes 12 = .ok (.istore_n 2, 1) := by decide +kernel
theorem dX2_readsOnes_13 : decode cX2_readsOnes 13 = .ok (.iload_n 1, 1) := by decide +kernel
theorem dX2_readsOnes_14 : decode cX2_readsOnes 14 = .ok (.bipush 48, 2) := by decide +kernel
theorem dX2_readsOnes_16 : decode cX2_readsOnes 16 = .ok (.if_icmp .lt 26, 3) := by decide +kernel
theorem dX2_readsOnes_19 : decode cX2_readsOnes 19 = .ok (.iload_n 1, 1) := by decide +kernel
theorem dX2_readsOnes_20 : decode cX2_readsOnes 20 = .ok (.bipush 57, 2) := by decide +kernel
theorem dX2_readsOnes_22 : decode cX2_readsOnes 22 = .ok (.if_icmp .gt 20, 3) := by decide +kernel
theorem dX2_readsOnes_25 : decode cX2_readsOnes 25 = .ok (.iload_n 2, 1) := by decide +kernel
theorem dX2_readsOnes_26 : decode cX2_readsOnes 26 = .ok (.iconst 1, 1) := by decide +kernel
theorem dX2_readsOnes_27 : decode cX2_readsOnes 27 = .ok (.if_icmp .lt 15, 3) := by decide +kernel
theorem dX2_readsOnes_30 : decode cX2_readsOnes 30 = .ok (.aload_n 0, 1) := by decide +kernel
theorem dX2_readsOnes_31 : decode cX2_readsOnes 31 = .ok (.getfield 35, 3) := by decide +kernel
theorem dX2_readsOnes_34 : decode cX2_readsOnes 34 = .ok (.aload_n 0, 1) := by decide +kernel
theorem dX2_readsOnes_35 : decode cX2_readsOnes 35 = .ok (.getfield 15, 3) := by decide +kernel
theorem dX2_readsOnes_38 : decode cX2_readsOnes 38 = .ok (.arraylength, 1) := by decide +kernel
theorem dX2_readsOnes_39 : decode cX2_readsOnes 39 = .ok (.if_icmp .lt 5, 3) := by decide +kernel
theorem dX2_readsOnes_42 : decode cX2_readsOnes 42 = .ok (.iconst 0, 1) := by decide +kernel
theorem dX2_readsOnes_43 : decode cX2_readsOnes 43 = .ok (.ireturn, 1) := by decide +kernel
theorem dX2_readsOnes_44 : decode cX2_readsOnes 44 = .ok (.aload_n 0, 1) := by decide +kernel
theorem dX2_readsOnes_45 : decode cX2_readsOnes 45 = .ok (.getfield 15, 3) := by decide +kernel
theorem dX2_readsOnes_48 : decode cX2_readsOnes 48 = .ok (.aload_n 0, 1) := by decide +kernel
theorem dX2_readsOnes_49 : decode cX2_readsOnes 49 = .ok (.getfield 35, 3) := by decide +kernel
theorem dX2_readsOnes_52 : decode cX2_readsOnes 52 = .ok (.iload_n 2, 1) := by decide +kernel
theorem dX2_readsOnes_53 : decode cX2_readsOnes 53 = .ok (.iastore, 1) := by decide +kernel
theorem dX2_readsOnes_54 : decode cX2_readsOnes 54 = .ok (.aload_n 0, 1) := by decide +kernel
theorem dX2_readsOnes_55 : decode cX2_readsOnes 55 = .ok (.dup, 1) := by decide +kernel
theorem dX2_readsOnes_56 : decode cX2_readsOnes 56 = .ok (.getfield 35, 3) := by decide +kernel
theorem dX2_readsOnes_59 : decode cX2_readsOnes 59 = .ok (.iconst 1, 1) := by decide +kernel
theorem dX2_readsOnes_60 : decode cX2_readsOnes 60 = .ok (.iadd, 1) := by decide +kernel
theorem dX2_readsOnes_61 : decode cX2_readsOnes 61 = .ok (.putfield 35, 3) := by decide +kernel
theorem dX2_readsOnes_64 : decode cX2_readsOnes 64 = .ok (.aload_n 0, 1) := by decide +kernel
theorem dX2_readsOnes_65 : decode cX2_readsOnes 65 = .ok (.iconst 2, 1) := by decide +kernel
theorem dX2_readsOnes_66 : decode cX2_readsOnes 66 = .ok (.putfield 32, 3) := by decide +kernel
theorem dX2_readsOnes_69 : decode cX2_readsOnes 69 = .ok (.iconst 1, 1) := by decide +kernel
theorem dX2_readsOnes_70 : decode cX2_readsOnes 70 = .ok (.ireturn, 1) := by decide +kernel
theorem dX2_readsBetween_0 : decode cX2_readsBetween 0 = .ok (.iload_n 1, 1) := by decide +kernel
theorem dX2_readsBetween_1 : decode cX2_readsBetween 1 = .ok (.bipush 44, 2) := by decide +kernel
theorem dX2_readsBetween_3 : decode cX2_readsBetween 3 = .ok (.if_icmp .ne 18, 3) := by decide +kernel
theorem dX2_readsBetween_6 : decode cX2_readsBetween 6 = .ok (.aload_n 0, 1) := by decide +kernel
theorem dX2_readsBetween_7 : decode cX2_readsBetween 7 = .ok (.getfield 35, 3) := by decide +kernel
theorem dX2_readsBetween_10 : decode cX2_readsBetween 10 = .ok (.iconst 3, 1) := by decide +kernel
theorem dX2_readsBetween_11 : decode cX2_readsBetween 11 = .ok (.if_icmp .ge 10, 3) := by decide +kernel
theorem dX2_readsBetween_14 : decode cX2_readsBetween 14 = .ok (.aload_n 0, 1) := by decide +kernel
theorem dX2_readsBetween_15 : decode cX2_readsBetween 15 = .ok (.iconst 0, 1) := by decide +kernel
theorem dX2_readsBetween_16 : decode cX2_readsBetween 16 = .ok (.putfield 32, 3) := by decide +kernel
theorem dX2_readsBetween_19 : decode cX2_readsBetween 19 = .ok (.iconst 1, 1) := by decide +kernel
theorem dX2_readsBetween_20 : decode cX2_readsBetween 20 = .ok (.ireturn, 1) := by decide +kernel
theorem dX2_readsBetween_21 : decode cX2_readsBetween 21 = .ok (.iload_n 1, 1) := by decide +kernel
theorem dX2_readsBetween_22 : decode cX2_readsBetween 22 = .ok (.bipush 59, 2) := by decide +kernel
theorem dX2_readsBetween_24 : decode cX2_readsBetween 24 = .ok (.if_icmp .ne 10, 3) := by decide +kernel
theorem dX2_readsBetween_27 : decode cX2_readsBetween 27 = .ok (.aload_n 0, 1) := by decide +kernel
theorem dX2_readsBetween_28 : decode cX2_readsBetween 28 = .ok (.iconst 3, 1) := by decide +kernel
theorem dX2_readsBetween_29 : decode cX2_readsBetween 29 = .ok (.putfield 32, 3) := by decide +kernel
theorem dX2_readsBetween_32 : decode cX2_readsBetween 32 = .ok (.iconst 1, 1) := by decide +kernel
theorem dX2_readsBetween_33 : decode cX2_readsBetween 33 = .ok (.ireturn, 1) := by decide +kernel
theorem dX2_readsBetween_34 : decode cX2_readsBetween 34 = .ok (.iconst 0, 1) := by decide +kernel
theorem dX2_readsBetween_35 : decode cX2_readsBetween 35 = .ok (.ireturn, 1) := by decide +kernel
theorem dX2_readsChild_0 : decode cX2_readsChild 0 = .ok (.ldc 57, 2) := by decide +kernel
theorem dX2_readsChild_2 : decode cX2_readsChild 2 = .ok (.iload_n 1, 1) := by decide +kernel
theorem dX2_readsChild_3 : decode cX2_readsChild 3 = .ok (.i2c, 1) := by decide +kernel
theorem dX2_readsChild_4 : decode cX2_readsChild 4 = .ok (.invokevirtual 59, 3) := by decide +kernel
theorem dX2_readsChild_7 : decode cX2_readsChild 7 = .ok (.istore_n 2, 1) := by decide +kernel
theorem dX2_readsChild_8 : decode cX2_readsChild 8 = .ok (.iload_n 2, 1) := by decide +kernel
theorem dX2_readsChild_9 : decode cX2_readsChild 9 = .ok (.ifCond .lt 15, 3) := by decide +kernel
theorem dX2_readsChild_12 : decode cX2_readsChild 12 = .ok (.aload_n 0, 1) := by decide +kernel
theorem dX2_readsChild_13 : decode cX2_readsChild 13 = .ok (.getfield 29, 3) := by decide +kernel
theorem dX2_readsChild_16 : decode cX2_readsChild 16 = .ok (.aload_n 0, 1) := by decide +kernel
theorem dX2_readsChild_17 : decode cX2_readsChild 17 = .ok (.getfield 18, 3) := by decide +kernel
theorem dX2_readsChild_20 : decode cX2_readsChild 20 = .ok (.arraylength, 1) := by decide +kernel
theorem dX2_readsChild_21 : decode cX2_readsChild 21 = .ok (.if_icmp .lt 5, 3) := by decide +kernel
theorem dX2_readsChild_24 : decode cX2_readsChild 24 = .ok (.iconst 0, 1) := by decide +kernel
theorem dX2_readsChild_25 : decode cX2_readsChild 25 = .ok (.ireturn, 1) := by decide +kernel
theorem dX2_readsChild_26 : decode cX2_readsChild 26 = .ok (.aload_n 0, 1) := by decide +kernel
theorem dX2_readsChild_27 : decode cX2_readsChild 27 = .ok (.getfield 18, 3) := by decide +kernel
theorem dX2_readsChild_30 : decode cX2_readsChild 30 = .ok (.aload_n 0, 1) := by decide +kernel
theorem dX2_readsChild_31 : decode cX2_readsChild 31 = .ok (.getfield 29, 3) := by decide +kernel
theorem dX2_readsChild_34 : decode cX2_readsChild 34 = .ok (.iload_n 2, 1) := by decide +kernel
theorem dX2_readsChild_35 : decode cX2_readsChild 35 = .ok (.iastore, 1) := by decide +kernel
theorem dX2_readsChild_36 : decode cX2_readsChild 36 = .ok (.aload_n 0, 1) := by decide +kernel
theorem dX2_readsChild_37 : decode cX2_readsChild 37 = .ok (.dup, 1) := by decide +kernel
theorem dX2_readsChild_38 : decode cX2_readsChild 38 = .ok (.getfield 29, 3) := by decide +kernel
theorem dX2_readsChild_41 : decode cX2_readsChild 41 = .ok (.iconst 1, 1) := by decide +kernel
theorem dX2_readsChild_42 : decode cX2_readsChild 42 = .ok (.iadd, 1) := by decide +kernel
theorem dX2_readsChild_43 : decode cX2_readsChild 43 = .ok (.putfield 29, 3) := by decide +kernel
theorem dX2_readsChild_46 : decode cX2_readsChild 46 = .ok (.iconst 1, 1) := by decide +kernel
theorem dX2_readsChild_47 : decode cX2_readsChild 47 = .ok (.ireturn, 1) := by decide +kernel
theorem dX3_init_0 : decode cX3_init 0 = .ok (.aload_n 0, 1) := by decide +kernel
theorem dX3_init_1 : decode cX3_init 1 = .ok (.invokespecial 3, 3) := by decide +kernel
theorem dX3_init_4 : decode cX3_init 4 = .ok (.aload_n 0, 1) := by decide +kernel
theorem dX3_init_5 : decode cX3_init 5 = .ok (.new 9, 3) := by decide +kernel
theorem dX3_init_8 : decode cX3_init 8 = .ok (.dup, 1) := by decide +kernel
theorem dX3_init_9 : decode cX3_init 9 = .ok (.invokespecial 11, 3) := by decide +kernel
theorem dX3_init_12 : decode cX3_init 12 = .ok (.putfield 12, 3) := by decide +kernel
theorem dX3_init_15 : decode cX3_init 15 = .ok (.aload_n 0, 1) := by decide +kernel
theorem dX3_init_16 : decode cX3_init 16 = .ok (.iconst 3, 1) := by decide +kernel
theorem dX3_init_17 : decode cX3_init 17 = .ok (.newarray .int, 2) := by decide +kernel
theorem dX3_init_19 : decode cX3_init 19 = .ok (.putfield 18, 3) := by decide +kernel
theorem dX3_init_22 : decode cX3_init 22 = .ok (.aload_n 0, 1) := by decide +kernel
theorem dX3_init_23 : decode cX3_init 23 = .ok (.bipush 6, 2) := by decide +kernel
theorem dX3_init_25 : decode cX3_init 25 = .ok (.newarray .int, 2) := by decide +kernel
theorem dX3_init_27 : decode cX3_init 27 = .ok (.putfield 22, 3) := by decide +kernel
theorem dX3_init_30 : decode cX3_init 30 = .ok (.aload_n 0, 1) := by decide +kernel
theorem dX3_init_31 : decode cX3_init 31 = .ok (.bipush 6, 2) := by decide +kernel
theorem dX3_init_33 : decode cX3_init 33 = .ok (.newarray .int, 2) := by decide +kernel
theorem dX3_init_35 : decode cX3_init 35 = .ok (.putfield 25, 3) := by decide +kernel
theorem dX3_init_38 : decode cX3_init 38 = .ok (.return_, 1) := by decide +kernel
theorem dX3_hasRing_0 : decode cX3_hasRing 0 = .ok (.aload_n 0, 1) := by decide +kernel
theorem dX3_hasRing_1 : decode cX3_hasRing 1 = .ok (.getfield 12, 3) := by decide +kernel
theorem dX3_hasRing_4 : decode cX3_hasRing 4 = .ok (.getfield 28, 3) := by decide +kernel
theorem dX3_hasRing_7 : decode cX3_hasRing 7 = .ok (.ifCond .le 7, 3) := by decide +kernel
theorem dX3_hasRing_10 : decode cX3_hasRing 10 = .ok (.iconst 1, 1) := by decide +kernel
theorem dX3_hasRing_11 : decode cX3_hasRing 11 = .ok (.goto 4, 3) := by decide +kernel
theorem dX3_hasRing_14 : decode cX3_hasRing 14 = .ok (.iconst 0, 1) := by decide +kernel
theorem dX3_hasRing_15 : decode cX3_hasRing 15 = .ok (.ireturn, 1) := by decide +kernel
theorem dX3_hasChild_0 : decode cX3_hasChild 0 = .ok (.iload_n 1, 1) := by decide +kernel
theorem dX3_hasChild_1 : decode cX3_hasChild 1 = .ok (.ifCond .lt 18, 3) := by decide +kernel
theorem dX3_hasChild_4 : decode cX3_hasChild 4 = .ok (.iload_n 1, 1) := by decide +kernel
theorem dX3_hasChild_5 : decode cX3_hasChild 5 = .ok (.aload_n 0, 1) := by decide +kernel
theorem dX3_hasChild_6 : decode cX3_hasChild 6 = .ok (.getfield 12, 3) := by decide +kernel
theorem dX3_hasChild_9 : decode cX3_hasChild 9 = .ok (.getfield 28, 3) := by decide +kernel
theorem dX3_hasChild_12 : decode cX3_hasChild 12 = .ok (.if_icmp .ge 7, 3) := by decide +kernel
theorem dX3_hasChild_15 : decode cX3_hasChild 15 = .ok (.iconst 1, 1) := by decide +kernel
theorem dX3_hasChild_16 : decode cX3_hasChild 16 = .ok (.goto 4, 3) := by decide +kernel
theorem dX3_hasChild_19 : decode cX3_hasChild 19 = .ok (.iconst 0, 1) := by decide +kernel
theorem dX3_hasChild_20 : decode cX3_hasChild 20 = .ok (.ireturn, 1) := by decide +kernel
theorem dX3_hasVerse_0 : decode cX3_hasVerse 0 = .ok (.iload_n 1, 1) := by decide +kernel
theorem dX3_hasVerse_1 : decode cX3_hasVerse 1 = .ok (.ifCond .lt 24, 3) := by decide +kernel
theorem dX3_hasVerse_4 : decode cX3_hasVerse 4 = .ok (.iload_n 1, 1) := by decide +kernel
theorem dX3_hasVerse_5 : decode cX3_hasVerse 5 = .ok (.aload_n 0, 1) := by decide +kernel
theorem dX3_hasVerse_6 : decode cX3_hasVerse 6 = .ok (.getfield 32, 3) := by decide +kernel
theorem dX3_hasVerse_9 : decode cX3_hasVerse 9 = .ok (.if_icmp .ge 16, 3) := by decide +kernel
theorem dX3_hasVerse_12 : decode cX3_hasVerse 12 = .ok (.iload_n 1, 1) := by decide +kernel
theorem dX3_hasVerse_13 : decode cX3_hasVerse 13 = .ok (.aload_n 0, 1) := by decide +kernel
theorem dX3_hasVerse_14 : decode cX3_hasVerse 14 = .ok (.getfield 18, 3) := by decide +kernel
theorem dX3_hasVerse_17 : decode cX3_hasVerse 17 = .ok (.arraylength, 1) := by decide +kernel
theorem dX3_hasVerse_18 : decode cX3_hasVerse 18 = .ok (.if_icmp .ge 7, 3) := by decide +kernel
theorem dX3_hasVerse_21 : decode cX3_hasVerse 21 = .ok (.iconst 1, 1) := by decide +kernel
theorem dX3_hasVerse_22 : decode cX3_hasVerse 22 = .ok (.goto 4, 3) := by decide +kernel
theorem dX3_hasVerse_25 : decode cX3_hasVerse 25 = .ok (.iconst 0, 1) := by decide +kernel
theorem dX3_hasVerse_26 : decode cX3_hasVerse 26 = .ok (.ireturn, 1) := by decide +kernel
theorem dX3_keepSeen_0 : decode cX3_keepSeen 0 = .ok (.aload_n 0, 1) := by decide +kernel
theorem dX3_keepSeen_1 : decode cX3_keepSeen 1 = .ok (.getfield 35, 3) := by decide +kernel
theorem dX3_keepSeen_4 : decode cX3_keepSeen 4 = .ok (.ifCond .lt 12, 3) := by decide +kernel
theorem dX3_keepSeen_7 : decode cX3_keepSeen 7 = .ok (.aload_n 0, 1) := by decide +kernel
theorem dX3_keepSeen_8 : decode cX3_keepSeen 8 = .ok (.getfield 35, 3) := by decide +kernel
theorem dX3_keepSeen_11 : decode cX3_keepSeen 11 = .ok (.bipush 6, 2) := by decide +kernel
theorem dX3_keepSeen_13 : decode cX3_keepSeen 13 = .ok (.if_icmp .lt 5, 3) := by decide +kernel
theorem dX3_keepSeen_16 : decode cX3_keepSeen 16 = .ok (.iconst 0, 1) := by decide +kernel
theorem dX3_keepSeen_17 : decode cX3_keepSeen 17 = .ok (.ireturn, 1) := by decide +kernel
theorem dX3_keepSeen_18 : decode cX3_keepSeen 18 = .ok (.aload_n 0, 1) := by decide +kernel
theorem dX3_keepSeen_19 : decode cX3_keepSeen 19 = .ok (.getfield 22, 3) := by decide +kernel
theorem dX3_keepSeen_22 : decode cX3_keepSeen 22 = .ok (.aload_n 0, 1) := by decide +kernel
theorem dX3_keepSeen_23 : decode cX3_keepSeen 23 = .ok (.getfield 35, 3) := by decide +kernel
theorem dX3_keepSeen_26 : decode cX3_keepSeen 26 = .ok (.iload_n 1, 1) := by decide +kernel
theorem dX3_keepSeen_27 : decode cX3_keepSeen 27 = .ok (.iastore, 1) := by decide +kernel
theorem dX3_keepSeen_28 : decode cX3_keepSeen 28 = .ok (.aload_n 0, 1) := by decide +kernel
theorem dX3_keepSeen_29 : decode cX3_keepSeen 29 = .ok (.getfield 25, 3) := by decide +kernel
theorem dX3_keepSeen_32 : decode cX3_keepSeen 32 = .ok (.aload_n 0, 1) := by decide +kernel
theorem dX3_keepSeen_33 : decode cX3_keepSeen 33 = .ok (.getfield 35, 3) := by decide +kernel
theorem dX3_keepSeen_36 : decode cX3_keepSeen 36 = .ok (.iload_n 2, 1) := by decide +kernel
theorem dX3_keepSeen_37 : decode cX3_keepSeen 37 = .ok (.iastore, 1) := by decide +kernel
theorem dX3_keepSeen_38 : decode cX3_keepSeen 38 = .ok (.aload_n 0, 1) := by decide +kernel
theorem dX3_keepSeen_39 : decode cX3_keepSeen 39 = .ok (.dup, 1) := by decide +kernel
theorem dX3_keepSeen_40 : decode cX3_keepSeen 40 = .ok (.getfield 35, 3) := by decide +kernel
theorem dX3_keepSeen_43 : decode cX3_keepSeen 43 = .ok (.iconst 1, 1) := by decide +kernel
theorem dX3_keepSeen_44 : decode cX3_keepSeen 44 = .ok (.iadd, 1) := by decide +kernel
theorem dX3_keepSeen_45 : decode cX3_keepSeen 45 = .ok (.putfield 35, 3) := by decide +kernel
theorem dX3_keepSeen_48 : decode cX3_keepSeen 48 = .ok (.iconst 1, 1) := by decide +kernel
theorem dX3_keepSeen_49 : decode cX3_keepSeen 49 = .ok (.ireturn, 1) := by decide +kernel
theorem dX3_setUp_0 : decode cX3_setUp 0 = .ok (.aload_n 0, 1) := by decide +kernel
theorem dX3_setUp_1 : decode cX3_setUp 1 = .ok (.getfield 12, 3) := by decide +kernel
theorem dX3_setUp_4 : decode cX3_setUp 4 = .ok (.invokevirtual 38, 3) := by decide +kernel
theorem dX3_setUp_7 : decode cX3_setUp 7 = .ok (.iconst 0, 1) := by decide +kernel
theorem dX3_setUp_8 : decode cX3_setUp 8 = .ok (.istore_n 2, 1) := by decide +kernel
theorem dX3_setUp_9 : decode cX3_setUp 9 = .ok (.iload_n 2, 1) := by decide +kernel
theorem dX3_setUp_10 : decode cX3_setUp 10 = .ok (.aload_n 1, 1) := by decide +kernel
theorem dX3_setUp_11 : decode cX3_setUp 11 = .ok (.getfield 41, 3) := by decide +kernel
theorem dX3_setUp_14 : decode cX3_setUp 14 = .ok (.if_icmp .ge 22, 3) := by decide +kernel
theorem dX3_setUp_17 : decode cX3_setUp 17 = .ok (.aload_n 0, 1) := by decide +kernel
theorem dX3_setUp_18 : decode cX3_setUp 18 = .ok (.getfield 12, 3) := by decide +kernel
theorem dX3_setUp_21 : decode cX3_setUp 21 = .ok (.aload_n 1, 1) := by decide +kernel
theorem dX3_setUp_22 : decode cX3_setUp 22 = .ok (.getfield 46, 3) := by decide +kernel
theorem dX3_setUp_25 : decode cX3_setUp 25 = .ok (.iload_n 2, 1) := by decide +kernel
theorem dX3_setUp_26 : decode cX3_setUp 26 = .ok (.iaload, 1) := by decide +kernel
theorem dX3_setUp_27 : decode cX3_setUp 27 = .ok (.invokevirtual 49, 3) := by decide +kernel
theorem dX3_setUp_30 : decode cX3_setUp 30 = .ok (.iinc 2 1, 3) := by decide +kernel
theorem dX3_setUp_33 : decode cX3_setUp 33 = .ok (.goto (-24), 3) := by decide +kernel
theorem dX3_setUp_36 : decode cX3_setUp 36 = .ok (.aload_n 0, 1) := by decide +kernel
theorem dX3_setUp_37 : decode cX3_setUp 37 = .ok (.aload_n 1, 1) := by decide +kernel
theorem dX3_setUp_38 : decode cX3_setUp 38 = .ok (.getfield 53, 3) := by decide +kernel
theorem dX3_setUp_41 : decode cX3_setUp 41 = .ok (.putfield 32, 3) := by decide +kernel
theorem dX3_setUp_44 : decode cX3_setUp 44 = .ok (.aload_n 1, 1) := by decide +kernel
theorem dX3_setUp_45 : decode cX3_setUp 45 = .ok (.getfield 54, 3) := by decide +kernel
theorem dX3_setUp_48 : decode cX3_setUp 48 = .ok (.iconst 0, 1) := by decide +kernel
theorem dX3_setUp_49 : decode cX3_setUp 49 = .ok (.aload_n 0, 1) := by decide +kernel
theorem dX3_setUp_50 : decode cX3_setUp 50 = .ok (.getfield 18, 3) := by decide +kernel
theorem dX3_setUp_53 : decode cX3_setUp 53 = .ok (.iconst 0, 1) := by decide +kernel
theorem dX3_setUp_54 : decode cX3_setUp 54 = .ok (.iconst 3, 1) := by decide +kernel
theorem dX3_setUp_55 : decode cX3_setUp 55 = .ok (.invokestatic 55, 3) := by decide +kernel
theorem dX3_setUp_58 : decode cX3_setUp 58 = .ok (.aload_n 0, 1) := by decide +kernel
theorem dX3_setUp_59 : decode cX3_setUp 59 = .ok (.iconst 0, 1) := by decide +kernel
theorem dX3_setUp_60 : decode cX3_setUp 60 = .ok (.putfield 61, 3) := by decide +kernel
theorem dX3_setUp_63 : decode cX3_setUp 63 = .ok (.aload_n 0, 1) := by decide +kernel
theorem dX3_setUp_64 : decode cX3_setUp 64 = .ok (.iconst 0, 1) := by decide +kernel
theorem dX3_setUp_65 : decode cX3_setUp 65 = .ok (.putfield 35, 3) := by decide +kernel
theorem dX3_setUp_68 : decode cX3_setUp 68 = .ok (.return_, 1) := by decide +kernel
theorem dX3_takeAll_0 : decode cX3_takeAll 0 = .ok (.aload_n 0, 1) := by decide +kernel
theorem dX3_takeAll_1 : decode cX3_takeAll 1 = .ok (.getfield 12, 3) := by decide +kernel
theorem dX3_takeAll_4 : decode cX3_takeAll 4 = .ok (.aload_n 1, 1) := by decide +kernel
theorem dX3_takeAll_5 : decode cX3_takeAll 5 = .ok (.getfield 12, 3) := by decide +kernel
theorem dX3_takeAll_8 : decode cX3_takeAll 8 = .ok (.invokevirtual 64, 3) := by decide +kernel
theorem dX3_takeAll_11 : decode cX3_takeAll 11 = .ok (.aload_n 0, 1) := by decide +kernel
theorem dX3_takeAll_12 : decode cX3_takeAll 12 = .ok (.aload_n 1, 1) := by decide +kernel
theorem dX3_takeAll_13 : decode cX3_takeAll 13 = .ok (.getfield 32, 3) := by decide +kernel
theorem dX3_takeAll_16 : decode cX3_takeAll 16 = .ok (.putfield 32, 3) := by decide +kernel
theorem dX3_takeAll_19 : decode cX3_takeAll 19 = .ok (.aload_n 1, 1) := by decide +kernel
theorem dX3_takeAll_20 : decode cX3_takeAll 20 = .ok (.getfield 18, 3) := by decide +kernel
theorem dX3_takeAll_23 : decode cX3_takeAll 23 = .ok (.iconst 0, 1) := by decide +kernel
theorem dX3_takeAll_24 : decode cX3_takeAll 24 = .ok (.aload_n 0, 1) := by decide +kernel
theorem dX3_takeAll_25 : decode cX3_takeAll 25 = .ok (.getfield 18, 3) := by decide +kernel
theorem dX3_takeAll_28 : decode cX3_takeAll 28 = .ok (.iconst 0, 1) := by decide +kernel
theorem dX3_takeAll_29 : decode cX3_takeAll 29 = .ok (.iconst 3, 1) := by decide +kernel
theorem dX3_takeAll_30 : decode cX3_takeAll 30 = .ok (.invokestatic 55, 3) := by decide +kernel
theorem dX3_takeAll_33 : decode cX3_takeAll 33 = .ok (.aload_n 0, 1) := by decide +kernel
theorem dX3_takeAll_34 : decode cX3_takeAll 34 = .ok (.aload_n 1, 1) := by decide +kernel
theorem dX3_takeAll_35 : decode cX3_takeAll 35 = .ok (.getfield 61, 3) := by decide +kernel
theorem dX3_takeAll_38 : decode cX3_takeAll 38 = .ok (.putfield 61, 3) := by decide +kernel
theorem dX3_takeAll_41 : decode cX3_takeAll 41 = .ok (.aload_n 0, 1) := by decide +kernel
theorem dX3_takeAll_42 : decode cX3_takeAll 42 = .ok (.aload_n 1, 1) := by decide +kernel
theorem dX3_takeAll_43 : decode cX3_takeAll 43 = .ok (.getfield 35, 3) := by decide +kernel
theorem dX3_takeAll_46 : decode cX3_takeAll 46 = .ok (.putfield 35, 3) := by decide +kernel
theorem dX3_takeAll_49 : decode cX3_takeAll 49 = .ok (.aload_n 1, 1) := by decide +kernel
theorem dX3_takeAll_50 : decode cX3_takeAll 50 = .ok (.getfield 22, 3) := by decide +kernel
theorem dX3_takeAll_53 : decode cX3_takeAll 53 = .ok (.iconst 0, 1) := by decide +kernel
theorem dX3_takeAll_54 : decode cX3_takeAll 54 = .ok (.aload_n 0, 1) := by decide +kernel
theorem dX3_takeAll_55 : decode cX3_takeAll 55 = .ok (.getfield 22, 3) := by decide +kernel
theorem dX3_takeAll_58 : decode cX3_takeAll 58 = .ok (.iconst 0, 1) := by decide +kernel
theorem dX3_takeAll_59 : decode cX3_takeAll 59 = .ok (.bipush 6, 2) := by decide +kernel
theorem dX3_takeAll_61 : decode cX3_takeAll 61 = .ok (.invokestatic 55, 3) := by decide +kernel
theorem dX3_takeAll_64 : decode cX3_takeAll 64 = .ok (.aload_n 1, 1) := by decide +kernel
theorem dX3_takeAll_65 : decode cX3_takeAll 65 = .ok (.getfield 25, 3) := by decide +kernel
theorem dX3_takeAll_68 : decode cX3_takeAll 68 = .ok (.iconst 0, 1) := by decide +kernel
theorem dX3_takeAll_69 : decode cX3_takeAll 69 = .ok (.aload_n 0, 1) := by decide +kernel
theorem dX3_takeAll_70 : decode cX3_takeAll 70 = .ok (.getfield 25, 3) := by decide +kernel
theorem dX3_takeAll_73 : decode cX3_takeAll 73 = .ok (.iconst 0, 1) := by decide +kernel
theorem dX3_takeAll_74 : decode cX3_takeAll 74 = .ok (.bipush 6, 2) := by decide +kernel
theorem dX3_takeAll_76 : decode cX3_takeAll 76 = .ok (.invokestatic 55, 3) := by decide +kernel
theorem dX3_takeAll_79 : decode cX3_takeAll 79 = .ok (.return_, 1) := by decide +kernel
theorem dX4_init_0 : decode cX4_init 0 = .ok (.aload_n 0, 1) := by decide +kernel
theorem dX4_init_1 : decode cX4_init 1 = .ok (.invokespecial 3, 3) := by decide +kernel
theorem dX4_init_4 : decode cX4_init 4 = .ok (.new 9, 3) := by decide +kernel
theorem dX4_init_7 : decode cX4_init 7 = .ok (.dup, 1) := by decide +kernel
theorem dX4_init_8 : decode cX4_init 8 = .ok (.invokespecial 11, 3) := by decide +kernel
theorem dX4_init_11 : decode cX4_init 11 = .ok (.astore_n 1, 1) := by decide +kernel
theorem dX4_init_12 : decode cX4_init 12 = .ok (.aload_n 0, 1) := by decide +kernel
theorem dX4_init_13 : decode cX4_init 13 = .ok (.new 12, 3) := by decide +kernel
theorem dX4_init_16 : decode cX4_init 16 = .ok (.dup, 1) := by decide +kernel
theorem dX4_init_17 : decode cX4_init 17 = .ok (.invokespecial 14, 3) := by decide +kernel
theorem dX4_init_20 : decode cX4_init 20 = .ok (.putfield 15, 3) := by decide +kernel
theorem dX4_init_23 : decode cX4_init 23 = .ok (.aload_n 0, 1) := by decide +kernel
theorem dX4_init_24 : decode cX4_init 24 = .ok (.aload_n 1, 1) := by decide +kernel
theorem dX4_init_25 : decode cX4_init 25 = .ok (.putfield 19, 3) := by decide +kernel
theorem dX4_init_28 : decode cX4_init 28 = .ok (.aload_n 0, 1) := by decide +kernel
theorem dX4_init_29 : decode cX4_init 29 = .ok (.new 9, 3) := by decide +kernel
theorem dX4_init_32 : decode cX4_init 32 = .ok (.dup, 1) := by decide +kernel
theorem dX4_init_33 : decode cX4_init 33 = .ok (.invokespecial 11, 3) := by decide +kernel
theorem dX4_init_36 : decode cX4_init 36 = .ok (.putfield 23, 3) := by decide +kernel
theorem dX4_init_39 : decode cX4_init 39 = .ok (.aload_n 0, 1) := by decide +kernel
theorem dX4_init_40 : decode cX4_init 40 = .ok (.new 26, 3) := by decide +kernel
theorem dX4_init_43 : decode cX4_init 43 = .ok (.dup, 1) := by decide +kernel
theorem dX4_init_44 : decode cX4_init 44 = .ok (.aload_n 1, 1) := by decide +kernel
theorem dX4_init_45 : decode cX4_init 45 = .ok (.invokespecial 28, 3) := by decide +kernel
theorem dX4_init_48 : decode cX4_init 48 = .ok (.putfield 31, 3) := by decide +kernel
theorem dX4_init_51 : decode cX4_init 51 = .ok (.return_, 1) := by decide +kernel
theorem dX4_letter_0 : decode cX4_letter 0 = .ok (.iload_n 1, 1) := by decide +kernel
theorem dX4_letter_1 : decode cX4_letter 1 = .ok (.bipush 32, 2) := by decide +kernel
theorem dX4_letter_3 : decode cX4_letter 3 = .ok (.if_icmp .lt 9, 3) := by decide +kernel
theorem dX4_letter_6 : decode cX4_letter 6 = .ok (.iload_n 1, 1) := by decide +kernel
theorem dX4_letter_7 : decode cX4_letter 7 = .ok (.bipush 126, 2) := by decide +kernel
theorem dX4_letter_9 : decode cX4_letter 9 = .ok (.if_icmp .le 6, 3) := by decide +kernel
theorem dX4_letter_12 : decode cX4_letter 12 = .ok (.bipush (-102), 2) := by decide +kernel
theorem dX4_letter_14 : decode cX4_letter 14 = .ok (.ireturn, 1) := by decide +kernel
theorem dX4_letter_15 : decode cX4_letter 15 = .ok (.aload_n 0, 1) := by decide +kernel
theorem dX4_letter_16 : decode cX4_letter 16 = .ok (.getfield 15, 3) := by decide +kernel
theorem dX4_letter_19 : decode cX4_letter 19 = .ok (.iload_n 1, 1) := by decide +kernel
theorem dX4_letter_20 : decode cX4_letter 20 = .ok (.invokevirtual 35, 3) := by decide +kernel
theorem dX4_letter_23 : decode cX4_letter 23 = .ok (.ifCond .eq 13, 3) := by decide +kernel
theorem dX4_letter_26 : decode cX4_letter 26 = .ok (.aload_n 0, 1) := by decide +kernel
theorem dX4_letter_27 : decode cX4_letter 27 = .ok (.getfield 15, 3) := by decide +kernel
theorem dX4_letter_30 : decode cX4_letter 30 = .ok (.getfield 39, 3) := by decide +kernel
theorem dX4_letter_33 : decode cX4_letter 33 = .ok (.goto 5, 3) := by decide +kernel
theorem dX4_letter_36 : decode cX4_letter 36 = .ok (.bipush (-104), 2) := by decide +kernel
theorem dX4_letter_38 : decode cX4_letter 38 = .ok (.ireturn, 1) := by decide +kernel
theorem dX4_blank_0 : decode cX4_blank 0 = .ok (.aload_n 0, 1) := by decide +kernel
theorem dX4_blank_1 : decode cX4_blank 1 = .ok (.getfield 15, 3) := by decide +kernel
theorem dX4_blank_4 : decode cX4_blank 4 = .ok (.getfield 39, 3) := by decide +kernel
theorem dX4_blank_7 : decode cX4_blank 7 = .ok (.istore_n 1, 1) := by decide +kernel
theorem dX4_blank_8 : decode cX4_blank 8 = .ok (.aload_n 0, 1) := by decide +kernel
theorem dX4_blank_9 : decode cX4_blank 9 = .ok (.getfield 15, 3) := by decide +kernel
theorem dX4_blank_12 : decode cX4_blank 12 = .ok (.iconst 0, 1) := by decide +kernel
theorem dX4_blank_13 : decode cX4_blank 13 = .ok (.putfield 39, 3) := by decide +kernel
theorem dX4_blank_16 : decode cX4_blank 16 = .ok (.iload_n 1, 1) := by decide +kernel
theorem dX4_blank_17 : decode cX4_blank 17 = .ok (.ireturn, 1) := by decide +kernel
theorem dX4_fault_0 : decode cX4_fault 0 = .ok (.aload_n 0, 1) := by decide +kernel
theorem dX4_fault_1 : decode cX4_fault 1 = .ok (.getfield 15, 3) := by decide +kernel
theorem dX4_fault_4 : decode cX4_fault 4 = .ok (.invokevirtual 43, 3) := by decide +kernel
theorem dX4_fault_7 : decode cX4_fault 7 = .ok (.ireturn, 1) := by decide +kernel
theorem dX4_ring_0 : decode cX4_ring 0 = .ok (.aload_n 0, 1) := by decide +kernel
theorem dX4_ring_1 : decode cX4_ring 1 = .ok (.getfield 15, 3) := by decide +kernel
theorem dX4_ring_4 : decode cX4_ring 4 = .ok (.invokevirtual 47, 3) := by decide +kernel
theorem dX4_ring_7 : decode cX4_ring 7 = .ok (.ifCond .ne 6, 3) := by decide +kernel
theorem dX4_ring_10 : decode cX4_ring 10 = .ok (.bipush (-103), 2) := by decide +kernel
theorem dX4_ring_12 : decode cX4_ring 12 = .ok (.ireturn, 1) := by decide +kernel
theorem dX4_ring_13 : decode cX4_ring 13 = .ok (.aload_n 0, 1) := by decide +kernel
theorem dX4_ring_14 : decode cX4_ring 14 = .ok (.getfield 19, 3) := by decide +kernel
theorem dX4_ring_17 : decode cX4_ring 17 = .ok (.aload_n 0, 1) := by decide +kernel
theorem dX4_ring_18 : decode cX4_ring 18 = .ok (.getfield 15, 3) := by decide +kernel
theorem dX4_ring_21 : decode cX4_ring 21 = .ok (.invokevirtual 51, 3) := by decide +kernel
theorem dX4_ring_24 : decode cX4_ring 24 = .ok (.aload_n 0, 1) := by decide +kernel
theorem dX4_ring_25 : decode cX4_ring 25 = .ok (.getfield 15, 3) := by decide +kernel
theorem dX4_ring_28 : decode cX4_ring 28 = .ok (.iconst 0, 1) := by decide +kernel
theorem dX4_ring_29 : decode cX4_ring 29 = .ok (.putfield 39, 3) := by decide +kernel
theorem dX4_ring_32 : decode cX4_ring 32 = .ok (.aload_n 0, 1) := by decide +kernel
theorem dX4_ring_33 : decode cX4_ring 33 = .ok (.iconst 0, 1) := by decide +kernel
theorem dX4_ring_34 : decode cX4_ring 34 = .ok (.putfield 55, 3) := by decide +kernel
theorem dX4_ring_37 : decode cX4_ring 37 = .ok (.aload_n 0, 1) := by decide +kernel
theorem dX4_ring_38 : decode cX4_ring 38 = .ok (.dup, 1) := by decide +kernel
theorem dX4_ring_39 : decode cX4_ring 39 = .ok (.getfield 59, 3) := by decide +kernel
theorem dX4_ring_42 : decode cX4_ring 42 = .ok (.iconst 1, 1) := by decide +kernel
theorem dX4_ring_43 : decode cX4_ring 43 = .ok (.iadd, 1) := by decide +kernel
theorem dX4_ring_44 : decode cX4_ring 44 = .ok (.putfield 59, 3) := by decide +kernel
theorem dX4_ring_47 : decode cX4_ring 47 = .ok (.aload_n 0, 1) := by decide +kernel
theorem dX4_ring_48 : decode cX4_ring 48 = .ok (.getfield 19, 3) := by decide +kernel
theorem dX4_ring_51 : decode cX4_ring 51 = .ok (.getfield 62, 3) := by decide +kernel
theorem dX4_ring_54 : decode cX4_ring 54 = .ok (.getfield 66, 3) := by decide +kernel
theorem dX4_ring_57 : decode cX4_ring 57 = .ok (.ireturn, 1) := by decide +kernel
theorem dX4_child_0 : decode cX4_child 0 = .ok (.aload_n 0, 1) := by decide +kernel
theorem dX4_child_1 : decode cX4_child 1 = .ok (.getfield 19, 3) := by decide +kernel
theorem dX4_child_4 : decode cX4_child 4 = .ok (.iload_n 1, 1) := by decide +kernel
theorem dX4_child_5 : decode cX4_child 5 = .ok (.invokevirtual 69, 3) := by decide +kernel
theorem dX4_child_8 : decode cX4_child 8 = .ok (.ifCond .ne 6, 3) := by decide +kernel
theorem dX4_child_11 : decode cX4_child 11 = .ok (.bipush (-101), 2) := by decide +kernel
theorem dX4_child_13 : decode cX4_child 13 = .ok (.ireturn, 1) := by decide +kernel
theorem dX4_child_14 : decode cX4_child 14 = .ok (.aload_n 0, 1) := by decide +kernel
theorem dX4_child_15 : decode cX4_child 15 = .ok (.getfield 19, 3) := by decide +kernel
theorem dX4_child_18 : decode cX4_child 18 = .ok (.getfield 62, 3) := by decide +kernel
theorem dX4_child_21 : decode cX4_child 21 = .ok (.astore_n 3, 1) := by decide +kernel
theorem dX4_child_22 : decode cX4_child 22 = .ok (.iload_n 2, 1) := by decide +kernel
theorem dX4_child_23 : decode cX4_child 23 = .ok (.tableswitch 100 0 5 #[37, 43, 57, 71, 77, 86], 37) := by decide +kernel
theorem dX4_child_60 : decode cX4_child 60 = .ok (.aload_n 3, 1) := by decide +kernel
theorem dX4_child_61 : decode cX4_child 61 = .ok (.iload_n 1, 1) := by decide +kernel
theorem dX4_child_62 : decode cX4_child 62 = .ok (.invokevirtual 72, 3) := by decide +kernel
theorem dX4_child_65 : decode cX4_child 65 = .ok (.ireturn, 1) := by decide +kernel
theorem dX4_child_66 : decode cX4_child 66 = .ok (.aload_n 3, 1) := by decide +kernel
theorem dX4_child_67 : decode cX4_child 67 = .ok (.iload_n 1, 1) := by decide +kernel
theorem dX4_child_68 : decode cX4_child 68 = .ok (.invokevirtual 76, 3) := by decide +kernel
theorem dX4_child_71 : decode cX4_child 71 = .ok (.ifCond .eq 7, 3) := by decide +kernel
theorem dX4_child_74 : decode cX4_child 74 = .ok (.iconst 1, 1) := by decide +kernel
theorem dX4_child_75 : decode cX4_child 75 = .ok (.goto 4, 3) := by decide +kernel
theorem dX4_child_78 : decode cX4_child 78 = .ok (.iconst 0, 1) := by decide +kernel
theorem dX4_child_79 : decode cX4_child 79 = .ok (.ireturn, 1) := by decide +kernel
theorem dX4_child_80 : decode cX4_child 80 = .ok (.aload_n 3, 1) := by decide +kernel
theorem dX4_child_81 : decode cX4_child 81 = .ok (.iload_n 1, 1) := by decide +kernel
theorem dX4_child_82 : decode cX4_child 82 = .ok (.invokevirtual 79, 3) := by decide +kernel
theorem dX4_child_85 : decode cX4_child 85 = .ok (.ifCond .eq 7, 3) := by decide +kernel
theorem dX4_child_88 : decode cX4_child 88 = .ok (.iconst 1, 1) := by decide +kernel
theorem dX4_child_89 : decode cX4_child 89 = .ok (.goto 4, 3) := by decide +kernel
theorem dX4_child_92 : decode cX4_child 92 = .ok (.iconst 0, 1) := by decide +kernel
theorem dX4_child_93 : decode cX4_child 93 = .ok (.ireturn, 1) := by decide +kernel
theorem dX4_child_94 : decode cX4_child 94 = .ok (.aload_n 3, 1) := by decide +kernel
theorem dX4_child_95 : decode cX4_child 95 = .ok (.iload_n 1, 1) := by decide +kernel
theorem dX4_child_96 : decode cX4_child 96 = .ok (.invokevirtual 82, 3) := by decide +kernel
theorem dX4_child_99 : decode cX4_child 99 = .ok (.ireturn, 1) := by decide +kernel
theorem dX4_child_100 : decode cX4_child 100 = .ok (.aload_n 0, 1) := by decide +kernel
theorem dX4_child_101 : decode cX4_child 101 = .ok (.getfield 31, 3) := by decide +kernel
theorem dX4_child_104 : decode cX4_child 104 = .ok (.iload_n 1, 1) := by decide +kernel
theorem dX4_child_105 : decode cX4_child 105 = .ok (.invokevirtual 85, 3) := by decide +kernel
theorem dX4_child_108 : decode cX4_child 108 = .ok (.ireturn, 1) := by decide +kernel
theorem dX4_child_109 : decode cX4_child 109 = .ok (.aload_n 3, 1) := by decide +kernel
theorem dX4_child_110 : decode cX4_child 110 = .ok (.getfield 88, 3) := by decide +kernel
theorem dX4_child_113 : decode cX4_child 113 = .ok (.iload_n 1, 1) := by decide +kernel
theorem dX4_child_114 : decode cX4_child 114 = .ok (.if_icmp .ne 7, 3) := by decide +kernel
theorem dX4_child_117 : decode cX4_child 117 = .ok (.iconst 1, 1) := by decide +kernel
theorem dX4_child_118 : decode cX4_child 118 = .ok (.goto 4, 3) := by decide +kernel
theorem dX4_child_121 : decode cX4_child 121 = .ok (.iconst 0, 1) := by decide +kernel
theorem dX4_child_122 : decode cX4_child 122 = .ok (.ireturn, 1) := by decide +kernel
theorem dX4_child_123 : decode cX4_child 123 = .ok (.bipush (-102), 2) := by decide +kernel
theorem dX4_child_125 : decode cX4_child 125 = .ok (.ireturn, 1) := by decide +kernel
theorem dX4_as_0 : decode cX4_as 0 = .ok (.aload_n 0, 1) := by decide +kernel
theorem dX4_as_1 : decode cX4_as 1 = .ok (.getfield 19, 3) := by decide +kernel
theorem dX4_as_4 : decode cX4_as 4 = .ok (.iload_n 1, 1) := by decide +kernel
theorem dX4_as_5 : decode cX4_as 5 = .ok (.invokevirtual 69, 3) := by decide +kernel
theorem dX4_as_8 : decode cX4_as 8 = .ok (.ifCond .ne 6, 3) := by decide +kernel
theorem dX4_as_11 : decode cX4_as 11 = .ok (.bipush (-101), 2) := by decide +kernel
theorem dX4_as_13 : decode cX4_as 13 = .ok (.ireturn, 1) := by decide +kernel
theorem dX4_as_14 : decode cX4_as 14 = .ok (.iload_n 2, 1) := by decide +kernel
theorem dX4_as_15 : decode cX4_as 15 = .ok (.invokestatic 91, 3) := by decide +kernel
theorem dX4_as_18 : decode cX4_as 18 = .ok (.ifCond .ne 6, 3) := by decide +kernel
theorem dX4_as_21 : decode cX4_as 21 = .ok (.bipush (-102), 2) := by decide +kernel
theorem dX4_as_23 : decode cX4_as 23 = .ok (.ireturn, 1) := by decide +kernel
theorem dX4_as_24 : decode cX4_as 24 = .ok (.aload_n 0, 1) := by decide +kernel
theorem dX4_as_25 : decode cX4_as 25 = .ok (.getfield 19, 3) := by decide +kernel
theorem dX4_as_28 : decode cX4_as 28 = .ok (.getfield 62, 3) := by decide +kernel
theorem dX4_as_31 : decode cX4_as 31 = .ok (.iload_n 1, 1) := by decide +kernel
theorem dX4_as_32 : decode cX4_as 32 = .ok (.invokevirtual 72, 3) := by decide +kernel
theorem dX4_as_35 : decode cX4_as 35 = .ok (.istore_n 3, 1) := by decide +kernel
theorem dX4_as_36 : decode cX4_as 36 = .ok (.iload_n 2, 1) := by decide +kernel
theorem dX4_as_37 : decode cX4_as 37 = .ok (.ifCond .eq 18, 3) := by decide +kernel
theorem dX4_as_40 : decode cX4_as 40 = .ok (.iload_n 2, 1) := by decide +kernel
theorem dX4_as_41 : decode cX4_as 41 = .ok (.iload_n 3, 1) := by decide +kernel
theorem dX4_as_42 : decode cX4_as 42 = .ok (.if_icmp .eq 13, 3) := by decide +kernel
theorem dX4_as_45 : decode cX4_as 45 = .ok (.iload_n 2, 1) := by decide +kernel
theorem dX4_as_46 : decode cX4_as 46 = .ok (.iconst 3, 1) := by decide +kernel
theorem dX4_as_47 : decode cX4_as 47 = .ok (.if_icmp .ne 12, 3) := by decide +kernel
theorem dX4_as_50 : decode cX4_as 50 = .ok (.iload_n 3, 1) := by decide +kernel
theorem dX4_as_51 : decode cX4_as 51 = .ok (.iconst 4, 1) := by decide +kernel
theorem dX4_as_52 : decode cX4_as 52 = .ok (.if_icmp .ne 7, 3) := by decide +kernel
theorem dX4_as_55 : decode cX4_as 55 = .ok (.iconst 1, 1) := by decide +kernel
theorem dX4_as_56 : decode cX4_as 56 = .ok (.goto 4, 3) := by decide +kernel
theorem dX4_as_59 : decode cX4_as 59 = .ok (.iconst 0, 1) := by decide +kernel
theorem dX4_as_60 : decode cX4_as 60 = .ok (.istore 4, 2) := by decide +kernel
theorem dX4_as_62 : decode cX4_as 62 = .ok (.iload 4, 2) := by decide +kernel
theorem dX4_as_64 : decode cX4_as 64 = .ok (.ifCond .eq 7, 3) := by decide +kernel
theorem dX4_as_67 : decode cX4_as 67 = .ok (.iload_n 1, 1) := by decide +kernel
theorem dX4_as_68 : decode cX4_as 68 = .ok (.goto 4, 3) := by decide +kernel
theorem dX4_as_71 : decode cX4_as 71 = .ok (.iconst (-1), 1) := by decide +kernel
theorem dX4_as_72 : decode cX4_as 72 = .ok (.ireturn, 1) := by decide +kernel
theorem dX4_verse_0 : decode cX4_verse 0 = .ok (.aload_n 0, 1) := by decide +kernel
theorem dX4_verse_1 : decode cX4_verse 1 = .ok (.getfield 19, 3) := by decide +kernel
theorem dX4_verse_4 : decode cX4_verse 4 = .ok (.iload_n 1, 1) := by decide +kernel
theorem dX4_verse_5 : decode cX4_verse 5 = .ok (.invokevirtual 94, 3) := by decide +kernel
theorem dX4_verse_8 : decode cX4_verse 8 = .ok (.ifCond .ne 6, 3) := by decide +kernel
theorem dX4_verse_11 : decode cX4_verse 11 = .ok (.bipush (-101), 2) := by decide +kernel
theorem dX4_verse_13 : decode cX4_verse 13 = .ok (.ireturn, 1) := by decide +kernel
theorem dX4_verse_14 : decode cX4_verse 14 = .ok (.aload_n 0, 1) := by decide +kernel
theorem dX4_verse_15 : decode cX4_verse 15 = .ok (.getfield 19, 3) := by decide +kernel
theorem dX4_verse_18 : decode cX4_verse 18 = .ok (.getfield 97, 3) := by decide +kernel
theorem dX4_verse_21 : decode cX4_verse 21 = .ok (.iload_n 1, 1) := by decide +kernel
theorem dX4_verse_22 : decode cX4_verse 22 = .ok (.iaload, 1) := by decide +kernel
theorem dX4_verse_23 : decode cX4_verse 23 = .ok (.istore_n 3, 1) := by decide +kernel
theorem dX4_verse_24 : decode cX4_verse 24 = .ok (.iload_n 2, 1) := by decide +kernel
theorem dX4_verse_25 : decode cX4_verse 25 = .ok (.tableswitch 57 0 2 #[27, 29, 48], 27) := by decide +kernel
theorem dX4_verse_52 : decode cX4_verse 52 = .ok (.iload_n 3, 1) := by decide +kernel
theorem dX4_verse_53 : decode cX4_verse 53 = .ok (.ireturn, 1) := by decide +kernel
theorem dX4_verse_54 : decode cX4_verse 54 = .ok (.aload_n 0, 1) := by decide +kernel
theorem dX4_verse_55 : decode cX4_verse 55 = .ok (.getfield 31, 3) := by decide +kernel
theorem dX4_verse_58 : decode cX4_verse 58 = .ok (.aload_n 0, 1) := by decide +kernel
theorem dX4_verse_59 : decode cX4_verse 59 = .ok (.getfield 19, 3) := by decide +kernel
theorem dX4_verse_62 : decode cX4_verse 62 = .ok (.getfield 62, 3) := by decide +kernel
theorem dX4_verse_65 : decode cX4_verse 65 = .ok (.getfield 88, 3) := by decide +kernel
theorem dX4_verse_68 : decode cX4_verse 68 = .ok (.iload_n 3, 1) := by decide +kernel
theorem dX4_verse_69 : decode cX4_verse 69 = .ok (.invokevirtual 101, 3) := by decide +kernel
theorem dX4_verse_72 : decode cX4_verse 72 = .ok (.ireturn, 1) := by decide +kernel
theorem dX4_verse_73 : decode cX4_verse 73 = .ok (.aload_n 0, 1) := by decide +kernel
theorem dX4_verse_74 : decode cX4_verse 74 = .ok (.getfield 31, 3) := by decide +kernel
theorem dX4_verse_77 : decode cX4_verse 77 = .ok (.iload_n 3, 1) := by decide +kernel
theorem dX4_verse_78 : decode cX4_verse 78 = .ok (.invokevirtual 105, 3) := by decide +kernel
theorem dX4_verse_81 : decode cX4_verse 81 = .ok (.ireturn, 1) := by decide +kernel
theorem dX4_verse_82 : decode cX4_verse 82 = .ok (.bipush (-102), 2) := by decide +kernel
theorem dX4_verse_84 : decode cX4_verse 84 = .ok (.ireturn, 1) := by decide +kernel
theorem dX4_say_0 : decode cX4_say 0 = .ok (.aload_n 0, 1) := by decide +kernel
theorem dX4_say_1 : decode cX4_say 1 = .ok (.getfield 19, 3) := by decide +kernel
theorem dX4_say_4 : decode cX4_say 4 = .ok (.iload_n 1, 1) := by decide +kernel
theorem dX4_say_5 : decode cX4_say 5 = .ok (.invokevirtual 94, 3) := by decide +kernel
theorem dX4_say_8 : decode cX4_say 8 = .ok (.ifCond .ne 6, 3) := by decide +kernel
theorem dX4_say_11 : decode cX4_say 11 = .ok (.bipush (-101), 2) := by decide +kernel
theorem dX4_say_13 : decode cX4_say 13 = .ok (.ireturn, 1) := by decide +kernel
theorem dX4_say_14 : decode cX4_say 14 = .ok (.aload_n 0, 1) := by decide +kernel
theorem dX4_say_15 : decode cX4_say 15 = .ok (.getfield 19, 3) := by decide +kernel
theorem dX4_say_18 : decode cX4_say 18 = .ok (.getfield 62, 3) := by decide +kernel
theorem dX4_say_21 : decode cX4_say 21 = .ok (.invokevirtual 108, 3) := by decide +kernel
theorem dX4_say_24 : decode cX4_say 24 = .ok (.ifCond .ne 6, 3) := by decide +kernel
theorem dX4_say_27 : decode cX4_say 27 = .ok (.bipush (-103), 2) := by decide +kernel
theorem dX4_say_29 : decode cX4_say 29 = .ok (.ireturn, 1) := by decide +kernel
theorem dX4_say_30 : decode cX4_say 30 = .ok (.aload_n 0, 1) := by decide +kernel
theorem dX4_say_31 : decode cX4_say 31 = .ok (.getfield 19, 3) := by decide +kernel
theorem dX4_say_34 : decode cX4_say 34 = .ok (.getfield 111, 3) := by decide +kernel
theorem dX4_say_37 : decode cX4_say 37 = .ok (.sipush 999, 3) := by decide +kernel
theorem dX4_say_40 : decode cX4_say 40 = .ok (.if_icmp .lt 6, 3) := by decide +kernel
theorem dX4_say_43 : decode cX4_say 43 = .ok (.bipush (-104), 2) := by decide +kernel
theorem dX4_say_45 : decode cX4_say 45 = .ok (.ireturn, 1) := by decide +kernel
theorem dX4_say_46 : decode cX4_say 46 = .ok (.aload_n 0, 1) := by decide +kernel
theorem dX4_say_47 : decode cX4_say 47 = .ok (.getfield 19, 3) := by decide +kernel
theorem dX4_say_50 : decode cX4_say 50 = .ok (.dup, 1) := by decide +kernel
theorem dX4_say_51 : decode cX4_say 51 = .ok (.getfield 111, 3) := by decide +kernel
theorem dX4_say_54 : decode cX4_say 54 = .ok (.iconst 1, 1) := by decide +kernel
theorem dX4_say_55 : decode cX4_say 55 = .ok (.iadd, 1) := by decide +kernel
theorem dX4_say_56 : decode cX4_say 56 = .ok (.putfield 111, 3) := by decide +kernel
theorem dX4_say_59 : decode cX4_say 59 = .ok (.aload_n 0, 1) := by decide +kernel
theorem dX4_say_60 : decode cX4_say 60 = .ok (.getfield 19, 3) := by decide +kernel
theorem dX4_say_63 : decode cX4_say 63 = .ok (.getfield 62, 3) := by decide +kernel
theorem dX4_say_66 : decode cX4_say 66 = .ok (.aload_n 0, 1) := by decide +kernel
theorem dX4_say_67 : decode cX4_say 67 = .ok (.getfield 19, 3) := by decide +kernel
theorem dX4_say_70 : decode cX4_say 70 = .ok (.getfield 97, 3) := by decide +kernel
theorem dX4_say_73 : decode cX4_say 73 = .ok (.iload_n 1, 1) := by decide +kernel
theorem dX4_say_74 : decode cX4_say 74 = .ok (.iaload, 1) := by decide +kernel
theorem dX4_say_75 : decode cX4_say 75 = .ok (.invokevirtual 114, 3) := by decide +kernel
theorem dX4_say_78 : decode cX4_say 78 = .ok (.ireturn, 1) := by decide +kernel
theorem dX4_back_0 : decode cX4_back 0 = .ok (.aload_n 0, 1) := by decide +kernel
theorem dX4_back_1 : decode cX4_back 1 = .ok (.getfield 19, 3) := by decide +kernel
theorem dX4_back_4 : decode cX4_back 4 = .ok (.iload_n 1, 1) := by decide +kernel
theorem dX4_back_5 : decode cX4_back 5 = .ok (.invokevirtual 69, 3) := by decide +kernel
theorem dX4_back_8 : decode cX4_back 8 = .ok (.ifCond .ne 6, 3) := by decide +kernel
theorem dX4_back_11 : decode cX4_back 11 = .ok (.bipush (-101), 2) := by decide +kernel
theorem dX4_back_13 : decode cX4_back 13 = .ok (.ireturn, 1) := by decide +kernel
theorem dX4_back_14 : decode cX4_back 14 = .ok (.aload_n 0, 1) := by decide +kernel
theorem dX4_back_15 : decode cX4_back 15 = .ok (.getfield 19, 3) := by decide +kernel
theorem dX4_back_18 : decode cX4_back 18 = .ok (.getfield 62, 3) := by decide +kernel
theorem dX4_back_21 : decode cX4_back 21 = .ok (.iload_n 1, 1) := by decide +kernel
theorem dX4_back_22 : decode cX4_back 22 = .ok (.invokevirtual 76, 3) := by decide +kernel
theorem dX4_back_25 : decode cX4_back 25 = .ok (.ifCond .eq 6, 3) := by decide +kernel
theorem dX4_back_28 : decode cX4_back 28 = .ok (.bipush (-103), 2) := by decide +kernel
theorem dX4_back_30 : decode cX4_back 30 = .ok (.ireturn, 1) := by decide +kernel
theorem dX4_back_31 : decode cX4_back 31 = .ok (.aload_n 0, 1) := by decide +kernel
theorem dX4_back_32 : decode cX4_back 32 = .ok (.getfield 19, 3) := by decide +kernel
theorem dX4_back_35 : decode cX4_back 35 = .ok (.getfield 62, 3) := by decide +kernel
theorem dX4_back_38 : decode cX4_back 38 = .ok (.dup, 1) := by decide +kernel
theorem dX4_back_39 : decode cX4_back 39 = .ok (.getfield 117, 3) := by decide +kernel
theorem dX4_back_42 : decode cX4_back 42 = .ok (.iconst 1, 1) := by decide +kernel
theorem dX4_back_43 : decode cX4_back 43 = .ok (.iload_n 1, 1) := by decide +kernel
theorem dX4_back_44 : decode cX4_back 44 = .ok (.ishl, 1) := by decide +kernel
theorem dX4_back_45 : decode cX4_back 45 = .ok (.ior, 1) := by decide +kernel
theorem dX4_back_46 : decode cX4_back 46 = .ok (.putfield 117, 3) := by decide +kernel
theorem dX4_back_49 : decode cX4_back 49 = .ok (.aload_n 0, 1) := by decide +kernel
theorem dX4_back_50 : decode cX4_back 50 = .ok (.getfield 19, 3) := by decide +kernel
theorem dX4_back_53 : decode cX4_back 53 = .ok (.getfield 62, 3) := by decide +kernel
theorem dX4_back_56 : decode cX4_back 56 = .ok (.invokevirtual 120, 3) := by decide +kernel
theorem dX4_back_59 : decode cX4_back 59 = .ok (.ireturn, 1) := by decide +kernel
theorem dX4_first_0 : decode cX4_first 0 = .ok (.aload_n 0, 1) := by decide +kernel
theorem dX4_first_1 : decode cX4_first 1 = .ok (.getfield 19, 3) := by decide +kernel
theorem dX4_first_4 : decode cX4_first 4 = .ok (.iload_n 1, 1) := by decide +kernel
theorem dX4_first_5 : decode cX4_first 5 = .ok (.invokevirtual 69, 3) := by decide +kernel
theorem dX4_first_8 : decode cX4_first 8 = .ok (.ifCond .ne 6, 3) := by decide +kernel
theorem dX4_first_11 : decode cX4_first 11 = .ok (.bipush (-101), 2) := by decide +kernel
theorem dX4_first_13 : decode cX4_first 13 = .ok (.ireturn, 1) := by decide +kernel
theorem dX4_first_14 : decode cX4_first 14 = .ok (.aload_n 0, 1) := by decide +kernel
theorem dX4_first_15 : decode cX4_first 15 = .ok (.getfield 19, 3) := by decide +kernel
theorem dX4_first_18 : decode cX4_first 18 = .ok (.getfield 62, 3) := by decide +kernel
theorem dX4_first_21 : decode cX4_first 21 = .ok (.getfield 88, 3) := by decide +kernel
theorem dX4_first_24 : decode cX4_first 24 = .ok (.istore_n 2, 1) := by decide +kernel
theorem dX4_first_25 : decode cX4_first 25 = .ok (.aload_n 0, 1) := by decide +kernel
theorem dX4_first_26 : decode cX4_first 26 = .ok (.getfield 19, 3) := by decide +kernel
theorem dX4_first_29 : decode cX4_first 29 = .ok (.getfield 62, 3) := by decide +kernel
theorem dX4_first_32 : decode cX4_first 32 = .ok (.iload_n 1, 1) := by decide +kernel
theorem dX4_first_33 : decode cX4_first 33 = .ok (.putfield 88, 3) := by decide +kernel
theorem dX4_first_36 : decode cX4_first 36 = .ok (.iload_n 2, 1) := by decide +kernel
theorem dX4_first_37 : decode cX4_first 37 = .ok (.ireturn, 1) := by decide +kernel
theorem dX4_turn_0 : decode cX4_turn 0 = .ok (.aload_n 0, 1) := by decide +kernel
theorem dX4_turn_1 : decode cX4_turn 1 = .ok (.getfield 19, 3) := by decide +kernel
theorem dX4_turn_4 : decode cX4_turn 4 = .ok (.invokevirtual 123, 3) := by decide +kernel
theorem dX4_turn_7 : decode cX4_turn 7 = .ok (.ifCond .ne 6, 3) := by decide +kernel
theorem dX4_turn_10 : decode cX4_turn 10 = .ok (.bipush (-103), 2) := by decide +kernel
theorem dX4_turn_12 : decode cX4_turn 12 = .ok (.ireturn, 1) := by decide +kernel
theorem dX4_turn_13 : decode cX4_turn 13 = .ok (.aload_n 0, 1) := by decide +kernel
theorem dX4_turn_14 : decode cX4_turn 14 = .ok (.getfield 19, 3) := by decide +kernel
theorem dX4_turn_17 : decode cX4_turn 17 = .ok (.getfield 62, 3) := by decide +kernel
theorem dX4_turn_20 : decode cX4_turn 20 = .ok (.getfield 126, 3) := by decide +kernel
theorem dX4_turn_23 : decode cX4_turn 23 = .ok (.istore_n 1, 1) := by decide +kernel
theorem dX4_turn_24 : decode cX4_turn 24 = .ok (.aload_n 0, 1) := by decide +kernel
theorem dX4_turn_25 : decode cX4_turn 25 = .ok (.getfield 19, 3) := by decide +kernel
theorem dX4_turn_28 : decode cX4_turn 28 = .ok (.getfield 62, 3) := by decide +kernel
theorem dX4_turn_31 : decode cX4_turn 31 = .ok (.iload_n 1, 1) := by decide +kernel
theorem dX4_turn_32 : decode cX4_turn 32 = .ok (.ifCond .ne 7, 3) := by decide +kernel
theorem dX4_turn_35 : decode cX4_turn 35 = .ok (.iconst 1, 1) := by decide +kernel
theorem dX4_turn_36 : decode cX4_turn 36 = .ok (.goto 4, 3) := by decide +kernel
theorem dX4_turn_39 : decode cX4_turn 39 = .ok (.iconst 0, 1) := by decide +kernel
theorem dX4_turn_40 : decode cX4_turn 40 = .ok (.putfield 126, 3) := by decide +kernel
theorem dX4_turn_43 : decode cX4_turn 43 = .ok (.iload_n 1, 1) := by decide +kernel
theorem dX4_turn_44 : decode cX4_turn 44 = .ok (.ifCond .eq 7, 3) := by decide +kernel
theorem dX4_turn_47 : decode cX4_turn 47 = .ok (.iconst 1, 1) := by decide +kernel
theorem dX4_turn_48 : decode cX4_turn 48 = .ok (.goto 4, 3) := by decide +kernel
theorem dX4_turn_51 : decode cX4_turn 51 = .ok (.iconst 0, 1) := by decide +kernel
theorem dX4_turn_52 : decode cX4_turn 52 = .ok (.ireturn, 1) := by decide +kernel
theorem dX4_beats_0 : decode cX4_beats 0 = .ok (.aload_n 0, 1) := by decide +kernel
theorem dX4_beats_1 : decode cX4_beats 1 = .ok (.getfield 19, 3) := by decide +kernel
theorem dX4_beats_4 : decode cX4_beats 4 = .ok (.iload_n 1, 1) := by decide +kernel
theorem dX4_beats_5 : decode cX4_beats 5 = .ok (.invokevirtual 94, 3) := by decide +kernel
theorem dX4_beats_8 : decode cX4_beats 8 = .ok (.ifCond .ne 6, 3) := by decide +kernel
theorem dX4_beats_11 : decode cX4_beats 11 = .ok (.bipush (-101), 2) := by decide +kernel
theorem dX4_beats_13 : decode cX4_beats 13 = .ok (.ireturn, 1) := by decide +kernel
theorem dX4_beats_14 : decode cX4_beats 14 = .ok (.iload_n 2, 1) := by decide +kernel
theorem dX4_beats_15 : decode cX4_beats 15 = .ok (.invokestatic 129, 3) := by decide +kernel
theorem dX4_beats_18 : decode cX4_beats 18 = .ok (.ifCond .ne 6, 3) := by decide +kernel
theorem dX4_beats_21 : decode cX4_beats 21 = .ok (.bipush (-102), 2) := by decide +kernel
theorem dX4_beats_23 : decode cX4_beats 23 = .ok (.ireturn, 1) := by decide +kernel
theorem dX4_beats_24 : decode cX4_beats 24 = .ok (.aload_n 0, 1) := by decide +kernel
theorem dX4_beats_25 : decode cX4_beats 25 = .ok (.getfield 19, 3) := by decide +kernel
theorem dX4_beats_28 : decode cX4_beats 28 = .ok (.getfield 97, 3) := by decide +kernel
theorem dX4_beats_31 : decode cX4_beats 31 = .ok (.iload_n 1, 1) := by decide +kernel
theorem dX4_beats_32 : decode cX4_beats 32 = .ok (.iaload, 1) := by decide +kernel
theorem dX4_beats_33 : decode cX4_beats 33 = .ok (.istore_n 3, 1) := by decide +kernel
theorem dX4_beats_34 : decode cX4_beats 34 = .ok (.aload_n 0, 1) := by decide +kernel
theorem dX4_beats_35 : decode cX4_beats 35 = .ok (.getfield 19, 3) := by decide +kernel
theorem dX4_beats_38 : decode cX4_beats 38 = .ok (.getfield 97, 3) := by decide +kernel
theorem dX4_beats_41 : decode cX4_beats 41 = .ok (.iload_n 1, 1) := by decide +kernel
theorem dX4_beats_42 : decode cX4_beats 42 = .ok (.iload_n 2, 1) := by decide +kernel
theorem dX4_beats_43 : decode cX4_beats 43 = .ok (.iastore, 1) := by decide +kernel
theorem dX4_beats_44 : decode cX4_beats 44 = .ok (.iload_n 3, 1) := by decide +kernel
theorem dX4_beats_45 : decode cX4_beats 45 = .ok (.ireturn, 1) := by decide +kernel
theorem dX4_be_0 : decode cX4_be 0 = .ok (.aload_n 0, 1) := by decide +kernel
theorem dX4_be_1 : decode cX4_be 1 = .ok (.getfield 19, 3) := by decide +kernel
theorem dX4_be_4 : decode cX4_be 4 = .ok (.iload_n 1, 1) := by decide +kernel
theorem dX4_be_5 : decode cX4_be 5 = .ok (.invokevirtual 69, 3) := by decide +kernel
theorem dX4_be_8 : decode cX4_be 8 = .ok (.ifCond .ne 6, 3) := by decide +kernel
theorem dX4_be_11 : decode cX4_be 11 = .ok (.bipush (-101), 2) := by decide +kernel
theorem dX4_be_13 : decode cX4_be 13 = .ok (.ireturn, 1) := by decide +kernel
theorem dX4_be_14 : decode cX4_be 14 = .ok (.iload_n 2, 1) := by decide +kernel
theorem dX4_be_15 : decode cX4_be 15 = .ok (.invokestatic 91, 3) := by decide +kernel
theorem dX4_be_18 : decode cX4_be 18 = .ok (.ifCond .ne 6, 3) := by decide +kernel
theorem dX4_be_21 : decode cX4_be 21 = .ok (.bipush (-102), 2) := by decide +kernel
theorem dX4_be_23 : decode cX4_be 23 = .ok (.ireturn, 1) := by decide +kernel
theorem dX4_be_24 : decode cX4_be 24 = .ok (.aload_n 0, 1) := by decide +kernel
theorem dX4_be_25 : decode cX4_be 25 = .ok (.getfield 19, 3) := by decide +kernel
theorem dX4_be_28 : decode cX4_be 28 = .ok (.getfield 62, 3) := by decide +kernel
theorem dX4_be_31 : decode cX4_be 31 = .ok (.iload_n 1, 1) := by decide +kernel
theorem dX4_be_32 : decode cX4_be 32 = .ok (.invokevirtual 72, 3) := by decide +kernel
theorem dX4_be_35 : decode cX4_be 35 = .ok (.istore_n 3, 1) := by decide +kernel
theorem dX4_be_36 : decode cX4_be 36 = .ok (.aload_n 0, 1) := by decide +kernel
theorem dX4_be_37 : decode cX4_be 37 = .ok (.getfield 19, 3) := by decide +kernel
theorem dX4_be_40 : decode cX4_be 40 = .ok (.getfield 62, 3) := by decide +kernel
theorem dX4_be_43 : decode cX4_be 43 = .ok (.iload_n 1, 1) := by decide +kernel
theorem dX4_be_44 : decode cX4_be 44 = .ok (.iload_n 2, 1) := by decide +kernel
theorem dX4_be_45 : decode cX4_be 45 = .ok (.invokevirtual 132, 3) := by decide +kernel
theorem dX4_be_48 : decode cX4_be 48 = .ok (.iload_n 3, 1) := by decide +kernel
theorem dX4_be_49 : decode cX4_be 49 = .ok (.ireturn, 1) := by decide +kernel
theorem dX4_last_0 : decode cX4_last 0 = .ok (.iload_n 1, 1) := by decide +kernel
theorem dX4_last_1 : decode cX4_last 1 = .ok (.invokestatic 129, 3) := by decide +kernel
theorem dX4_last_4 : decode cX4_last 4 = .ok (.ifCond .ne 6, 3) := by decide +kernel
theorem dX4_last_7 : decode cX4_last 7 = .ok (.bipush (-102), 2) := by decide +kernel
theorem dX4_last_9 : decode cX4_last 9 = .ok (.ireturn, 1) := by decide +kernel
theorem dX4_last_10 : decode cX4_last 10 = .ok (.aload_n 0, 1) := by decide +kernel
theorem dX4_last_11 : decode cX4_last 11 = .ok (.getfield 19, 3) := by decide +kernel
theorem dX4_last_14 : decode cX4_last 14 = .ok (.invokevirtual 123, 3) := by decide +kernel
theorem dX4_last_17 : decode cX4_last 17 = .ok (.ifCond .eq 14, 3) := by decide +kernel
theorem dX4_last_20 : decode cX4_last 20 = .ok (.aload_n 0, 1) := by decide +kernel
theorem dX4_last_21 : decode cX4_last 21 = .ok (.getfield 31, 3) := by decide +kernel
theorem dX4_last_24 : decode cX4_last 24 = .ok (.iload_n 1, 1) := by decide +kernel
theorem dX4_last_25 : decode cX4_last 25 = .ok (.invokevirtual 105, 3) := by decide +kernel
theorem dX4_last_28 : decode cX4_last 28 = .ok (.goto 5, 3) := by decide +kernel
theorem dX4_last_31 : decode cX4_last 31 = .ok (.bipush (-103), 2) := by decide +kernel
theorem dX4_last_33 : decode cX4_last 33 = .ok (.ireturn, 1) := by decide +kernel
theorem dX4_begin_0 : decode cX4_begin 0 = .ok (.aload_n 0, 1) := by decide +kernel
theorem dX4_begin_1 : decode cX4_begin 1 = .ok (.getfield 19, 3) := by decide +kernel
theorem dX4_begin_4 : decode cX4_begin 4 = .ok (.iload_n 1, 1) := by decide +kernel
theorem dX4_begin_5 : decode cX4_begin 5 = .ok (.invokevirtual 69, 3) := by decide +kernel
theorem dX4_begin_8 : decode cX4_begin 8 = .ok (.ifCond .ne 6, 3) := by decide +kernel
theorem dX4_begin_11 : decode cX4_begin 11 = .ok (.bipush (-101), 2) := by decide +kernel
theorem dX4_begin_13 : decode cX4_begin 13 = .ok (.ireturn, 1) := by decide +kernel
theorem dX4_begin_14 : decode cX4_begin 14 = .ok (.iload_n 2, 1) := by decide +kernel
theorem dX4_begin_15 : decode cX4_begin 15 = .ok (.invokestatic 129, 3) := by decide +kernel
theorem dX4_begin_18 : decode cX4_begin 18 = .ok (.ifCond .eq 15, 3) := by decide +kernel
theorem dX4_begin_21 : decode cX4_begin 21 = .ok (.aload_n 0, 1) := by decide +kernel
theorem dX4_begin_22 : decode cX4_begin 22 = .ok (.getfield 31, 3) := by decide +kernel
theorem dX4_begin_25 : decode cX4_begin 25 = .ok (.iload_n 1, 1) := by decide +kernel
theorem dX4_begin_26 : decode cX4_begin 26 = .ok (.iload_n 2, 1) := by decide +kernel
theorem dX4_begin_27 : decode cX4_begin 27 = .ok (.invokevirtual 136, 3) := by decide +kernel
theorem dX4_begin_30 : decode cX4_begin 30 = .ok (.goto 5, 3) := by decide +kernel
theorem dX4_begin_33 : decode cX4_begin 33 = .ok (.bipush (-102), 2) := by decide +kernel
theorem dX4_begin_35 : decode cX4_begin 35 = .ok (.ireturn, 1) := by decide +kernel
theorem dX4_stand_0 : decode cX4_stand 0 = .ok (.iload_n 1, 1) := by decide +kernel
theorem dX4_stand_1 : decode cX4_stand 1 = .ok (.invokestatic 91, 3) := by decide +kernel
theorem dX4_stand_4 : decode cX4_stand 4 = .ok (.ifCond .eq 10, 3) := by decide +kernel
theorem dX4_stand_7 : decode cX4_stand 7 = .ok (.iload_n 2, 1) := by decide +kernel
theorem dX4_stand_8 : decode cX4_stand 8 = .ok (.invokestatic 129, 3) := by decide +kernel
theorem dX4_stand_11 : decode cX4_stand 11 = .ok (.ifCond .ne 6, 3) := by decide +kernel
theorem dX4_stand_14 : decode cX4_stand 14 = .ok (.bipush (-102), 2) := by decide +kernel
theorem dX4_stand_16 : decode cX4_stand 16 = .ok (.ireturn, 1) := by decide +kernel
theorem dX4_stand_17 : decode cX4_stand 17 = .ok (.aload_n 0, 1) := by decide +kernel
theorem dX4_stand_18 : decode cX4_stand 18 = .ok (.getfield 19, 3) := by decide +kernel
theorem dX4_stand_21 : decode cX4_stand 21 = .ok (.invokevirtual 123, 3) := by decide +kernel
theorem dX4_stand_24 : decode cX4_stand 24 = .ok (.ifCond .eq 15, 3) := by decide +kernel
theorem dX4_stand_27 : decode cX4_stand 27 = .ok (.aload_n 0, 1) := by decide +kernel
theorem dX4_stand_28 : decode cX4_stand 28 = .ok (.getfield 31, 3) := by decide +kernel
theorem dX4_stand_31 : decode cX4_stand 31 = .ok (.iload_n 1, 1) := by decide +kernel
theorem dX4_stand_32 : decode cX4_stand 32 = .ok (.iload_n 2, 1) := by decide +kernel
theorem dX4_stand_33 : decode cX4_stand 33 = .ok (.invokevirtual 139, 3) := by decide +kernel
theorem dX4_stand_36 : decode cX4_stand 36 = .ok (.goto 5, 3) := by decide +kernel
theorem dX4_stand_39 : decode cX4_stand 39 = .ok (.bipush (-103), 2) := by decide +kernel
theorem dX4_stand_41 : decode cX4_stand 41 = .ok (.ireturn, 1) := by decide +kernel
theorem dX4_game_0 : decode cX4_game 0 = .ok (.aload_n 0, 1) := by decide +kernel
theorem dX4_game_1 : decode cX4_game 1 = .ok (.getfield 19, 3) := by decide +kernel
theorem dX4_game_4 : decode cX4_game 4 = .ok (.iload_n 1, 1) := by decide +kernel
theorem dX4_game_5 : decode cX4_game 5 = .ok (.invokevirtual 69, 3) := by decide +kernel
theorem dX4_game_8 : decode cX4_game 8 = .ok (.ifCond .eq 19, 3) := by decide +kernel
theorem dX4_game_11 : decode cX4_game 11 = .ok (.aload_n 0, 1) := by decide +kernel
theorem dX4_game_12 : decode cX4_game 12 = .ok (.getfield 19, 3) := by decide +kernel
theorem dX4_game_15 : decode cX4_game 15 = .ok (.iload_n 2, 1) := by decide +kernel
theorem dX4_game_16 : decode cX4_game 16 = .ok (.invokevirtual 69, 3) := by decide +kernel
theorem dX4_game_19 : decode cX4_game 19 = .ok (.ifCond .eq 8, 3) := by decide +kernel
theorem dX4_game_22 : decode cX4_game 22 = .ok (.iload_n 1, 1) := by decide +kernel
theorem dX4_game_23 : decode cX4_game 23 = .ok (.iload_n 2, 1) := by decide +kernel
theorem dX4_game_24 : decode cX4_game 24 = .ok (.if_icmp .ne 6, 3) := by decide +kernel
theorem dX4_game_27 : decode cX4_game 27 = .ok (.bipush (-101), 2) := by decide +kernel
theorem dX4_game_29 : decode cX4_game 29 = .ok (.ireturn, 1) := by decide +kernel
theorem dX4_game_30 : decode cX4_game 30 = .ok (.iload_n 3, 1) := by decide +kernel
theorem dX4_game_31 : decode cX4_game 31 = .ok (.ifCond .lt 8, 3) := by decide +kernel
theorem dX4_game_34 : decode cX4_game 34 = .ok (.iload_n 3, 1) := by decide +kernel
theorem dX4_game_35 : decode cX4_game 35 = .ok (.iconst 1, 1) := by decide +kernel
theorem dX4_game_36 : decode cX4_game 36 = .ok (.if_icmp .le 6, 3) := by decide +kernel
theorem dX4_game_39 : decode cX4_game 39 = .ok (.bipush (-102), 2) := by decide +kernel
theorem dX4_game_41 : decode cX4_game 41 = .ok (.ireturn, 1) := by decide +kernel
theorem dX4_game_42 : decode cX4_game 42 = .ok (.aload_n 0, 1) := by decide +kernel
theorem dX4_game_43 : decode cX4_game 43 = .ok (.getfield 19, 3) := by decide +kernel
theorem dX4_game_46 : decode cX4_game 46 = .ok (.getfield 62, 3) := by decide +kernel
theorem dX4_game_49 : decode cX4_game 49 = .ok (.iload_n 1, 1) := by decide +kernel
theorem dX4_game_50 : decode cX4_game 50 = .ok (.invokevirtual 76, 3) := by decide +kernel
theorem dX4_game_53 : decode cX4_game 53 = .ok (.ifCond .eq 17, 3) := by decide +kernel
theorem dX4_game_56 : decode cX4_game 56 = .ok (.aload_n 0, 1) := by decide +kernel
theorem dX4_game_57 : decode cX4_game 57 = .ok (.getfield 19, 3) := by decide +kernel
end
section
theorem dX4_game_60 : decode cX4_game 60 = .ok (.getfield 62, 3) := by decide +kernel
theorem dX4_game_63 : decode cX4_game 63 = .ok (.iload_n 2, 1) := by decide +kernel
theorem dX4_game_64 : decode cX4_game 64 = .ok (.invokevirtual 76, 3) := by decide +kernel
theorem dX4_game_67 : decode cX4_game 67 = .ok (.ifCond .ne 6, 3) := by decide +kernel
theorem dX4_game_70 : decode cX4_game 70 = .ok (.bipush (-103), 2) := by decide +kernel
theorem dX4_game_72 : decode cX4_game 72 = .ok (.ireturn, 1) := by decide +kernel
theorem dX4_game_73 : decode cX4_game 73 = .ok (.iload_n 3, 1) := by decide +kernel
theorem dX4_game_74 : decode cX4_game 74 = .ok (.ifCond .ne 15, 3) := by decide +kernel
theorem dX4_game_77 : decode cX4_game 77 = .ok (.aload_n 0, 1) := by decide +kernel
theorem dX4_game_78 : decode cX4_game 78 = .ok (.getfield 31, 3) := by decide +kernel
theorem dX4_game_81 : decode cX4_game 81 = .ok (.iload_n 1, 1) := by decide +kernel
theorem dX4_game_82 : decode cX4_game 82 = .ok (.iload_n 2, 1) := by decide +kernel
theorem dX4_game_83 : decode cX4_game 83 = .ok (.invokevirtual 142, 3) := by decide +kernel
theorem dX4_game_86 : decode cX4_game 86 = .ok (.goto 12, 3) := by decide +kernel
theorem dX4_game_89 : decode cX4_game 89 = .ok (.aload_n 0, 1) := by decide +kernel
theorem dX4_game_90 : decode cX4_game 90 = .ok (.getfield 31, 3) := by decide +kernel
theorem dX4_game_93 : decode cX4_game 93 = .ok (.iload_n 1, 1) := by decide +kernel
theorem dX4_game_94 : decode cX4_game 94 = .ok (.iload_n 2, 1) := by decide +kernel
theorem dX4_game_95 : decode cX4_game 95 = .ok (.invokevirtual 145, 3) := by decide +kernel
theorem dX4_game_98 : decode cX4_game 98 = .ok (.ireturn, 1) := by decide +kernel
theorem dX4_likely_0 : decode cX4_likely 0 = .ok (.aload_n 0, 1) := by decide +kernel
theorem dX4_likely_1 : decode cX4_likely 1 = .ok (.getfield 19, 3) := by decide +kernel
theorem dX4_likely_4 : decode cX4_likely 4 = .ok (.iload_n 1, 1) := by decide +kernel
theorem dX4_likely_5 : decode cX4_likely 5 = .ok (.invokevirtual 69, 3) := by decide +kernel
theorem dX4_likely_8 : decode cX4_likely 8 = .ok (.ifCond .ne 6, 3) := by decide +kernel
theorem dX4_likely_11 : decode cX4_likely 11 = .ok (.bipush (-101), 2) := by decide +kernel
theorem dX4_likely_13 : decode cX4_likely 13 = .ok (.ireturn, 1) := by decide +kernel
theorem dX4_likely_14 : decode cX4_likely 14 = .ok (.iload_n 2, 1) := by decide +kernel
theorem dX4_likely_15 : decode cX4_likely 15 = .ok (.ifCond .lt 8, 3) := by decide +kernel
theorem dX4_likely_18 : decode cX4_likely 18 = .ok (.iload_n 2, 1) := by decide +kernel
theorem dX4_likely_19 : decode cX4_likely 19 = .ok (.iconst 1, 1) := by decide +kernel
theorem dX4_likely_20 : decode cX4_likely 20 = .ok (.if_icmp .le 6, 3) := by decide +kernel
theorem dX4_likely_23 : decode cX4_likely 23 = .ok (.bipush (-102), 2) := by decide +kernel
theorem dX4_likely_25 : decode cX4_likely 25 = .ok (.ireturn, 1) := by decide +kernel
theorem dX4_likely_26 : decode cX4_likely 26 = .ok (.aload_n 0, 1) := by decide +kernel
theorem dX4_likely_27 : decode cX4_likely 27 = .ok (.getfield 19, 3) := by decide +kernel
theorem dX4_likely_30 : decode cX4_likely 30 = .ok (.getfield 62, 3) := by decide +kernel
theorem dX4_likely_33 : decode cX4_likely 33 = .ok (.iload_n 1, 1) := by decide +kernel
theorem dX4_likely_34 : decode cX4_likely 34 = .ok (.invokevirtual 76, 3) := by decide +kernel
theorem dX4_likely_37 : decode cX4_likely 37 = .ok (.ifCond .ne 6, 3) := by decide +kernel
theorem dX4_likely_40 : decode cX4_likely 40 = .ok (.bipush (-103), 2) := by decide +kernel
theorem dX4_likely_42 : decode cX4_likely 42 = .ok (.ireturn, 1) := by decide +kernel
theorem dX4_likely_43 : decode cX4_likely 43 = .ok (.aload_n 0, 1) := by decide +kernel
theorem dX4_likely_44 : decode cX4_likely 44 = .ok (.getfield 31, 3) := by decide +kernel
theorem dX4_likely_47 : decode cX4_likely 47 = .ok (.iload_n 1, 1) := by decide +kernel
theorem dX4_likely_48 : decode cX4_likely 48 = .ok (.iload_n 2, 1) := by decide +kernel
theorem dX4_likely_49 : decode cX4_likely 49 = .ok (.ifCond .ne 7, 3) := by decide +kernel
theorem dX4_likely_52 : decode cX4_likely 52 = .ok (.iconst 1, 1) := by decide +kernel
theorem dX4_likely_53 : decode cX4_likely 53 = .ok (.goto 4, 3) := by decide +kernel
theorem dX4_likely_56 : decode cX4_likely 56 = .ok (.iconst 0, 1) := by decide +kernel
theorem dX4_likely_57 : decode cX4_likely 57 = .ok (.invokevirtual 148, 3) := by decide +kernel
theorem dX4_likely_60 : decode cX4_likely 60 = .ok (.ireturn, 1) := by decide +kernel
theorem dX4_see_0 : decode cX4_see 0 = .ok (.aload_n 0, 1) := by decide +kernel
theorem dX4_see_1 : decode cX4_see 1 = .ok (.getfield 19, 3) := by decide +kernel
theorem dX4_see_4 : decode cX4_see 4 = .ok (.iload_n 1, 1) := by decide +kernel
theorem dX4_see_5 : decode cX4_see 5 = .ok (.invokevirtual 69, 3) := by decide +kernel
theorem dX4_see_8 : decode cX4_see 8 = .ok (.ifCond .eq 14, 3) := by decide +kernel
theorem dX4_see_11 : decode cX4_see 11 = .ok (.aload_n 0, 1) := by decide +kernel
theorem dX4_see_12 : decode cX4_see 12 = .ok (.getfield 19, 3) := by decide +kernel
theorem dX4_see_15 : decode cX4_see 15 = .ok (.iload_n 2, 1) := by decide +kernel
theorem dX4_see_16 : decode cX4_see 16 = .ok (.invokevirtual 69, 3) := by decide +kernel
theorem dX4_see_19 : decode cX4_see 19 = .ok (.ifCond .ne 6, 3) := by decide +kernel
theorem dX4_see_22 : decode cX4_see 22 = .ok (.bipush (-101), 2) := by decide +kernel
theorem dX4_see_24 : decode cX4_see 24 = .ok (.ireturn, 1) := by decide +kernel
theorem dX4_see_25 : decode cX4_see 25 = .ok (.aload_n 0, 1) := by decide +kernel
theorem dX4_see_26 : decode cX4_see 26 = .ok (.getfield 19, 3) := by decide +kernel
theorem dX4_see_29 : decode cX4_see 29 = .ok (.iload_n 1, 1) := by decide +kernel
theorem dX4_see_30 : decode cX4_see 30 = .ok (.iload_n 2, 1) := by decide +kernel
theorem dX4_see_31 : decode cX4_see 31 = .ok (.invokevirtual 152, 3) := by decide +kernel
theorem dX4_see_34 : decode cX4_see 34 = .ok (.ifCond .eq 13, 3) := by decide +kernel
theorem dX4_see_37 : decode cX4_see 37 = .ok (.aload_n 0, 1) := by decide +kernel
theorem dX4_see_38 : decode cX4_see 38 = .ok (.getfield 19, 3) := by decide +kernel
theorem dX4_see_41 : decode cX4_see 41 = .ok (.getfield 156, 3) := by decide +kernel
theorem dX4_see_44 : decode cX4_see 44 = .ok (.goto 5, 3) := by decide +kernel
theorem dX4_see_47 : decode cX4_see 47 = .ok (.bipush (-104), 2) := by decide +kernel
theorem dX4_see_49 : decode cX4_see 49 = .ok (.ireturn, 1) := by decide +kernel
theorem dX4_forget_0 : decode cX4_forget 0 = .ok (.aload_n 0, 1) := by decide +kernel
theorem dX4_forget_1 : decode cX4_forget 1 = .ok (.getfield 19, 3) := by decide +kernel
theorem dX4_forget_4 : decode cX4_forget 4 = .ok (.getfield 156, 3) := by decide +kernel
theorem dX4_forget_7 : decode cX4_forget 7 = .ok (.istore_n 1, 1) := by decide +kernel
theorem dX4_forget_8 : decode cX4_forget 8 = .ok (.aload_n 0, 1) := by decide +kernel
theorem dX4_forget_9 : decode cX4_forget 9 = .ok (.getfield 19, 3) := by decide +kernel
theorem dX4_forget_12 : decode cX4_forget 12 = .ok (.iconst 0, 1) := by decide +kernel
theorem dX4_forget_13 : decode cX4_forget 13 = .ok (.putfield 156, 3) := by decide +kernel
theorem dX4_forget_16 : decode cX4_forget 16 = .ok (.iload_n 1, 1) := by decide +kernel
theorem dX4_forget_17 : decode cX4_forget 17 = .ok (.ireturn, 1) := by decide +kernel
theorem dX4_lengths_0 : decode cX4_lengths 0 = .ok (.aload_n 0, 1) := by decide +kernel
theorem dX4_lengths_1 : decode cX4_lengths 1 = .ok (.getfield 19, 3) := by decide +kernel
theorem dX4_lengths_4 : decode cX4_lengths 4 = .ok (.invokevirtual 123, 3) := by decide +kernel
theorem dX4_lengths_7 : decode cX4_lengths 7 = .ok (.ifCond .eq 13, 3) := by decide +kernel
theorem dX4_lengths_10 : decode cX4_lengths 10 = .ok (.aload_n 0, 1) := by decide +kernel
theorem dX4_lengths_11 : decode cX4_lengths 11 = .ok (.getfield 31, 3) := by decide +kernel
theorem dX4_lengths_14 : decode cX4_lengths 14 = .ok (.invokevirtual 159, 3) := by decide +kernel
theorem dX4_lengths_17 : decode cX4_lengths 17 = .ok (.goto 5, 3) := by decide +kernel
theorem dX4_lengths_20 : decode cX4_lengths 20 = .ok (.bipush (-103), 2) := by decide +kernel
theorem dX4_lengths_22 : decode cX4_lengths 22 = .ok (.ireturn, 1) := by decide +kernel
theorem dX4_from_0 : decode cX4_from 0 = .ok (.aload_n 0, 1) := by decide +kernel
theorem dX4_from_1 : decode cX4_from 1 = .ok (.getfield 19, 3) := by decide +kernel
theorem dX4_from_4 : decode cX4_from 4 = .ok (.invokevirtual 123, 3) := by decide +kernel
theorem dX4_from_7 : decode cX4_from 7 = .ok (.ifCond .eq 20, 3) := by decide +kernel
theorem dX4_from_10 : decode cX4_from 10 = .ok (.aload_n 0, 1) := by decide +kernel
theorem dX4_from_11 : decode cX4_from 11 = .ok (.getfield 31, 3) := by decide +kernel
theorem dX4_from_14 : decode cX4_from 14 = .ok (.aload_n 0, 1) := by decide +kernel
theorem dX4_from_15 : decode cX4_from 15 = .ok (.getfield 31, 3) := by decide +kernel
theorem dX4_from_18 : decode cX4_from 18 = .ok (.invokevirtual 159, 3) := by decide +kernel
theorem dX4_from_21 : decode cX4_from 21 = .ok (.invokevirtual 162, 3) := by decide +kernel
theorem dX4_from_24 : decode cX4_from 24 = .ok (.goto 5, 3) := by decide +kernel
theorem dX4_from_27 : decode cX4_from 27 = .ok (.bipush (-103), 2) := by decide +kernel
theorem dX4_from_29 : decode cX4_from 29 = .ok (.ireturn, 1) := by decide +kernel
theorem dX4_rounds_0 : decode cX4_rounds 0 = .ok (.iload_n 1, 1) := by decide +kernel
theorem dX4_rounds_1 : decode cX4_rounds 1 = .ok (.iconst 1, 1) := by decide +kernel
theorem dX4_rounds_2 : decode cX4_rounds 2 = .ok (.if_icmp .lt 22, 3) := by decide +kernel
theorem dX4_rounds_5 : decode cX4_rounds 5 = .ok (.iload_n 1, 1) := by decide +kernel
theorem dX4_rounds_6 : decode cX4_rounds 6 = .ok (.bipush 60, 2) := by decide +kernel
theorem dX4_rounds_8 : decode cX4_rounds 8 = .ok (.if_icmp .gt 16, 3) := by decide +kernel
theorem dX4_rounds_11 : decode cX4_rounds 11 = .ok (.iload_n 2, 1) := by decide +kernel
theorem dX4_rounds_12 : decode cX4_rounds 12 = .ok (.ifCond .lt 12, 3) := by decide +kernel
theorem dX4_rounds_15 : decode cX4_rounds 15 = .ok (.iload_n 3, 1) := by decide +kernel
theorem dX4_rounds_16 : decode cX4_rounds 16 = .ok (.ifCond .lt 8, 3) := by decide +kernel
theorem dX4_rounds_19 : decode cX4_rounds 19 = .ok (.iload_n 3, 1) := by decide +kernel
theorem dX4_rounds_20 : decode cX4_rounds 20 = .ok (.iconst 2, 1) := by decide +kernel
theorem dX4_rounds_21 : decode cX4_rounds 21 = .ok (.if_icmp .le 6, 3) := by decide +kernel
theorem dX4_rounds_24 : decode cX4_rounds 24 = .ok (.bipush (-102), 2) := by decide +kernel
theorem dX4_rounds_26 : decode cX4_rounds 26 = .ok (.ireturn, 1) := by decide +kernel
theorem dX4_rounds_27 : decode cX4_rounds 27 = .ok (.aload_n 0, 1) := by decide +kernel
theorem dX4_rounds_28 : decode cX4_rounds 28 = .ok (.getfield 19, 3) := by decide +kernel
theorem dX4_rounds_31 : decode cX4_rounds 31 = .ok (.invokevirtual 123, 3) := by decide +kernel
theorem dX4_rounds_34 : decode cX4_rounds 34 = .ok (.ifCond .eq 16, 3) := by decide +kernel
theorem dX4_rounds_37 : decode cX4_rounds 37 = .ok (.aload_n 0, 1) := by decide +kernel
theorem dX4_rounds_38 : decode cX4_rounds 38 = .ok (.getfield 31, 3) := by decide +kernel
theorem dX4_rounds_41 : decode cX4_rounds 41 = .ok (.iload_n 1, 1) := by decide +kernel
theorem dX4_rounds_42 : decode cX4_rounds 42 = .ok (.iload_n 2, 1) := by decide +kernel
theorem dX4_rounds_43 : decode cX4_rounds 43 = .ok (.iload_n 3, 1) := by decide +kernel
theorem dX4_rounds_44 : decode cX4_rounds 44 = .ok (.invokevirtual 165, 3) := by decide +kernel
theorem dX4_rounds_47 : decode cX4_rounds 47 = .ok (.goto 5, 3) := by decide +kernel
theorem dX4_rounds_50 : decode cX4_rounds 50 = .ok (.bipush (-103), 2) := by decide +kernel
theorem dX4_rounds_52 : decode cX4_rounds 52 = .ok (.ireturn, 1) := by decide +kernel
theorem dX4_image_0 : decode cX4_image 0 = .ok (.aload_n 0, 1) := by decide +kernel
theorem dX4_image_1 : decode cX4_image 1 = .ok (.getfield 19, 3) := by decide +kernel
theorem dX4_image_4 : decode cX4_image 4 = .ok (.invokevirtual 123, 3) := by decide +kernel
theorem dX4_image_7 : decode cX4_image 7 = .ok (.ifCond .ne 6, 3) := by decide +kernel
theorem dX4_image_10 : decode cX4_image 10 = .ok (.bipush (-103), 2) := by decide +kernel
theorem dX4_image_12 : decode cX4_image 12 = .ok (.ireturn, 1) := by decide +kernel
theorem dX4_image_13 : decode cX4_image 13 = .ok (.aload_n 0, 1) := by decide +kernel
theorem dX4_image_14 : decode cX4_image 14 = .ok (.getfield 23, 3) := by decide +kernel
theorem dX4_image_17 : decode cX4_image 17 = .ok (.aload_n 0, 1) := by decide +kernel
theorem dX4_image_18 : decode cX4_image 18 = .ok (.getfield 19, 3) := by decide +kernel
theorem dX4_image_21 : decode cX4_image 21 = .ok (.invokevirtual 169, 3) := by decide +kernel
theorem dX4_image_24 : decode cX4_image 24 = .ok (.aload_n 0, 1) := by decide +kernel
theorem dX4_image_25 : decode cX4_image 25 = .ok (.iconst 1, 1) := by decide +kernel
theorem dX4_image_26 : decode cX4_image 26 = .ok (.putfield 55, 3) := by decide +kernel
theorem dX4_image_29 : decode cX4_image 29 = .ok (.aload_n 0, 1) := by decide +kernel
theorem dX4_image_30 : decode cX4_image 30 = .ok (.getfield 23, 3) := by decide +kernel
theorem dX4_image_33 : decode cX4_image 33 = .ok (.getfield 111, 3) := by decide +kernel
theorem dX4_image_36 : decode cX4_image 36 = .ok (.ireturn, 1) := by decide +kernel
theorem dX4_restore_0 : decode cX4_restore 0 = .ok (.aload_n 0, 1) := by decide +kernel
theorem dX4_restore_1 : decode cX4_restore 1 = .ok (.getfield 55, 3) := by decide +kernel
theorem dX4_restore_4 : decode cX4_restore 4 = .ok (.ifCond .ne 6, 3) := by decide +kernel
theorem dX4_restore_7 : decode cX4_restore 7 = .ok (.bipush (-103), 2) := by decide +kernel
theorem dX4_restore_9 : decode cX4_restore 9 = .ok (.ireturn, 1) := by decide +kernel
theorem dX4_restore_10 : decode cX4_restore 10 = .ok (.aload_n 0, 1) := by decide +kernel
theorem dX4_restore_11 : decode cX4_restore 11 = .ok (.getfield 19, 3) := by decide +kernel
theorem dX4_restore_14 : decode cX4_restore 14 = .ok (.aload_n 0, 1) := by decide +kernel
theorem dX4_restore_15 : decode cX4_restore 15 = .ok (.getfield 23, 3) := by decide +kernel
theorem dX4_restore_18 : decode cX4_restore 18 = .ok (.invokevirtual 169, 3) := by decide +kernel
theorem dX4_restore_21 : decode cX4_restore 21 = .ok (.aload_n 0, 1) := by decide +kernel
theorem dX4_restore_22 : decode cX4_restore 22 = .ok (.getfield 19, 3) := by decide +kernel
theorem dX4_restore_25 : decode cX4_restore 25 = .ok (.getfield 111, 3) := by decide +kernel
theorem dX4_restore_28 : decode cX4_restore 28 = .ok (.ireturn, 1) := by decide +kernel
theorem dX4_count_0 : decode cX4_count 0 = .ok (.aload_n 0, 1) := by decide +kernel
theorem dX4_count_1 : decode cX4_count 1 = .ok (.getfield 19, 3) := by decide +kernel
theorem dX4_count_4 : decode cX4_count 4 = .ok (.getfield 62, 3) := by decide +kernel
theorem dX4_count_7 : decode cX4_count 7 = .ok (.astore_n 2, 1) := by decide +kernel
theorem dX4_count_8 : decode cX4_count 8 = .ok (.iload_n 1, 1) := by decide +kernel
theorem dX4_count_9 : decode cX4_count 9 = .ok (.tableswitch 137 0 10 #[59, 64, 69, 77, 85, 90, 103, 111, 116, 124, 132], 59) := by decide +kernel
theorem dX4_count_68 : decode cX4_count 68 = .ok (.aload_n 2, 1) := by decide +kernel
theorem dX4_count_69 : decode cX4_count 69 = .ok (.getfield 66, 3) := by decide +kernel
theorem dX4_count_72 : decode cX4_count 72 = .ok (.ireturn, 1) := by decide +kernel
theorem dX4_count_73 : decode cX4_count 73 = .ok (.aload_n 2, 1) := by decide +kernel
theorem dX4_count_74 : decode cX4_count 74 = .ok (.invokevirtual 120, 3) := by decide +kernel
theorem dX4_count_77 : decode cX4_count 77 = .ok (.ireturn, 1) := by decide +kernel
theorem dX4_count_78 : decode cX4_count 78 = .ok (.aload_n 0, 1) := by decide +kernel
theorem dX4_count_79 : decode cX4_count 79 = .ok (.getfield 19, 3) := by decide +kernel
theorem dX4_count_82 : decode cX4_count 82 = .ok (.getfield 172, 3) := by decide +kernel
theorem dX4_count_85 : decode cX4_count 85 = .ok (.ireturn, 1) := by decide +kernel
theorem dX4_count_86 : decode cX4_count 86 = .ok (.aload_n 2, 1) := by decide +kernel
theorem dX4_count_87 : decode cX4_count 87 = .ok (.getfield 175, 3) := by decide +kernel
theorem dX4_count_90 : decode cX4_count 90 = .ok (.invokestatic 178, 3) := by decide +kernel
theorem dX4_count_93 : decode cX4_count 93 = .ok (.ireturn, 1) := by decide +kernel
theorem dX4_count_94 : decode cX4_count 94 = .ok (.aload_n 2, 1) := by decide +kernel
theorem dX4_count_95 : decode cX4_count 95 = .ok (.getfield 88, 3) := by decide +kernel
theorem dX4_count_98 : decode cX4_count 98 = .ok (.ireturn, 1) := by decide +kernel
theorem dX4_count_99 : decode cX4_count 99 = .ok (.aload_n 2, 1) := by decide +kernel
theorem dX4_count_100 : decode cX4_count 100 = .ok (.getfield 126, 3) := by decide +kernel
theorem dX4_count_103 : decode cX4_count 103 = .ok (.ifCond .eq 7, 3) := by decide +kernel
theorem dX4_count_106 : decode cX4_count 106 = .ok (.iconst 1, 1) := by decide +kernel
theorem dX4_count_107 : decode cX4_count 107 = .ok (.goto 4, 3) := by decide +kernel
theorem dX4_count_110 : decode cX4_count 110 = .ok (.iconst 0, 1) := by decide +kernel
theorem dX4_count_111 : decode cX4_count 111 = .ok (.ireturn, 1) := by decide +kernel
theorem dX4_count_112 : decode cX4_count 112 = .ok (.aload_n 0, 1) := by decide +kernel
theorem dX4_count_113 : decode cX4_count 113 = .ok (.getfield 19, 3) := by decide +kernel
theorem dX4_count_116 : decode cX4_count 116 = .ok (.getfield 111, 3) := by decide +kernel
theorem dX4_count_119 : decode cX4_count 119 = .ok (.ireturn, 1) := by decide +kernel
theorem dX4_count_120 : decode cX4_count 120 = .ok (.aload_n 2, 1) := by decide +kernel
theorem dX4_count_121 : decode cX4_count 121 = .ok (.invokevirtual 183, 3) := by decide +kernel
theorem dX4_count_124 : decode cX4_count 124 = .ok (.ireturn, 1) := by decide +kernel
theorem dX4_count_125 : decode cX4_count 125 = .ok (.aload_n 0, 1) := by decide +kernel
theorem dX4_count_126 : decode cX4_count 126 = .ok (.getfield 19, 3) := by decide +kernel
theorem dX4_count_129 : decode cX4_count 129 = .ok (.getfield 156, 3) := by decide +kernel
theorem dX4_count_132 : decode cX4_count 132 = .ok (.ireturn, 1) := by decide +kernel
theorem dX4_count_133 : decode cX4_count 133 = .ok (.aload_n 0, 1) := by decide +kernel
theorem dX4_count_134 : decode cX4_count 134 = .ok (.getfield 15, 3) := by decide +kernel
theorem dX4_count_137 : decode cX4_count 137 = .ok (.getfield 39, 3) := by decide +kernel
theorem dX4_count_140 : decode cX4_count 140 = .ok (.ireturn, 1) := by decide +kernel
theorem dX4_count_141 : decode cX4_count 141 = .ok (.aload_n 0, 1) := by decide +kernel
theorem dX4_count_142 : decode cX4_count 142 = .ok (.getfield 59, 3) := by decide +kernel
theorem dX4_count_145 : decode cX4_count 145 = .ok (.ireturn, 1) := by decide +kernel
theorem dX4_count_146 : decode cX4_count 146 = .ok (.bipush (-102), 2) := by decide +kernel
theorem dX4_count_148 : decode cX4_count 148 = .ok (.ireturn, 1) := by decide +kernel
theorem dX4_digest_0 : decode cX4_digest 0 = .ok (.ldc2_w 186, 3) := by decide +kernel
theorem dX4_digest_3 : decode cX4_digest 3 = .ok (.lstore_n 1, 1) := by decide +kernel
theorem dX4_digest_4 : decode cX4_digest 4 = .ok (.aload_n 0, 1) := by decide +kernel
theorem dX4_digest_5 : decode cX4_digest 5 = .ok (.getfield 19, 3) := by decide +kernel
theorem dX4_digest_8 : decode cX4_digest 8 = .ok (.getfield 62, 3) := by decide +kernel
theorem dX4_digest_11 : decode cX4_digest 11 = .ok (.getfield 66, 3) := by decide +kernel
theorem dX4_digest_14 : decode cX4_digest 14 = .ok (.istore_n 3, 1) := by decide +kernel
theorem dX4_digest_15 : decode cX4_digest 15 = .ok (.iconst 0, 1) := by decide +kernel
theorem dX4_digest_16 : decode cX4_digest 16 = .ok (.istore 4, 2) := by decide +kernel
theorem dX4_digest_18 : decode cX4_digest 18 = .ok (.iload 4, 2) := by decide +kernel
theorem dX4_digest_20 : decode cX4_digest 20 = .ok (.iload_n 3, 1) := by decide +kernel
theorem dX4_digest_21 : decode cX4_digest 21 = .ok (.if_icmp .ge 56, 3) := by decide +kernel
theorem dX4_digest_24 : decode cX4_digest 24 = .ok (.iconst 0, 1) := by decide +kernel
theorem dX4_digest_25 : decode cX4_digest 25 = .ok (.istore 5, 2) := by decide +kernel
theorem dX4_digest_27 : decode cX4_digest 27 = .ok (.iload 5, 2) := by decide +kernel
theorem dX4_digest_29 : decode cX4_digest 29 = .ok (.iconst 5, 1) := by decide +kernel
theorem dX4_digest_30 : decode cX4_digest 30 = .ok (.if_icmp .gt 25, 3) := by decide +kernel
theorem dX4_digest_33 : decode cX4_digest 33 = .ok (.ldc2_w 188, 3) := by decide +kernel
theorem dX4_digest_36 : decode cX4_digest 36 = .ok (.lload_n 1, 1) := by decide +kernel
theorem dX4_digest_37 : decode cX4_digest 37 = .ok (.lmul, 1) := by decide +kernel
theorem dX4_digest_38 : decode cX4_digest 38 = .ok (.aload_n 0, 1) := by decide +kernel
theorem dX4_digest_39 : decode cX4_digest 39 = .ok (.iload 4, 2) := by decide +kernel
theorem dX4_digest_41 : decode cX4_digest 41 = .ok (.iload 5, 2) := by decide +kernel
theorem dX4_digest_43 : decode cX4_digest 43 = .ok (.invokevirtual 190, 3) := by decide +kernel
theorem dX4_digest_46 : decode cX4_digest 46 = .ok (.i2l, 1) := by decide +kernel
theorem dX4_digest_47 : decode cX4_digest 47 = .ok (.ladd, 1) := by decide +kernel
theorem dX4_digest_48 : decode cX4_digest 48 = .ok (.lstore_n 1, 1) := by decide +kernel
theorem dX4_digest_49 : decode cX4_digest 49 = .ok (.iinc 5 1, 3) := by decide +kernel
theorem dX4_digest_52 : decode cX4_digest 52 = .ok (.goto (-25), 3) := by decide +kernel
theorem dX4_digest_55 : decode cX4_digest 55 = .ok (.ldc2_w 188, 3) := by decide +kernel
theorem dX4_digest_58 : decode cX4_digest 58 = .ok (.lload_n 1, 1) := by decide +kernel
theorem dX4_digest_59 : decode cX4_digest 59 = .ok (.lmul, 1) := by decide +kernel
theorem dX4_digest_60 : decode cX4_digest 60 = .ok (.aload_n 0, 1) := by decide +kernel
theorem dX4_digest_61 : decode cX4_digest 61 = .ok (.iload 4, 2) := by decide +kernel
theorem dX4_digest_63 : decode cX4_digest 63 = .ok (.bipush 7, 2) := by decide +kernel
theorem dX4_digest_65 : decode cX4_digest 65 = .ok (.invokevirtual 193, 3) := by decide +kernel
theorem dX4_digest_68 : decode cX4_digest 68 = .ok (.i2l, 1) := by decide +kernel
theorem dX4_digest_69 : decode cX4_digest 69 = .ok (.ladd, 1) := by decide +kernel
theorem dX4_digest_70 : decode cX4_digest 70 = .ok (.lstore_n 1, 1) := by decide +kernel
theorem dX4_digest_71 : decode cX4_digest 71 = .ok (.iinc 4 1, 3) := by decide +kernel
theorem dX4_digest_74 : decode cX4_digest 74 = .ok (.goto (-56), 3) := by decide +kernel
theorem dX4_digest_77 : decode cX4_digest 77 = .ok (.iconst 0, 1) := by decide +kernel
theorem dX4_digest_78 : decode cX4_digest 78 = .ok (.istore 4, 2) := by decide +kernel
theorem dX4_digest_80 : decode cX4_digest 80 = .ok (.iload 4, 2) := by decide +kernel
theorem dX4_digest_82 : decode cX4_digest 82 = .ok (.aload_n 0, 1) := by decide +kernel
theorem dX4_digest_83 : decode cX4_digest 83 = .ok (.getfield 19, 3) := by decide +kernel
theorem dX4_digest_86 : decode cX4_digest 86 = .ok (.getfield 172, 3) := by decide +kernel
theorem dX4_digest_89 : decode cX4_digest 89 = .ok (.if_icmp .ge 40, 3) := by decide +kernel
theorem dX4_digest_92 : decode cX4_digest 92 = .ok (.iconst 0, 1) := by decide +kernel
theorem dX4_digest_93 : decode cX4_digest 93 = .ok (.istore 5, 2) := by decide +kernel
theorem dX4_digest_95 : decode cX4_digest 95 = .ok (.iload 5, 2) := by decide +kernel
theorem dX4_digest_97 : decode cX4_digest 97 = .ok (.iconst 2, 1) := by decide +kernel
theorem dX4_digest_98 : decode cX4_digest 98 = .ok (.if_icmp .gt 25, 3) := by decide +kernel
theorem dX4_digest_101 : decode cX4_digest 101 = .ok (.ldc2_w 188, 3) := by decide +kernel
theorem dX4_digest_104 : decode cX4_digest 104 = .ok (.lload_n 1, 1) := by decide +kernel
theorem dX4_digest_105 : decode cX4_digest 105 = .ok (.lmul, 1) := by decide +kernel
theorem dX4_digest_106 : decode cX4_digest 106 = .ok (.aload_n 0, 1) := by decide +kernel
theorem dX4_digest_107 : decode cX4_digest 107 = .ok (.iload 4, 2) := by decide +kernel
theorem dX4_digest_109 : decode cX4_digest 109 = .ok (.iload 5, 2) := by decide +kernel
theorem dX4_digest_111 : decode cX4_digest 111 = .ok (.invokevirtual 196, 3) := by decide +kernel
theorem dX4_digest_114 : decode cX4_digest 114 = .ok (.i2l, 1) := by decide +kernel
theorem dX4_digest_115 : decode cX4_digest 115 = .ok (.ladd, 1) := by decide +kernel
theorem dX4_digest_116 : decode cX4_digest 116 = .ok (.lstore_n 1, 1) := by decide +kernel
theorem dX4_digest_117 : decode cX4_digest 117 = .ok (.iinc 5 1, 3) := by decide +kernel
theorem dX4_digest_120 : decode cX4_digest 120 = .ok (.goto (-25), 3) := by decide +kernel
theorem dX4_digest_123 : decode cX4_digest 123 = .ok (.iinc 4 1, 3) := by decide +kernel
theorem dX4_digest_126 : decode cX4_digest 126 = .ok (.goto (-46), 3) := by decide +kernel
theorem dX4_digest_129 : decode cX4_digest 129 = .ok (.aload_n 0, 1) := by decide +kernel
theorem dX4_digest_130 : decode cX4_digest 130 = .ok (.getfield 19, 3) := by decide +kernel
theorem dX4_digest_133 : decode cX4_digest 133 = .ok (.invokevirtual 123, 3) := by decide +kernel
theorem dX4_digest_136 : decode cX4_digest 136 = .ok (.ifCond .eq 54, 3) := by decide +kernel
theorem dX4_digest_139 : decode cX4_digest 139 = .ok (.ldc2_w 188, 3) := by decide +kernel
theorem dX4_digest_142 : decode cX4_digest 142 = .ok (.lload_n 1, 1) := by decide +kernel
theorem dX4_digest_143 : decode cX4_digest 143 = .ok (.lmul, 1) := by decide +kernel
theorem dX4_digest_144 : decode cX4_digest 144 = .ok (.aload_n 0, 1) := by decide +kernel
theorem dX4_digest_145 : decode cX4_digest 145 = .ok (.iconst 3, 1) := by decide +kernel
theorem dX4_digest_146 : decode cX4_digest 146 = .ok (.invokevirtual 199, 3) := by decide +kernel
theorem dX4_digest_149 : decode cX4_digest 149 = .ok (.i2l, 1) := by decide +kernel
theorem dX4_digest_150 : decode cX4_digest 150 = .ok (.ladd, 1) := by decide +kernel
theorem dX4_digest_151 : decode cX4_digest 151 = .ok (.lstore_n 1, 1) := by decide +kernel
theorem dX4_digest_152 : decode cX4_digest 152 = .ok (.ldc2_w 188, 3) := by decide +kernel
theorem dX4_digest_155 : decode cX4_digest 155 = .ok (.lload_n 1, 1) := by decide +kernel
theorem dX4_digest_156 : decode cX4_digest 156 = .ok (.lmul, 1) := by decide +kernel
theorem dX4_digest_157 : decode cX4_digest 157 = .ok (.aload_n 0, 1) := by decide +kernel
theorem dX4_digest_158 : decode cX4_digest 158 = .ok (.iconst 0, 1) := by decide +kernel
theorem dX4_digest_159 : decode cX4_digest 159 = .ok (.iconst 5, 1) := by decide +kernel
theorem dX4_digest_160 : decode cX4_digest 160 = .ok (.invokevirtual 202, 3) := by decide +kernel
theorem dX4_digest_163 : decode cX4_digest 163 = .ok (.i2l, 1) := by decide +kernel
theorem dX4_digest_164 : decode cX4_digest 164 = .ok (.ladd, 1) := by decide +kernel
theorem dX4_digest_165 : decode cX4_digest 165 = .ok (.lstore_n 1, 1) := by decide +kernel
theorem dX4_digest_166 : decode cX4_digest 166 = .ok (.ldc2_w 188, 3) := by decide +kernel
theorem dX4_digest_169 : decode cX4_digest 169 = .ok (.lload_n 1, 1) := by decide +kernel
theorem dX4_digest_170 : decode cX4_digest 170 = .ok (.lmul, 1) := by decide +kernel
theorem dX4_digest_171 : decode cX4_digest 171 = .ok (.aload_n 0, 1) := by decide +kernel
theorem dX4_digest_172 : decode cX4_digest 172 = .ok (.invokevirtual 205, 3) := by decide +kernel
theorem dX4_digest_175 : decode cX4_digest 175 = .ok (.i2l, 1) := by decide +kernel
theorem dX4_digest_176 : decode cX4_digest 176 = .ok (.ladd, 1) := by decide +kernel
theorem dX4_digest_177 : decode cX4_digest 177 = .ok (.lstore_n 1, 1) := by decide +kernel
theorem dX4_digest_178 : decode cX4_digest 178 = .ok (.ldc2_w 188, 3) := by decide +kernel
theorem dX4_digest_181 : decode cX4_digest 181 = .ok (.lload_n 1, 1) := by decide +kernel
theorem dX4_digest_182 : decode cX4_digest 182 = .ok (.lmul, 1) := by decide +kernel
theorem dX4_digest_183 : decode cX4_digest 183 = .ok (.aload_n 0, 1) := by decide +kernel
theorem dX4_digest_184 : decode cX4_digest 184 = .ok (.invokevirtual 208, 3) := by decide +kernel
theorem dX4_digest_187 : decode cX4_digest 187 = .ok (.i2l, 1) := by decide +kernel
theorem dX4_digest_188 : decode cX4_digest 188 = .ok (.ladd, 1) := by decide +kernel
theorem dX4_digest_189 : decode cX4_digest 189 = .ok (.lstore_n 1, 1) := by decide +kernel
theorem dX4_digest_190 : decode cX4_digest 190 = .ok (.aload_n 0, 1) := by decide +kernel
theorem dX4_digest_191 : decode cX4_digest 191 = .ok (.getfield 19, 3) := by decide +kernel
theorem dX4_digest_194 : decode cX4_digest 194 = .ok (.invokevirtual 123, 3) := by decide +kernel
theorem dX4_digest_197 : decode cX4_digest 197 = .ok (.ifCond .eq 61, 3) := by decide +kernel
theorem dX4_digest_200 : decode cX4_digest 200 = .ok (.aload_n 0, 1) := by decide +kernel
theorem dX4_digest_201 : decode cX4_digest 201 = .ok (.getfield 19, 3) := by decide +kernel
theorem dX4_digest_204 : decode cX4_digest 204 = .ok (.getfield 62, 3) := by decide +kernel
theorem dX4_digest_207 : decode cX4_digest 207 = .ok (.iconst 0, 1) := by decide +kernel
theorem dX4_digest_208 : decode cX4_digest 208 = .ok (.invokevirtual 76, 3) := by decide +kernel
theorem dX4_digest_211 : decode cX4_digest 211 = .ok (.ifCond .eq 47, 3) := by decide +kernel
theorem dX4_digest_214 : decode cX4_digest 214 = .ok (.aload_n 0, 1) := by decide +kernel
theorem dX4_digest_215 : decode cX4_digest 215 = .ok (.getfield 19, 3) := by decide +kernel
theorem dX4_digest_218 : decode cX4_digest 218 = .ok (.getfield 62, 3) := by decide +kernel
theorem dX4_digest_221 : decode cX4_digest 221 = .ok (.iconst 1, 1) := by decide +kernel
theorem dX4_digest_222 : decode cX4_digest 222 = .ok (.invokevirtual 76, 3) := by decide +kernel
theorem dX4_digest_225 : decode cX4_digest 225 = .ok (.ifCond .eq 33, 3) := by decide +kernel
theorem dX4_digest_228 : decode cX4_digest 228 = .ok (.ldc2_w 188, 3) := by decide +kernel
theorem dX4_digest_231 : decode cX4_digest 231 = .ok (.lload_n 1, 1) := by decide +kernel
theorem dX4_digest_232 : decode cX4_digest 232 = .ok (.lmul, 1) := by decide +kernel
theorem dX4_digest_233 : decode cX4_digest 233 = .ok (.aload_n 0, 1) := by decide +kernel
theorem dX4_digest_234 : decode cX4_digest 234 = .ok (.iconst 0, 1) := by decide +kernel
theorem dX4_digest_235 : decode cX4_digest 235 = .ok (.iconst 1, 1) := by decide +kernel
theorem dX4_digest_236 : decode cX4_digest 236 = .ok (.iconst 0, 1) := by decide +kernel
theorem dX4_digest_237 : decode cX4_digest 237 = .ok (.invokevirtual 211, 3) := by decide +kernel
theorem dX4_digest_240 : decode cX4_digest 240 = .ok (.i2l, 1) := by decide +kernel
theorem dX4_digest_241 : decode cX4_digest 241 = .ok (.ladd, 1) := by decide +kernel
theorem dX4_digest_242 : decode cX4_digest 242 = .ok (.lstore_n 1, 1) := by decide +kernel
theorem dX4_digest_243 : decode cX4_digest 243 = .ok (.ldc2_w 188, 3) := by decide +kernel
theorem dX4_digest_246 : decode cX4_digest 246 = .ok (.lload_n 1, 1) := by decide +kernel
theorem dX4_digest_247 : decode cX4_digest 247 = .ok (.lmul, 1) := by decide +kernel
theorem dX4_digest_248 : decode cX4_digest 248 = .ok (.aload_n 0, 1) := by decide +kernel
theorem dX4_digest_249 : decode cX4_digest 249 = .ok (.iconst 0, 1) := by decide +kernel
theorem dX4_digest_250 : decode cX4_digest 250 = .ok (.iconst 1, 1) := by decide +kernel
theorem dX4_digest_251 : decode cX4_digest 251 = .ok (.iconst 1, 1) := by decide +kernel
theorem dX4_digest_252 : decode cX4_digest 252 = .ok (.invokevirtual 211, 3) := by decide +kernel
theorem dX4_digest_255 : decode cX4_digest 255 = .ok (.i2l, 1) := by decide +kernel
theorem dX4_digest_256 : decode cX4_digest 256 = .ok (.ladd, 1) := by decide +kernel
theorem dX4_digest_257 : decode cX4_digest 257 = .ok (.lstore_n 1, 1) := by decide +kernel
theorem dX4_digest_258 : decode cX4_digest 258 = .ok (.iconst 0, 1) := by decide +kernel
theorem dX4_digest_259 : decode cX4_digest 259 = .ok (.istore 4, 2) := by decide +kernel
theorem dX4_digest_261 : decode cX4_digest 261 = .ok (.iload 4, 2) := by decide +kernel
theorem dX4_digest_263 : decode cX4_digest 263 = .ok (.iload_n 3, 1) := by decide +kernel
theorem dX4_digest_264 : decode cX4_digest 264 = .ok (.if_icmp .ge 54, 3) := by decide +kernel
theorem dX4_digest_267 : decode cX4_digest 267 = .ok (.aload_n 0, 1) := by decide +kernel
theorem dX4_digest_268 : decode cX4_digest 268 = .ok (.getfield 19, 3) := by decide +kernel
theorem dX4_digest_271 : decode cX4_digest 271 = .ok (.getfield 62, 3) := by decide +kernel
theorem dX4_digest_274 : decode cX4_digest 274 = .ok (.iload 4, 2) := by decide +kernel
theorem dX4_digest_276 : decode cX4_digest 276 = .ok (.invokevirtual 76, 3) := by decide +kernel
theorem dX4_digest_279 : decode cX4_digest 279 = .ok (.ifCond .eq 33, 3) := by decide +kernel
theorem dX4_digest_282 : decode cX4_digest 282 = .ok (.ldc2_w 188, 3) := by decide +kernel
theorem dX4_digest_285 : decode cX4_digest 285 = .ok (.lload_n 1, 1) := by decide +kernel
theorem dX4_digest_286 : decode cX4_digest 286 = .ok (.lmul, 1) := by decide +kernel
theorem dX4_digest_287 : decode cX4_digest 287 = .ok (.aload_n 0, 1) := by decide +kernel
theorem dX4_digest_288 : decode cX4_digest 288 = .ok (.iload 4, 2) := by decide +kernel
theorem dX4_digest_290 : decode cX4_digest 290 = .ok (.iconst 0, 1) := by decide +kernel
theorem dX4_digest_291 : decode cX4_digest 291 = .ok (.invokevirtual 214, 3) := by decide +kernel
theorem dX4_digest_294 : decode cX4_digest 294 = .ok (.i2l, 1) := by decide +kernel
theorem dX4_digest_295 : decode cX4_digest 295 = .ok (.ladd, 1) := by decide +kernel
theorem dX4_digest_296 : decode cX4_digest 296 = .ok (.lstore_n 1, 1) := by decide +kernel
theorem dX4_digest_297 : decode cX4_digest 297 = .ok (.ldc2_w 188, 3) := by decide +kernel
theorem dX4_digest_300 : decode cX4_digest 300 = .ok (.lload_n 1, 1) := by decide +kernel
theorem dX4_digest_301 : decode cX4_digest 301 = .ok (.lmul, 1) := by decide +kernel
theorem dX4_digest_302 : decode cX4_digest 302 = .ok (.aload_n 0, 1) := by decide +kernel
theorem dX4_digest_303 : decode cX4_digest 303 = .ok (.iload 4, 2) := by decide +kernel
theorem dX4_digest_305 : decode cX4_digest 305 = .ok (.iconst 1, 1) := by decide +kernel
theorem dX4_digest_306 : decode cX4_digest 306 = .ok (.invokevirtual 214, 3) := by decide +kernel
theorem dX4_digest_309 : decode cX4_digest 309 = .ok (.i2l, 1) := by decide +kernel
theorem dX4_digest_310 : decode cX4_digest 310 = .ok (.ladd, 1) := by decide +kernel
theorem dX4_digest_311 : decode cX4_digest 311 = .ok (.lstore_n 1, 1) := by decide +kernel
theorem dX4_digest_312 : decode cX4_digest 312 = .ok (.iinc 4 1, 3) := by decide +kernel
theorem dX4_digest_315 : decode cX4_digest 315 = .ok (.goto (-54), 3) := by decide +kernel
theorem dX4_digest_318 : decode cX4_digest 318 = .ok (.iconst 0, 1) := by decide +kernel
theorem dX4_digest_319 : decode cX4_digest 319 = .ok (.istore 4, 2) := by decide +kernel
theorem dX4_digest_321 : decode cX4_digest 321 = .ok (.iload 4, 2) := by decide +kernel
theorem dX4_digest_323 : decode cX4_digest 323 = .ok (.aload_n 0, 1) := by decide +kernel
theorem dX4_digest_324 : decode cX4_digest 324 = .ok (.getfield 15, 3) := by decide +kernel
theorem dX4_digest_327 : decode cX4_digest 327 = .ok (.getfield 39, 3) := by decide +kernel
theorem dX4_digest_330 : decode cX4_digest 330 = .ok (.if_icmp .ge 27, 3) := by decide +kernel
theorem dX4_digest_333 : decode cX4_digest 333 = .ok (.ldc2_w 188, 3) := by decide +kernel
theorem dX4_digest_336 : decode cX4_digest 336 = .ok (.lload_n 1, 1) := by decide +kernel
theorem dX4_digest_337 : decode cX4_digest 337 = .ok (.lmul, 1) := by decide +kernel
theorem dX4_digest_338 : decode cX4_digest 338 = .ok (.aload_n 0, 1) := by decide +kernel
theorem dX4_digest_339 : decode cX4_digest 339 = .ok (.getfield 15, 3) := by decide +kernel
theorem dX4_digest_342 : decode cX4_digest 342 = .ok (.getfield 217, 3) := by decide +kernel
theorem dX4_digest_345 : decode cX4_digest 345 = .ok (.iload 4, 2) := by decide +kernel
theorem dX4_digest_347 : decode cX4_digest 347 = .ok (.iaload, 1) := by decide +kernel
theorem dX4_digest_348 : decode cX4_digest 348 = .ok (.i2l, 1) := by decide +kernel
theorem dX4_digest_349 : decode cX4_digest 349 = .ok (.ladd, 1) := by decide +kernel
theorem dX4_digest_350 : decode cX4_digest 350 = .ok (.lstore_n 1, 1) := by decide +kernel
theorem dX4_digest_351 : decode cX4_digest 351 = .ok (.iinc 4 1, 3) := by decide +kernel
theorem dX4_digest_354 : decode cX4_digest 354 = .ok (.goto (-33), 3) := by decide +kernel
theorem dX4_digest_357 : decode cX4_digest 357 = .ok (.iconst 0, 1) := by decide +kernel
theorem dX4_digest_358 : decode cX4_digest 358 = .ok (.istore 4, 2) := by decide +kernel
theorem dX4_digest_360 : decode cX4_digest 360 = .ok (.iload 4, 2) := by decide +kernel
theorem dX4_digest_362 : decode cX4_digest 362 = .ok (.bipush 10, 2) := by decide +kernel
theorem dX4_digest_364 : decode cX4_digest 364 = .ok (.if_icmp .gt 23, 3) := by decide +kernel
theorem dX4_digest_367 : decode cX4_digest 367 = .ok (.ldc2_w 188, 3) := by decide +kernel
theorem dX4_digest_370 : decode cX4_digest 370 = .ok (.lload_n 1, 1) := by decide +kernel
theorem dX4_digest_371 : decode cX4_digest 371 = .ok (.lmul, 1) := by decide +kernel
theorem dX4_digest_372 : decode cX4_digest 372 = .ok (.aload_n 0, 1) := by decide +kernel
theorem dX4_digest_373 : decode cX4_digest 373 = .ok (.iload 4, 2) := by decide +kernel
theorem dX4_digest_375 : decode cX4_digest 375 = .ok (.invokevirtual 220, 3) := by decide +kernel
theorem dX4_digest_378 : decode cX4_digest 378 = .ok (.i2l, 1) := by decide +kernel
theorem dX4_digest_379 : decode cX4_digest 379 = .ok (.ladd, 1) := by decide +kernel
theorem dX4_digest_380 : decode cX4_digest 380 = .ok (.lstore_n 1, 1) := by decide +kernel
theorem dX4_digest_381 : decode cX4_digest 381 = .ok (.iinc 4 1, 3) := by decide +kernel
theorem dX4_digest_384 : decode cX4_digest 384 = .ok (.goto (-24), 3) := by decide +kernel
theorem dX4_digest_387 : decode cX4_digest 387 = .ok (.lload_n 1, 1) := by decide +kernel
theorem dX4_digest_388 : decode cX4_digest 388 = .ok (.lreturn, 1) := by decide +kernel
theorem dX4_isKind_0 : decode cX4_isKind 0 = .ok (.iload_n 0, 1) := by decide +kernel
theorem dX4_isKind_1 : decode cX4_isKind 1 = .ok (.ifCond .lt 12, 3) := by decide +kernel
theorem dX4_isKind_4 : decode cX4_isKind 4 = .ok (.iload_n 0, 1) := by decide +kernel
theorem dX4_isKind_5 : decode cX4_isKind 5 = .ok (.iconst 4, 1) := by decide +kernel
theorem dX4_isKind_6 : decode cX4_isKind 6 = .ok (.if_icmp .gt 7, 3) := by decide +kernel
theorem dX4_isKind_9 : decode cX4_isKind 9 = .ok (.iconst 1, 1) := by decide +kernel
theorem dX4_isKind_10 : decode cX4_isKind 10 = .ok (.goto 4, 3) := by decide +kernel
theorem dX4_isKind_13 : decode cX4_isKind 13 = .ok (.iconst 0, 1) := by decide +kernel
theorem dX4_isKind_14 : decode cX4_isKind 14 = .ok (.ireturn, 1) := by decide +kernel
theorem dX4_isBeats_0 : decode cX4_isBeats 0 = .ok (.iload_n 0, 1) := by decide +kernel
theorem dX4_isBeats_1 : decode cX4_isBeats 1 = .ok (.iconst 1, 1) := by decide +kernel
theorem dX4_isBeats_2 : decode cX4_isBeats 2 = .ok (.if_icmp .lt 13, 3) := by decide +kernel
theorem dX4_isBeats_5 : decode cX4_isBeats 5 = .ok (.iload_n 0, 1) := by decide +kernel
theorem dX4_isBeats_6 : decode cX4_isBeats 6 = .ok (.bipush 99, 2) := by decide +kernel
theorem dX4_isBeats_8 : decode cX4_isBeats 8 = .ok (.if_icmp .gt 7, 3) := by decide +kernel
theorem dX4_isBeats_11 : decode cX4_isBeats 11 = .ok (.iconst 1, 1) := by decide +kernel
theorem dX4_isBeats_12 : decode cX4_isBeats 12 = .ok (.goto 4, 3) := by decide +kernel
theorem dX4_isBeats_15 : decode cX4_isBeats 15 = .ok (.iconst 0, 1) := by decide +kernel
theorem dX4_isBeats_16 : decode cX4_isBeats 16 = .ok (.ireturn, 1) := by decide +kernel
theorem dX5_init_0 : decode cX5_init 0 = .ok (.aload_n 0, 1) := by decide +kernel
theorem dX5_init_1 : decode cX5_init 1 = .ok (.invokespecial 1, 3) := by decide +kernel
theorem dX5_init_4 : decode cX5_init 4 = .ok (.aload_n 0, 1) := by decide +kernel
theorem dX5_init_5 : decode cX5_init 5 = .ok (.iconst 3, 1) := by decide +kernel
theorem dX5_init_6 : decode cX5_init 6 = .ok (.newarray .int, 2) := by decide +kernel
theorem dX5_init_8 : decode cX5_init 8 = .ok (.putfield 7, 3) := by decide +kernel
theorem dX5_init_11 : decode cX5_init 11 = .ok (.aload_n 0, 1) := by decide +kernel
theorem dX5_init_12 : decode cX5_init 12 = .ok (.bipush 9, 2) := by decide +kernel
theorem dX5_init_14 : decode cX5_init 14 = .ok (.newarray .int, 2) := by decide +kernel
theorem dX5_init_16 : decode cX5_init 16 = .ok (.putfield 13, 3) := by decide +kernel
theorem dX5_init_19 : decode cX5_init 19 = .ok (.aload_n 0, 1) := by decide +kernel
theorem dX5_init_20 : decode cX5_init 20 = .ok (.bipush 6, 2) := by decide +kernel
theorem dX5_init_22 : decode cX5_init 22 = .ok (.newarray .int, 2) := by decide +kernel
theorem dX5_init_24 : decode cX5_init 24 = .ok (.putfield 16, 3) := by decide +kernel
theorem dX5_init_27 : decode cX5_init 27 = .ok (.aload_n 0, 1) := by decide +kernel
theorem dX5_init_28 : decode cX5_init 28 = .ok (.bipush 6, 2) := by decide +kernel
theorem dX5_init_30 : decode cX5_init 30 = .ok (.newarray .int, 2) := by decide +kernel
theorem dX5_init_32 : decode cX5_init 32 = .ok (.putfield 19, 3) := by decide +kernel
theorem dX5_init_35 : decode cX5_init 35 = .ok (.aload_n 0, 1) := by decide +kernel
theorem dX5_init_36 : decode cX5_init 36 = .ok (.bipush 20, 2) := by decide +kernel
theorem dX5_init_38 : decode cX5_init 38 = .ok (.newarray .byte, 2) := by decide +kernel
theorem dX5_init_40 : decode cX5_init 40 = .ok (.putfield 22, 3) := by decide +kernel
theorem dX5_init_43 : decode cX5_init 43 = .ok (.aload_n 0, 1) := by decide +kernel
theorem dX5_init_44 : decode cX5_init 44 = .ok (.sipush 2187, 3) := by decide +kernel
theorem dX5_init_47 : decode cX5_init 47 = .ok (.newarray .int, 2) := by decide +kernel
theorem dX5_init_49 : decode cX5_init 49 = .ok (.putfield 26, 3) := by decide +kernel
theorem dX5_init_52 : decode cX5_init 52 = .ok (.aload_n 0, 1) := by decide +kernel
theorem dX5_init_53 : decode cX5_init 53 = .ok (.bipush 8, 2) := by decide +kernel
theorem dX5_init_55 : decode cX5_init 55 = .ok (.newarray .int, 2) := by decide +kernel
theorem dX5_init_57 : decode cX5_init 57 = .ok (.putfield 29, 3) := by decide +kernel
theorem dX5_init_60 : decode cX5_init 60 = .ok (.aload_n 0, 1) := by decide +kernel
theorem dX5_init_61 : decode cX5_init 61 = .ok (.bipush 8, 2) := by decide +kernel
theorem dX5_init_63 : decode cX5_init 63 = .ok (.newarray .int, 2) := by decide +kernel
theorem dX5_init_65 : decode cX5_init 65 = .ok (.putfield 32, 3) := by decide +kernel
theorem dX5_init_68 : decode cX5_init 68 = .ok (.aload_n 0, 1) := by decide +kernel
theorem dX5_init_69 : decode cX5_init 69 = .ok (.bipush 8, 2) := by decide +kernel
theorem dX5_init_71 : decode cX5_init 71 = .ok (.newarray .int, 2) := by decide +kernel
theorem dX5_init_73 : decode cX5_init 73 = .ok (.putfield 35, 3) := by decide +kernel
theorem dX5_init_76 : decode cX5_init 76 = .ok (.aload_n 0, 1) := by decide +kernel
theorem dX5_init_77 : decode cX5_init 77 = .ok (.bipush 8, 2) := by decide +kernel
theorem dX5_init_79 : decode cX5_init 79 = .ok (.newarray .int, 2) := by decide +kernel
theorem dX5_init_81 : decode cX5_init 81 = .ok (.putfield 38, 3) := by decide +kernel
theorem dX5_init_84 : decode cX5_init 84 = .ok (.aload_n 0, 1) := by decide +kernel
theorem dX5_init_85 : decode cX5_init 85 = .ok (.bipush 8, 2) := by decide +kernel
theorem dX5_init_87 : decode cX5_init 87 = .ok (.newarray .int, 2) := by decide +kernel
theorem dX5_init_89 : decode cX5_init 89 = .ok (.putfield 41, 3) := by decide +kernel
theorem dX5_init_92 : decode cX5_init 92 = .ok (.aload_n 0, 1) := by decide +kernel
theorem dX5_init_93 : decode cX5_init 93 = .ok (.bipush 8, 2) := by decide +kernel
theorem dX5_init_95 : decode cX5_init 95 = .ok (.newarray .int, 2) := by decide +kernel
theorem dX5_init_97 : decode cX5_init 97 = .ok (.putfield 44, 3) := by decide +kernel
theorem dX5_init_100 : decode cX5_init 100 = .ok (.aload_n 0, 1) := by decide +kernel
theorem dX5_init_101 : decode cX5_init 101 = .ok (.bipush 24, 2) := by decide +kernel
theorem dX5_init_103 : decode cX5_init 103 = .ok (.newarray .int, 2) := by decide +kernel
theorem dX5_init_105 : decode cX5_init 105 = .ok (.putfield 47, 3) := by decide +kernel
theorem dX5_init_108 : decode cX5_init 108 = .ok (.aload_n 0, 1) := by decide +kernel
theorem dX5_init_109 : decode cX5_init 109 = .ok (.bipush 24, 2) := by decide +kernel
theorem dX5_init_111 : decode cX5_init 111 = .ok (.newarray .int, 2) := by decide +kernel
theorem dX5_init_113 : decode cX5_init 113 = .ok (.putfield 50, 3) := by decide +kernel
theorem dX5_init_116 : decode cX5_init 116 = .ok (.aload_n 0, 1) := by decide +kernel
theorem dX5_init_117 : decode cX5_init 117 = .ok (.bipush 24, 2) := by decide +kernel
theorem dX5_init_119 : decode cX5_init 119 = .ok (.newarray .int, 2) := by decide +kernel
theorem dX5_init_121 : decode cX5_init 121 = .ok (.putfield 53, 3) := by decide +kernel
theorem dX5_init_124 : decode cX5_init 124 = .ok (.aload_n 0, 1) := by decide +kernel
theorem dX5_init_125 : decode cX5_init 125 = .ok (.bipush 24, 2) := by decide +kernel
theorem dX5_init_127 : decode cX5_init 127 = .ok (.newarray .int, 2) := by decide +kernel
theorem dX5_init_129 : decode cX5_init 129 = .ok (.putfield 56, 3) := by decide +kernel
theorem dX5_init_132 : decode cX5_init 132 = .ok (.aload_n 0, 1) := by decide +kernel
theorem dX5_init_133 : decode cX5_init 133 = .ok (.bipush 8, 2) := by decide +kernel
theorem dX5_init_135 : decode cX5_init 135 = .ok (.newarray .int, 2) := by decide +kernel
theorem dX5_init_137 : decode cX5_init 137 = .ok (.putfield 59, 3) := by decide +kernel
theorem dX5_init_140 : decode cX5_init 140 = .ok (.aload_n 0, 1) := by decide +kernel
theorem dX5_init_141 : decode cX5_init 141 = .ok (.bipush 8, 2) := by decide +kernel
theorem dX5_init_143 : decode cX5_init 143 = .ok (.newarray .int, 2) := by decide +kernel
theorem dX5_init_145 : decode cX5_init 145 = .ok (.putfield 62, 3) := by decide +kernel
theorem dX5_init_148 : decode cX5_init 148 = .ok (.aload_n 0, 1) := by decide +kernel
theorem dX5_init_149 : decode cX5_init 149 = .ok (.bipush 8, 2) := by decide +kernel
theorem dX5_init_151 : decode cX5_init 151 = .ok (.newarray .int, 2) := by decide +kernel
theorem dX5_init_153 : decode cX5_init 153 = .ok (.putfield 65, 3) := by decide +kernel
theorem dX5_init_156 : decode cX5_init 156 = .ok (.aload_n 0, 1) := by decide +kernel
theorem dX5_init_157 : decode cX5_init 157 = .ok (.iconst 3, 1) := by decide +kernel
theorem dX5_init_158 : decode cX5_init 158 = .ok (.newarray .int, 2) := by decide +kernel
theorem dX5_init_160 : decode cX5_init 160 = .ok (.putfield 68, 3) := by decide +kernel
theorem dX5_init_163 : decode cX5_init 163 = .ok (.aload_n 0, 1) := by decide +kernel
theorem dX5_init_164 : decode cX5_init 164 = .ok (.bipush 6, 2) := by decide +kernel
theorem dX5_init_166 : decode cX5_init 166 = .ok (.newarray .int, 2) := by decide +kernel
theorem dX5_init_168 : decode cX5_init 168 = .ok (.putfield 71, 3) := by decide +kernel
theorem dX5_init_171 : decode cX5_init 171 = .ok (.aload_n 0, 1) := by decide +kernel
theorem dX5_init_172 : decode cX5_init 172 = .ok (.bipush 6, 2) := by decide +kernel
theorem dX5_init_174 : decode cX5_init 174 = .ok (.newarray .int, 2) := by decide +kernel
theorem dX5_init_176 : decode cX5_init 176 = .ok (.putfield 74, 3) := by decide +kernel
theorem dX5_init_179 : decode cX5_init 179 = .ok (.return_, 1) := by decide +kernel
theorem dX5_within_0 : decode cX5_within 0 = .ok (.iload_n 0, 1) := by decide +kernel
theorem dX5_within_1 : decode cX5_within 1 = .ok (.iload_n 1, 1) := by decide +kernel
theorem dX5_within_2 : decode cX5_within 2 = .ok (.if_icmp .lt 12, 3) := by decide +kernel
theorem dX5_within_5 : decode cX5_within 5 = .ok (.iload_n 0, 1) := by decide +kernel
theorem dX5_within_6 : decode cX5_within 6 = .ok (.iload_n 2, 1) := by decide +kernel
theorem dX5_within_7 : decode cX5_within 7 = .ok (.if_icmp .gt 7, 3) := by decide +kernel
theorem dX5_within_10 : decode cX5_within 10 = .ok (.iconst 1, 1) := by decide +kernel
theorem dX5_within_11 : decode cX5_within 11 = .ok (.goto 4, 3) := by decide +kernel
theorem dX5_within_14 : decode cX5_within 14 = .ok (.iconst 0, 1) := by decide +kernel
theorem dX5_within_15 : decode cX5_within 15 = .ok (.ireturn, 1) := by decide +kernel
theorem dX5_isIn_0 : decode cX5_isIn 0 = .ok (.iload_n 0, 1) := by decide +kernel
theorem dX5_isIn_1 : decode cX5_isIn 1 = .ok (.iload_n 1, 1) := by decide +kernel
theorem dX5_isIn_2 : decode cX5_isIn 2 = .ok (.ishr, 1) := by decide +kernel
theorem dX5_isIn_3 : decode cX5_isIn 3 = .ok (.iconst 1, 1) := by decide +kernel
theorem dX5_isIn_4 : decode cX5_isIn 4 = .ok (.iand, 1) := by decide +kernel
theorem dX5_isIn_5 : decode cX5_isIn 5 = .ok (.iconst 1, 1) := by decide +kernel
theorem dX5_isIn_6 : decode cX5_isIn 6 = .ok (.if_icmp .ne 7, 3) := by decide +kernel
theorem dX5_isIn_9 : decode cX5_isIn 9 = .ok (.iconst 1, 1) := by decide +kernel
theorem dX5_isIn_10 : decode cX5_isIn 10 = .ok (.goto 4, 3) := by decide +kernel
theorem dX5_isIn_13 : decode cX5_isIn 13 = .ok (.iconst 0, 1) := by decide +kernel
theorem dX5_isIn_14 : decode cX5_isIn 14 = .ok (.ireturn, 1) := by decide +kernel
theorem dX5_size_0 : decode cX5_size 0 = .ok (.iconst 0, 1) := by decide +kernel
theorem dX5_size_1 : decode cX5_size 1 = .ok (.istore_n 1, 1) := by decide +kernel
theorem dX5_size_2 : decode cX5_size 2 = .ok (.iconst 0, 1) := by decide +kernel
theorem dX5_size_3 : decode cX5_size 3 = .ok (.istore_n 2, 1) := by decide +kernel
theorem dX5_size_4 : decode cX5_size 4 = .ok (.iload_n 2, 1) := by decide +kernel
theorem dX5_size_5 : decode cX5_size 5 = .ok (.bipush 24, 2) := by decide +kernel
theorem dX5_size_7 : decode cX5_size 7 = .ok (.if_icmp .ge 17, 3) := by decide +kernel
theorem dX5_size_10 : decode cX5_size 10 = .ok (.iload_n 1, 1) := by decide +kernel
theorem dX5_size_11 : decode cX5_size 11 = .ok (.iload_n 0, 1) := by decide +kernel
theorem dX5_size_12 : decode cX5_size 12 = .ok (.iload_n 2, 1) := by decide +kernel
theorem dX5_size_13 : decode cX5_size 13 = .ok (.ishr, 1) := by decide +kernel
theorem dX5_size_14 : decode cX5_size 14 = .ok (.iconst 1, 1) := by decide +kernel
theorem dX5_size_15 : decode cX5_size 15 = .ok (.iand, 1) := by decide +kernel
theorem dX5_size_16 : decode cX5_size 16 = .ok (.iadd, 1) := by decide +kernel
theorem dX5_size_17 : decode cX5_size 17 = .ok (.istore_n 1, 1) := by decide +kernel
theorem dX5_size_18 : decode cX5_size 18 = .ok (.iinc 2 1, 3) := by decide +kernel
theorem dX5_size_21 : decode cX5_size 21 = .ok (.goto (-17), 3) := by decide +kernel
theorem dX5_size_24 : decode cX5_size 24 = .ok (.iload_n 1, 1) := by decide +kernel
theorem dX5_size_25 : decode cX5_size 25 = .ok (.ireturn, 1) := by decide +kernel
theorem dX5_divisor_0 : decode cX5_divisor 0 = .ok (.iload_n 0, 1) := by decide +kernel
theorem dX5_divisor_1 : decode cX5_divisor 1 = .ok (.istore_n 2, 1) := by decide +kernel
theorem dX5_divisor_2 : decode cX5_divisor 2 = .ok (.iload_n 1, 1) := by decide +kernel
theorem dX5_divisor_3 : decode cX5_divisor 3 = .ok (.istore_n 3, 1) := by decide +kernel
theorem dX5_divisor_4 : decode cX5_divisor 4 = .ok (.iload_n 3, 1) := by decide +kernel
theorem dX5_divisor_5 : decode cX5_divisor 5 = .ok (.ifCond .eq 16, 3) := by decide +kernel
theorem dX5_divisor_8 : decode cX5_divisor 8 = .ok (.iload_n 2, 1) := by decide +kernel
theorem dX5_divisor_9 : decode cX5_divisor 9 = .ok (.iload_n 3, 1) := by decide +kernel
theorem dX5_divisor_10 : decode cX5_divisor 10 = .ok (.irem, 1) := by decide +kernel
theorem dX5_divisor_11 : decode cX5_divisor 11 = .ok (.istore 4, 2) := by decide +kernel
theorem dX5_divisor_13 : decode cX5_divisor 13 = .ok (.iload_n 3, 1) := by decide +kernel
theorem dX5_divisor_14 : decode cX5_divisor 14 = .ok (.istore_n 2, 1) := by decide +kernel
theorem dX5_divisor_15 : decode cX5_divisor 15 = .ok (.iload 4, 2) := by decide +kernel
theorem dX5_divisor_17 : decode cX5_divisor 17 = .ok (.istore_n 3, 1) := by decide +kernel
theorem dX5_divisor_18 : decode cX5_divisor 18 = .ok (.goto (-14), 3) := by decide +kernel
theorem dX5_divisor_21 : decode cX5_divisor 21 = .ok (.iload_n 2, 1) := by decide +kernel
theorem dX5_divisor_22 : decode cX5_divisor 22 = .ok (.ireturn, 1) := by decide +kernel
theorem dX5_letter_0 : decode cX5_letter 0 = .ok (.iload_n 1, 1) := by decide +kernel
theorem dX5_letter_1 : decode cX5_letter 1 = .ok (.bipush 32, 2) := by decide +kernel
theorem dX5_letter_3 : decode cX5_letter 3 = .ok (.bipush 126, 2) := by decide +kernel
theorem dX5_letter_5 : decode cX5_letter 5 = .ok (.invokestatic 77, 3) := by decide +kernel
theorem dX5_letter_8 : decode cX5_letter 8 = .ok (.ifCond .ne 6, 3) := by decide +kernel
theorem dX5_letter_11 : decode cX5_letter 11 = .ok (.bipush (-102), 2) := by decide +kernel
theorem dX5_letter_13 : decode cX5_letter 13 = .ok (.ireturn, 1) := by decide +kernel
theorem dX5_letter_14 : decode cX5_letter 14 = .ok (.aload_n 0, 1) := by decide +kernel
theorem dX5_letter_15 : decode cX5_letter 15 = .ok (.getfield 81, 3) := by decide +kernel
theorem dX5_letter_18 : decode cX5_letter 18 = .ok (.bipush 20, 2) := by decide +kernel
theorem dX5_letter_20 : decode cX5_letter 20 = .ok (.if_icmp .ne 6, 3) := by decide +kernel
theorem dX5_letter_23 : decode cX5_letter 23 = .ok (.bipush (-104), 2) := by decide +kernel
theorem dX5_letter_25 : decode cX5_letter 25 = .ok (.ireturn, 1) := by decide +kernel
theorem dX5_letter_26 : decode cX5_letter 26 = .ok (.aload_n 0, 1) := by decide +kernel
theorem dX5_letter_27 : decode cX5_letter 27 = .ok (.getfield 22, 3) := by decide +kernel
theorem dX5_letter_30 : decode cX5_letter 30 = .ok (.aload_n 0, 1) := by decide +kernel
theorem dX5_letter_31 : decode cX5_letter 31 = .ok (.getfield 81, 3) := by decide +kernel
theorem dX5_letter_34 : decode cX5_letter 34 = .ok (.iload_n 1, 1) := by decide +kernel
theorem dX5_letter_35 : decode cX5_letter 35 = .ok (.i2b, 1) := by decide +kernel
theorem dX5_letter_36 : decode cX5_letter 36 = .ok (.bastore, 1) := by decide +kernel
theorem dX5_letter_37 : decode cX5_letter 37 = .ok (.aload_n 0, 1) := by decide +kernel
theorem dX5_letter_38 : decode cX5_letter 38 = .ok (.dup, 1) := by decide +kernel
theorem dX5_letter_39 : decode cX5_letter 39 = .ok (.getfield 81, 3) := by decide +kernel
theorem dX5_letter_42 : decode cX5_letter 42 = .ok (.iconst 1, 1) := by decide +kernel
theorem dX5_letter_43 : decode cX5_letter 43 = .ok (.iadd, 1) := by decide +kernel
theorem dX5_letter_44 : decode cX5_letter 44 = .ok (.putfield 81, 3) := by decide +kernel
theorem dX5_letter_47 : decode cX5_letter 47 = .ok (.aload_n 0, 1) := by decide +kernel
theorem dX5_letter_48 : decode cX5_letter 48 = .ok (.getfield 81, 3) := by decide +kernel
theorem dX5_letter_51 : decode cX5_letter 51 = .ok (.ireturn, 1) := by decide +kernel
theorem dX5_blank_0 : decode cX5_blank 0 = .ok (.aload_n 0, 1) := by decide +kernel
theorem dX5_blank_1 : decode cX5_blank 1 = .ok (.getfield 81, 3) := by decide +kernel
theorem dX5_blank_4 : decode cX5_blank 4 = .ok (.istore_n 1, 1) := by decide +kernel
theorem dX5_blank_5 : decode cX5_blank 5 = .ok (.aload_n 0, 1) := by decide +kernel
theorem dX5_blank_6 : decode cX5_blank 6 = .ok (.iconst 0, 1) := by decide +kernel
theorem dX5_blank_7 : decode cX5_blank 7 = .ok (.putfield 81, 3) := by decide +kernel
theorem dX5_blank_10 : decode cX5_blank 10 = .ok (.iload_n 1, 1) := by decide +kernel
theorem dX5_blank_11 : decode cX5_blank 11 = .ok (.ireturn, 1) := by decide +kernel
theorem dX5_kindBy_0 : decode cX5_kindBy 0 = .ok (.iload_n 0, 1) := by decide +kernel
theorem dX5_kindBy_1 : decode cX5_kindBy 1 = .ok (.lookupswitch 61 #[(98, 55), (99, 51), (107, 59), (115, 57), (116, 53)], 51) := by decide +kernel
theorem dX5_kindBy_52 : decode cX5_kindBy 52 = .ok (.iconst 0, 1) := by decide +kernel
theorem dX5_kindBy_53 : decode cX5_kindBy 53 = .ok (.ireturn, 1) := by decide +kernel
theorem dX5_kindBy_54 : decode cX5_kindBy 54 = .ok (.iconst 1, 1) := by decide +kernel
theorem dX5_kindBy_55 : decode cX5_kindBy 55 = .ok (.ireturn, 1) := by decide +kernel
theorem dX5_kindBy_56 : decode cX5_kindBy 56 = .ok (.iconst 2, 1) := by decide +kernel
theorem dX5_kindBy_57 : decode cX5_kindBy 57 = .ok (.ireturn, 1) := by decide +kernel
theorem dX5_kindBy_58 : decode cX5_kindBy 58 = .ok (.iconst 3, 1) := by decide +kernel
theorem dX5_kindBy_59 : decode cX5_kindBy 59 = .ok (.ireturn, 1) := by decide +kernel
theorem dX5_kindBy_60 : decode cX5_kindBy 60 = .ok (.iconst 4, 1) := by decide +kernel
theorem dX5_kindBy_61 : decode cX5_kindBy 61 = .ok (.ireturn, 1) := by decide +kernel
theorem dX5_kindBy_62 : decode cX5_kindBy 62 = .ok (.iconst (-1), 1) := by decide +kernel
theorem dX5_kindBy_63 : decode cX5_kindBy 63 = .ok (.ireturn, 1) := by decide +kernel
theorem dX5_at_0 : decode cX5_at 0 = .ok (.iload_n 1, 1) := by decide +kernel
theorem dX5_at_1 : decode cX5_at 1 = .ok (.aload_n 0, 1) := by decide +kernel
theorem dX5_at_2 : decode cX5_at 2 = .ok (.getfield 81, 3) := by decide +kernel
theorem dX5_at_5 : decode cX5_at 5 = .ok (.if_icmp .ge 12, 3) := by decide +kernel
theorem dX5_at_8 : decode cX5_at 8 = .ok (.aload_n 0, 1) := by decide +kernel
theorem dX5_at_9 : decode cX5_at 9 = .ok (.getfield 22, 3) := by decide +kernel
theorem dX5_at_12 : decode cX5_at 12 = .ok (.iload_n 1, 1) := by decide +kernel
theorem dX5_at_13 : decode cX5_at 13 = .ok (.baload, 1) := by decide +kernel
theorem dX5_at_14 : decode cX5_at 14 = .ok (.goto 4, 3) := by decide +kernel
theorem dX5_at_17 : decode cX5_at 17 = .ok (.iconst 0, 1) := by decide +kernel
theorem dX5_at_18 : decode cX5_at 18 = .ok (.ireturn, 1) := by decide +kernel
theorem dX5_isFigure_0 : decode cX5_isFigure 0 = .ok (.aload_n 0, 1) := by decide +kernel
theorem dX5_isFigure_1 : decode cX5_isFigure 1 = .ok (.iload_n 1, 1) := by decide +kernel
theorem dX5_isFigure_2 : decode cX5_isFigure 2 = .ok (.invokevirtual 85, 3) := by decide +kernel
theorem dX5_isFigure_5 : decode cX5_isFigure 5 = .ok (.bipush 48, 2) := by decide +kernel
theorem dX5_isFigure_7 : decode cX5_isFigure 7 = .ok (.isub, 1) := by decide +kernel
theorem dX5_isFigure_8 : decode cX5_isFigure 8 = .ok (.iload_n 2, 1) := by decide +kernel
theorem dX5_isFigure_9 : decode cX5_isFigure 9 = .ok (.bipush 9, 2) := by decide +kernel
theorem dX5_isFigure_11 : decode cX5_isFigure 11 = .ok (.invokestatic 77, 3) := by decide +kernel
theorem dX5_isFigure_14 : decode cX5_isFigure 14 = .ok (.ireturn, 1) := by decide +kernel
theorem dX5_readChildren_0 : decode cX5_readChildren 0 = .ok (.iload_n 1, 1) := by decide +kernel
theorem dX5_readChildren_1 : decode cX5_readChildren 1 = .ok (.istore_n 2, 1) := by decide +kernel
theorem dX5_readChildren_2 : decode cX5_readChildren 2 = .ok (.aload_n 0, 1) := by decide +kernel
theorem dX5_readChildren_3 : decode cX5_readChildren 3 = .ok (.getfield 89, 3) := by decide +kernel
theorem dX5_readChildren_6 : decode cX5_readChildren 6 = .ok (.bipush 8, 2) := by decide +kernel
theorem dX5_readChildren_8 : decode cX5_readChildren 8 = .ok (.if_icmp .ge 31, 3) := by decide +kernel
theorem dX5_readChildren_11 : decode cX5_readChildren 11 = .ok (.aload_n 0, 1) := by decide +kernel
theorem dX5_readChildren_12 : decode cX5_readChildren 12 = .ok (.iload_n 2, 1) := by decide +kernel
theorem dX5_readChildren_13 : decode cX5_readChildren 13 = .ok (.invokevirtual 85, 3) := by decide +kernel
theorem dX5_readChildren_16 : decode cX5_readChildren 16 = .ok (.invokestatic 92, 3) := by decide +kernel
theorem dX5_readChildren_19 : decode cX5_readChildren 19 = .ok (.iconst (-1), 1) := by decide +kernel
theorem dX5_readChildren_20 : decode cX5_readChildren 20 = .ok (.if_icmp .eq 19, 3) := by decide +kernel
theorem dX5_readChildren_23 : decode cX5_readChildren 23 = .ok (.aload_n 0, 1) := by decide +kernel
theorem dX5_readChildren_24 : decode cX5_readChildren 24 = .ok (.dup, 1) := by decide +kernel
theorem dX5_readChildren_25 : decode cX5_readChildren 25 = .ok (.getfield 89, 3) := by decide +kernel
theorem dX5_readChildren_28 : decode cX5_readChildren 28 = .ok (.iconst 1, 1) := by decide +kernel
theorem dX5_readChildren_29 : decode cX5_readChildren 29 = .ok (.iadd, 1) := by decide +kernel
theorem dX5_readChildren_30 : decode cX5_readChildren 30 = .ok (.putfield 89, 3) := by decide +kernel
theorem dX5_readChildren_33 : decode cX5_readChildren 33 = .ok (.iinc 2 1, 3) := by decide +kernel
theorem dX5_readChildren_36 : decode cX5_readChildren 36 = .ok (.goto (-34), 3) := by decide +kernel
theorem dX5_readChildren_39 : decode cX5_readChildren 39 = .ok (.aload_n 0, 1) := by decide +kernel
theorem dX5_readChildren_40 : decode cX5_readChildren 40 = .ok (.aload_n 0, 1) := by decide +kernel
theorem dX5_readChildren_41 : decode cX5_readChildren 41 = .ok (.getfield 89, 3) := by decide +kernel
theorem dX5_readChildren_44 : decode cX5_readChildren 44 = .ok (.iconst 1, 1) := by decide +kernel
theorem dX5_readChildren_45 : decode cX5_readChildren 45 = .ok (.if_icmp .le 15, 3) := by decide +kernel
theorem dX5_readChildren_48 : decode cX5_readChildren 48 = .ok (.iload_n 2, 1) := by decide +kernel
theorem dX5_readChildren_49 : decode cX5_readChildren 49 = .ok (.aload_n 0, 1) := by decide +kernel
theorem dX5_readChildren_50 : decode cX5_readChildren 50 = .ok (.getfield 81, 3) := by decide +kernel
theorem dX5_readChildren_53 : decode cX5_readChildren 53 = .ok (.if_icmp .ne 7, 3) := by decide +kernel
theorem dX5_readChildren_56 : decode cX5_readChildren 56 = .ok (.iconst 1, 1) := by decide +kernel
theorem dX5_readChildren_57 : decode cX5_readChildren 57 = .ok (.goto 4, 3) := by decide +kernel
theorem dX5_readChildren_60 : decode cX5_readChildren 60 = .ok (.iconst 0, 1) := by decide +kernel
theorem dX5_readChildren_61 : decode cX5_readChildren 61 = .ok (.putfield 95, 3) := by decide +kernel
theorem dX5_readChildren_64 : decode cX5_readChildren 64 = .ok (.iload_n 2, 1) := by decide +kernel
theorem dX5_readChildren_65 : decode cX5_readChildren 65 = .ok (.ireturn, 1) := by decide +kernel
theorem dX5_read_0 : decode cX5_read 0 = .ok (.aload_n 0, 1) := by decide +kernel
theorem dX5_read_1 : decode cX5_read 1 = .ok (.iconst 0, 1) := by decide +kernel
theorem dX5_read_2 : decode cX5_read 2 = .ok (.putfield 95, 3) := by decide +kernel
theorem dX5_read_5 : decode cX5_read 5 = .ok (.aload_n 0, 1) := by decide +kernel
theorem dX5_read_6 : decode cX5_read 6 = .ok (.iconst 0, 1) := by decide +kernel
theorem dX5_read_7 : decode cX5_read 7 = .ok (.putfield 99, 3) := by decide +kernel
theorem dX5_read_10 : decode cX5_read 10 = .ok (.aload_n 0, 1) := by decide +kernel
theorem dX5_read_11 : decode cX5_read 11 = .ok (.iconst 0, 1) := by decide +kernel
theorem dX5_read_12 : decode cX5_read 12 = .ok (.putfield 89, 3) := by decide +kernel
theorem dX5_read_15 : decode cX5_read 15 = .ok (.iconst 0, 1) := by decide +kernel
theorem dX5_read_16 : decode cX5_read 16 = .ok (.istore_n 1, 1) := by decide +kernel
theorem dX5_read_17 : decode cX5_read 17 = .ok (.aload_n 0, 1) := by decide +kernel
theorem dX5_read_18 : decode cX5_read 18 = .ok (.getfield 99, 3) := by decide +kernel
theorem dX5_read_21 : decode cX5_read 21 = .ok (.iconst 3, 1) := by decide +kernel
theorem dX5_read_22 : decode cX5_read 22 = .ok (.if_icmp .ge 100, 3) := by decide +kernel
theorem dX5_read_25 : decode cX5_read 25 = .ok (.aload_n 0, 1) := by decide +kernel
theorem dX5_read_26 : decode cX5_read 26 = .ok (.iload_n 1, 1) := by decide +kernel
theorem dX5_read_27 : decode cX5_read 27 = .ok (.iconst 0, 1) := by decide +kernel
theorem dX5_read_28 : decode cX5_read 28 = .ok (.invokevirtual 102, 3) := by decide +kernel
theorem dX5_read_31 : decode cX5_read 31 = .ok (.ifCond .ne 5, 3) := by decide +kernel
theorem dX5_read_34 : decode cX5_read 34 = .ok (.iload_n 1, 1) := by decide +kernel
theorem dX5_read_35 : decode cX5_read 35 = .ok (.ireturn, 1) := by decide +kernel
theorem dX5_read_36 : decode cX5_read 36 = .ok (.aload_n 0, 1) := by decide +kernel
theorem dX5_read_37 : decode cX5_read 37 = .ok (.iload_n 1, 1) := by decide +kernel
theorem dX5_read_38 : decode cX5_read 38 = .ok (.iconst 1, 1) := by decide +kernel
theorem dX5_read_39 : decode cX5_read 39 = .ok (.iadd, 1) := by decide +kernel
theorem dX5_read_40 : decode cX5_read 40 = .ok (.aload_n 0, 1) := by decide +kernel
theorem dX5_read_41 : decode cX5_read 41 = .ok (.iload_n 1, 1) := by decide +kernel
theorem dX5_read_42 : decode cX5_read 42 = .ok (.invokevirtual 85, 3) := by decide +kernel
theorem dX5_read_45 : decode cX5_read 45 = .ok (.bipush 48, 2) := by decide +kernel
theorem dX5_read_47 : decode cX5_read 47 = .ok (.if_icmp .ne 7, 3) := by decide +kernel
theorem dX5_read_50 : decode cX5_read 50 = .ok (.iconst 1, 1) := by decide +kernel
theorem dX5_read_51 : decode cX5_read 51 = .ok (.goto 4, 3) := by decide +kernel
theorem dX5_read_54 : decode cX5_read 54 = .ok (.iconst 0, 1) := by decide +kernel
theorem dX5_read_55 : decode cX5_read 55 = .ok (.invokevirtual 102, 3) := by decide +kernel
theorem dX5_read_58 : decode cX5_read 58 = .ok (.ifCond .ne 7, 3) := by decide +kernel
theorem dX5_read_61 : decode cX5_read 61 = .ok (.iload_n 1, 1) := by decide +kernel
theorem dX5_read_62 : decode cX5_read 62 = .ok (.iconst 1, 1) := by decide +kernel
theorem dX5_read_63 : decode cX5_read 63 = .ok (.iadd, 1) := by decide +kernel
theorem dX5_read_64 : decode cX5_read 64 = .ok (.ireturn, 1) := by decide +kernel
theorem dX5_read_65 : decode cX5_read 65 = .ok (.aload_n 0, 1) := by decide +kernel
theorem dX5_read_66 : decode cX5_read 66 = .ok (.dup, 1) := by decide +kernel
theorem dX5_read_67 : decode cX5_read 67 = .ok (.getfield 99, 3) := by decide +kernel
theorem dX5_read_70 : decode cX5_read 70 = .ok (.iconst 1, 1) := by decide +kernel
theorem dX5_read_71 : decode cX5_read 71 = .ok (.iadd, 1) := by decide +kernel
theorem dX5_read_72 : decode cX5_read 72 = .ok (.putfield 99, 3) := by decide +kernel
theorem dX5_read_75 : decode cX5_read 75 = .ok (.iinc 1 2, 3) := by decide +kernel
theorem dX5_read_78 : decode cX5_read 78 = .ok (.aload_n 0, 1) := by decide +kernel
theorem dX5_read_79 : decode cX5_read 79 = .ok (.iload_n 1, 1) := by decide +kernel
theorem dX5_read_80 : decode cX5_read 80 = .ok (.invokevirtual 85, 3) := by decide +kernel
theorem dX5_read_83 : decode cX5_read 83 = .ok (.bipush 59, 2) := by decide +kernel
theorem dX5_read_85 : decode cX5_read 85 = .ok (.if_icmp .ne 11, 3) := by decide +kernel
theorem dX5_read_88 : decode cX5_read 88 = .ok (.aload_n 0, 1) := by decide +kernel
theorem dX5_read_89 : decode cX5_read 89 = .ok (.iload_n 1, 1) := by decide +kernel
theorem dX5_read_90 : decode cX5_read 90 = .ok (.iconst 1, 1) := by decide +kernel
theorem dX5_read_91 : decode cX5_read 91 = .ok (.iadd, 1) := by decide +kernel
theorem dX5_read_92 : decode cX5_read 92 = .ok (.invokevirtual 106, 3) := by decide +kernel
theorem dX5_read_95 : decode cX5_read 95 = .ok (.ireturn, 1) := by decide +kernel
theorem dX5_read_96 : decode cX5_read 96 = .ok (.aload_n 0, 1) := by decide +kernel
theorem dX5_read_97 : decode cX5_read 97 = .ok (.getfield 99, 3) := by decide +kernel
theorem dX5_read_100 : decode cX5_read 100 = .ok (.iconst 3, 1) := by decide +kernel
theorem dX5_read_101 : decode cX5_read 101 = .ok (.if_icmp .eq 13, 3) := by decide +kernel
theorem dX5_read_104 : decode cX5_read 104 = .ok (.aload_n 0, 1) := by decide +kernel
theorem dX5_read_105 : decode cX5_read 105 = .ok (.iload_n 1, 1) := by decide +kernel
theorem dX5_read_106 : decode cX5_read 106 = .ok (.invokevirtual 85, 3) := by decide +kernel
theorem dX5_read_109 : decode cX5_read 109 = .ok (.bipush 44, 2) := by decide +kernel
theorem dX5_read_111 : decode cX5_read 111 = .ok (.if_icmp .eq 5, 3) := by decide +kernel
theorem dX5_read_114 : decode cX5_read 114 = .ok (.iload_n 1, 1) := by decide +kernel
theorem dX5_read_115 : decode cX5_read 115 = .ok (.ireturn, 1) := by decide +kernel
theorem dX5_read_116 : decode cX5_read 116 = .ok (.iinc 1 1, 3) := by decide +kernel
theorem dX5_read_119 : decode cX5_read 119 = .ok (.goto (-102), 3) := by decide +kernel
theorem dX5_read_122 : decode cX5_read 122 = .ok (.iload_n 1, 1) := by decide +kernel
theorem dX5_read_123 : decode cX5_read 123 = .ok (.ireturn, 1) := by decide +kernel
theorem dX5_fault_0 : decode cX5_fault 0 = .ok (.aload_n 0, 1) := by decide +kernel
theorem dX5_fault_1 : decode cX5_fault 1 = .ok (.invokevirtual 109, 3) := by decide +kernel
theorem dX5_fault_4 : decode cX5_fault 4 = .ok (.ireturn, 1) := by decide +kernel
theorem dX5_ring_0 : decode cX5_ring 0 = .ok (.aload_n 0, 1) := by decide +kernel
theorem dX5_ring_1 : decode cX5_ring 1 = .ok (.invokevirtual 109, 3) := by decide +kernel
theorem dX5_ring_4 : decode cX5_ring 4 = .ok (.pop, 1) := by decide +kernel
theorem dX5_ring_5 : decode cX5_ring 5 = .ok (.aload_n 0, 1) := by decide +kernel
theorem dX5_ring_6 : decode cX5_ring 6 = .ok (.getfield 95, 3) := by decide +kernel
theorem dX5_ring_9 : decode cX5_ring 9 = .ok (.ifCond .ne 6, 3) := by decide +kernel
theorem dX5_ring_12 : decode cX5_ring 12 = .ok (.bipush (-103), 2) := by decide +kernel
theorem dX5_ring_14 : decode cX5_ring 14 = .ok (.ireturn, 1) := by decide +kernel
theorem dX5_ring_15 : decode cX5_ring 15 = .ok (.aload_n 0, 1) := by decide +kernel
theorem dX5_ring_16 : decode cX5_ring 16 = .ok (.aload_n 0, 1) := by decide +kernel
theorem dX5_ring_17 : decode cX5_ring 17 = .ok (.getfield 99, 3) := by decide +kernel
theorem dX5_ring_20 : decode cX5_ring 20 = .ok (.putfield 113, 3) := by decide +kernel
theorem dX5_ring_23 : decode cX5_ring 23 = .ok (.aload_n 0, 1) := by decide +kernel
theorem dX5_ring_24 : decode cX5_ring 24 = .ok (.aload_n 0, 1) := by decide +kernel
theorem dX5_ring_25 : decode cX5_ring 25 = .ok (.getfield 89, 3) := by decide +kernel
theorem dX5_ring_28 : decode cX5_ring 28 = .ok (.putfield 116, 3) := by decide +kernel
theorem dX5_ring_31 : decode cX5_ring 31 = .ok (.iconst 0, 1) := by decide +kernel
theorem dX5_ring_32 : decode cX5_ring 32 = .ok (.istore_n 1, 1) := by decide +kernel
theorem dX5_ring_33 : decode cX5_ring 33 = .ok (.iload_n 1, 1) := by decide +kernel
theorem dX5_ring_34 : decode cX5_ring 34 = .ok (.aload_n 0, 1) := by decide +kernel
theorem dX5_ring_35 : decode cX5_ring 35 = .ok (.getfield 113, 3) := by decide +kernel
theorem dX5_ring_38 : decode cX5_ring 38 = .ok (.if_icmp .ge 43, 3) := by decide +kernel
theorem dX5_ring_41 : decode cX5_ring 41 = .ok (.aload_n 0, 1) := by decide +kernel
theorem dX5_ring_42 : decode cX5_ring 42 = .ok (.getfield 7, 3) := by decide +kernel
theorem dX5_ring_45 : decode cX5_ring 45 = .ok (.iload_n 1, 1) := by decide +kernel
theorem dX5_ring_46 : decode cX5_ring 46 = .ok (.bipush 10, 2) := by decide +kernel
theorem dX5_ring_48 : decode cX5_ring 48 = .ok (.aload_n 0, 1) := by decide +kernel
theorem dX5_ring_49 : decode cX5_ring 49 = .ok (.getfield 22, 3) := by decide +kernel
theorem dX5_ring_52 : decode cX5_ring 52 = .ok (.iconst 3, 1) := by decide +kernel
theorem dX5_ring_53 : decode cX5_ring 53 = .ok (.iload_n 1, 1) := by decide +kernel
theorem dX5_ring_54 : decode cX5_ring 54 = .ok (.imul, 1) := by decide +kernel
theorem dX5_ring_55 : decode cX5_ring 55 = .ok (.baload, 1) := by decide +kernel
theorem dX5_ring_56 : decode cX5_ring 56 = .ok (.bipush 48, 2) := by decide +kernel
theorem dX5_ring_58 : decode cX5_ring 58 = .ok (.isub, 1) := by decide +kernel
theorem dX5_ring_59 : decode cX5_ring 59 = .ok (.imul, 1) := by decide +kernel
theorem dX5_ring_60 : decode cX5_ring 60 = .ok (.aload_n 0, 1) := by decide +kernel
theorem dX5_ring_61 : decode cX5_ring 61 = .ok (.getfield 22, 3) := by decide +kernel
theorem dX5_ring_64 : decode cX5_ring 64 = .ok (.iconst 3, 1) := by decide +kernel
theorem dX5_ring_65 : decode cX5_ring 65 = .ok (.iload_n 1, 1) := by decide +kernel
theorem dX5_ring_66 : decode cX5_ring 66 = .ok (.imul, 1) := by decide +kernel
theorem dX5_ring_67 : decode cX5_ring 67 = .ok (.iconst 1, 1) := by decide +kernel
theorem dX5_ring_68 : decode cX5_ring 68 = .ok (.iadd, 1) := by decide +kernel
theorem dX5_ring_69 : decode cX5_ring 69 = .ok (.baload, 1) := by decide +kernel
theorem dX5_ring_70 : decode cX5_ring 70 = .ok (.iadd, 1) := by decide +kernel
theorem dX5_ring_71 : decode cX5_ring 71 = .ok (.bipush 48, 2) := by decide +kernel
theorem dX5_ring_73 : decode cX5_ring 73 = .ok (.isub, 1) := by decide +kernel
theorem dX5_ring_74 : decode cX5_ring 74 = .ok (.iastore, 1) := by decide +kernel
theorem dX5_ring_75 : decode cX5_ring 75 = .ok (.iinc 1 1, 3) := by decide +kernel
theorem dX5_ring_78 : decode cX5_ring 78 = .ok (.goto (-45), 3) := by decide +kernel
theorem dX5_ring_81 : decode cX5_ring 81 = .ok (.iconst 0, 1) := by decide +kernel
theorem dX5_ring_82 : decode cX5_ring 82 = .ok (.istore_n 1, 1) := by decide +kernel
theorem dX5_ring_83 : decode cX5_ring 83 = .ok (.iload_n 1, 1) := by decide +kernel
theorem dX5_ring_84 : decode cX5_ring 84 = .ok (.aload_n 0, 1) := by decide +kernel
theorem dX5_ring_85 : decode cX5_ring 85 = .ok (.getfield 116, 3) := by decide +kernel
theorem dX5_ring_88 : decode cX5_ring 88 = .ok (.if_icmp .ge 31, 3) := by decide +kernel
theorem dX5_ring_91 : decode cX5_ring 91 = .ok (.aload_n 0, 1) := by decide +kernel
theorem dX5_ring_92 : decode cX5_ring 92 = .ok (.getfield 13, 3) := by decide +kernel
theorem dX5_ring_95 : decode cX5_ring 95 = .ok (.iload_n 1, 1) := by decide +kernel
theorem dX5_ring_96 : decode cX5_ring 96 = .ok (.aload_n 0, 1) := by decide +kernel
theorem dX5_ring_97 : decode cX5_ring 97 = .ok (.getfield 22, 3) := by decide +kernel
theorem dX5_ring_100 : decode cX5_ring 100 = .ok (.iconst 3, 1) := by decide +kernel
theorem dX5_ring_101 : decode cX5_ring 101 = .ok (.aload_n 0, 1) := by decide +kernel
theorem dX5_ring_102 : decode cX5_ring 102 = .ok (.getfield 113, 3) := by decide +kernel
theorem dX5_ring_105 : decode cX5_ring 105 = .ok (.imul, 1) := by decide +kernel
theorem dX5_ring_106 : decode cX5_ring 106 = .ok (.iload_n 1, 1) := by decide +kernel
theorem dX5_ring_107 : decode cX5_ring 107 = .ok (.iadd, 1) := by decide +kernel
theorem dX5_ring_108 : decode cX5_ring 108 = .ok (.baload, 1) := by decide +kernel
theorem dX5_ring_109 : decode cX5_ring 109 = .ok (.invokestatic 92, 3) := by decide +kernel
theorem dX5_ring_112 : decode cX5_ring 112 = .ok (.iastore, 1) := by decide +kernel
theorem dX5_ring_113 : decode cX5_ring 113 = .ok (.iinc 1 1, 3) := by decide +kernel
theorem dX5_ring_116 : decode cX5_ring 116 = .ok (.goto (-33), 3) := by decide +kernel
theorem dX5_ring_119 : decode cX5_ring 119 = .ok (.aload_n 0, 1) := by decide +kernel
theorem dX5_ring_120 : decode cX5_ring 120 = .ok (.iconst 1, 1) := by decide +kernel
theorem dX5_ring_121 : decode cX5_ring 121 = .ok (.aload_n 0, 1) := by decide +kernel
theorem dX5_ring_122 : decode cX5_ring 122 = .ok (.getfield 116, 3) := by decide +kernel
theorem dX5_ring_125 : decode cX5_ring 125 = .ok (.ishl, 1) := by decide +kernel
theorem dX5_ring_126 : decode cX5_ring 126 = .ok (.iconst 1, 1) := by decide +kernel
theorem dX5_ring_127 : decode cX5_ring 127 = .ok (.isub, 1) := by decide +kernel
theorem dX5_ring_128 : decode cX5_ring 128 = .ok (.putfield 119, 3) := by decide +kernel
theorem dX5_ring_131 : decode cX5_ring 131 = .ok (.aload_n 0, 1) := by decide +kernel
theorem dX5_ring_132 : decode cX5_ring 132 = .ok (.iconst 0, 1) := by decide +kernel
theorem dX5_ring_133 : decode cX5_ring 133 = .ok (.putfield 122, 3) := by decide +kernel
theorem dX5_ring_136 : decode cX5_ring 136 = .ok (.aload_n 0, 1) := by decide +kernel
theorem dX5_ring_137 : decode cX5_ring 137 = .ok (.iconst 0, 1) := by decide +kernel
theorem dX5_ring_138 : decode cX5_ring 138 = .ok (.putfield 125, 3) := by decide +kernel
theorem dX5_ring_141 : decode cX5_ring 141 = .ok (.aload_n 0, 1) := by decide +kernel
theorem dX5_ring_142 : decode cX5_ring 142 = .ok (.iconst 1, 1) := by decide +kernel
theorem dX5_ring_143 : decode cX5_ring 143 = .ok (.putfield 128, 3) := by decide +kernel
theorem dX5_ring_146 : decode cX5_ring 146 = .ok (.aload_n 0, 1) := by decide +kernel
theorem dX5_ring_147 : decode cX5_ring 147 = .ok (.iconst 0, 1) := by decide +kernel
theorem dX5_ring_148 : decode cX5_ring 148 = .ok (.putfield 131, 3) := by decide +kernel
theorem dX5_ring_151 : decode cX5_ring 151 = .ok (.aload_n 0, 1) := by decide +kernel
theorem dX5_ring_152 : decode cX5_ring 152 = .ok (.dup, 1) := by decide +kernel
theorem dX5_ring_153 : decode cX5_ring 153 = .ok (.getfield 134, 3) := by decide +kernel
theorem dX5_ring_156 : decode cX5_ring 156 = .ok (.iconst 1, 1) := by decide +kernel
theorem dX5_ring_157 : decode cX5_ring 157 = .ok (.iadd, 1) := by decide +kernel
theorem dX5_ring_158 : decode cX5_ring 158 = .ok (.putfield 134, 3) := by decide +kernel
theorem dX5_ring_161 : decode cX5_ring 161 = .ok (.aload_n 0, 1) := by decide +kernel
theorem dX5_ring_162 : decode cX5_ring 162 = .ok (.iconst 0, 1) := by decide +kernel
theorem dX5_ring_163 : decode cX5_ring 163 = .ok (.putfield 137, 3) := by decide +kernel
theorem dX5_ring_166 : decode cX5_ring 166 = .ok (.aload_n 0, 1) := by decide +kernel
theorem dX5_ring_167 : decode cX5_ring 167 = .ok (.iconst 0, 1) := by decide +kernel
theorem dX5_ring_168 : decode cX5_ring 168 = .ok (.putfield 81, 3) := by decide +kernel
theorem dX5_ring_171 : decode cX5_ring 171 = .ok (.aload_n 0, 1) := by decide +kernel
theorem dX5_ring_172 : decode cX5_ring 172 = .ok (.getfield 116, 3) := by decide +kernel
theorem dX5_ring_175 : decode cX5_ring 175 = .ok (.ireturn, 1) := by decide +kernel
theorem dX5_isChild_0 : decode cX5_isChild 0 = .ok (.iload_n 1, 1) := by decide +kernel
theorem dX5_isChild_1 : decode cX5_isChild 1 = .ok (.iconst 0, 1) := by decide +kernel
theorem dX5_isChild_2 : decode cX5_isChild 2 = .ok (.aload_n 0, 1) := by decide +kernel
theorem dX5_isChild_3 : decode cX5_isChild 3 = .ok (.getfield 116, 3) := by decide +kernel
theorem dX5_isChild_6 : decode cX5_isChild 6 = .ok (.iconst 1, 1) := by decide +kernel
theorem dX5_isChild_7 : decode cX5_isChild 7 = .ok (.isub, 1) := by decide +kernel
theorem dX5_isChild_8 : decode cX5_isChild 8 = .ok (.invokestatic 77, 3) := by decide +kernel
theorem dX5_isChild_11 : decode cX5_isChild 11 = .ok (.ireturn, 1) := by decide +kernel
theorem dX5_isVerse_0 : decode cX5_isVerse 0 = .ok (.iload_n 1, 1) := by decide +kernel
theorem dX5_isVerse_1 : decode cX5_isVerse 1 = .ok (.iconst 0, 1) := by decide +kernel
theorem dX5_isVerse_2 : decode cX5_isVerse 2 = .ok (.aload_n 0, 1) := by decide +kernel
theorem dX5_isVerse_3 : decode cX5_isVerse 3 = .ok (.getfield 113, 3) := by decide +kernel
theorem dX5_isVerse_6 : decode cX5_isVerse 6 = .ok (.iconst 1, 1) := by decide +kernel
theorem dX5_isVerse_7 : decode cX5_isVerse 7 = .ok (.isub, 1) := by decide +kernel
theorem dX5_isVerse_8 : decode cX5_isVerse 8 = .ok (.invokestatic 77, 3) := by decide +kernel
theorem dX5_isVerse_11 : decode cX5_isVerse 11 = .ok (.ireturn, 1) := by decide +kernel
theorem dX5_takes_0 : decode cX5_takes 0 = .ok (.iload_n 0, 1) := by decide +kernel
theorem dX5_takes_1 : decode cX5_takes 1 = .ok (.iconst 1, 1) := by decide +kernel
theorem dX5_takes_2 : decode cX5_takes 2 = .ok (.if_icmp .ne 7, 3) := by decide +kernel
theorem dX5_takes_5 : decode cX5_takes 5 = .ok (.iconst 2, 1) := by decide +kernel
theorem dX5_takes_6 : decode cX5_takes 6 = .ok (.goto 13, 3) := by decide +kernel
theorem dX5_takes_9 : decode cX5_takes 9 = .ok (.iload_n 0, 1) := by decide +kernel
theorem dX5_takes_10 : decode cX5_takes 10 = .ok (.iconst 2, 1) := by decide +kernel
theorem dX5_takes_11 : decode cX5_takes 11 = .ok (.if_icmp .ne 7, 3) := by decide +kernel
theorem dX5_takes_14 : decode cX5_takes 14 = .ok (.iconst 0, 1) := by decide +kernel
theorem dX5_takes_15 : decode cX5_takes 15 = .ok (.goto 4, 3) := by decide +kernel
theorem dX5_takes_18 : decode cX5_takes 18 = .ok (.iconst 1, 1) := by decide +kernel
theorem dX5_takes_19 : decode cX5_takes 19 = .ok (.ireturn, 1) := by decide +kernel
theorem dX5_isSly_0 : decode cX5_isSly 0 = .ok (.aload_n 0, 1) := by decide +kernel
theorem dX5_isSly_1 : decode cX5_isSly 1 = .ok (.getfield 13, 3) := by decide +kernel
theorem dX5_isSly_4 : decode cX5_isSly 4 = .ok (.iload_n 1, 1) := by decide +kernel
theorem dX5_isSly_5 : decode cX5_isSly 5 = .ok (.iaload, 1) := by decide +kernel
theorem dX5_isSly_6 : decode cX5_isSly 6 = .ok (.iconst 3, 1) := by decide +kernel
theorem dX5_isSly_7 : decode cX5_isSly 7 = .ok (.if_icmp .eq 13, 3) := by decide +kernel
theorem dX5_isSly_10 : decode cX5_isSly 10 = .ok (.aload_n 0, 1) := by decide +kernel
theorem dX5_isSly_11 : decode cX5_isSly 11 = .ok (.getfield 13, 3) := by decide +kernel
theorem dX5_isSly_14 : decode cX5_isSly 14 = .ok (.iload_n 1, 1) := by decide +kernel
theorem dX5_isSly_15 : decode cX5_isSly 15 = .ok (.iaload, 1) := by decide +kernel
theorem dX5_isSly_16 : decode cX5_isSly 16 = .ok (.iconst 4, 1) := by decide +kernel
theorem dX5_isSly_17 : decode cX5_isSly 17 = .ok (.if_icmp .ne 7, 3) := by decide +kernel
theorem dX5_isSly_20 : decode cX5_isSly 20 = .ok (.iconst 1, 1) := by decide +kernel
theorem dX5_isSly_21 : decode cX5_isSly 21 = .ok (.goto 4, 3) := by decide +kernel
theorem dX5_isSly_24 : decode cX5_isSly 24 = .ok (.iconst 0, 1) := by decide +kernel
theorem dX5_isSly_25 : decode cX5_isSly 25 = .ok (.ireturn, 1) := by decide +kernel
theorem dX5_beatsIn_0 : decode cX5_beatsIn 0 = .ok (.iconst 0, 1) := by decide +kernel
theorem dX5_beatsIn_1 : decode cX5_beatsIn 1 = .ok (.istore_n 1, 1) := by decide +kernel
theorem dX5_beatsIn_2 : decode cX5_beatsIn 2 = .ok (.iconst 0, 1) := by decide +kernel
theorem dX5_beatsIn_3 : decode cX5_beatsIn 3 = .ok (.istore_n 2, 1) := by decide +kernel
theorem dX5_beatsIn_4 : decode cX5_beatsIn 4 = .ok (.iload_n 2, 1) := by decide +kernel
theorem dX5_beatsIn_5 : decode cX5_beatsIn 5 = .ok (.aload_n 0, 1) := by decide +kernel
theorem dX5_beatsIn_6 : decode cX5_beatsIn 6 = .ok (.getfield 116, 3) := by decide +kernel
theorem dX5_beatsIn_9 : decode cX5_beatsIn 9 = .ok (.if_icmp .ge 36, 3) := by decide +kernel
theorem dX5_beatsIn_12 : decode cX5_beatsIn 12 = .ok (.iload_n 1, 1) := by decide +kernel
theorem dX5_beatsIn_13 : decode cX5_beatsIn 13 = .ok (.aload_n 0, 1) := by decide +kernel
theorem dX5_beatsIn_14 : decode cX5_beatsIn 14 = .ok (.getfield 119, 3) := by decide +kernel
theorem dX5_beatsIn_17 : decode cX5_beatsIn 17 = .ok (.iload_n 2, 1) := by decide +kernel
theorem dX5_beatsIn_18 : decode cX5_beatsIn 18 = .ok (.invokestatic 140, 3) := by decide +kernel
theorem dX5_beatsIn_21 : decode cX5_beatsIn 21 = .ok (.ifCond .eq 15, 3) := by decide +kernel
theorem dX5_beatsIn_24 : decode cX5_beatsIn 24 = .ok (.aload_n 0, 1) := by decide +kernel
theorem dX5_beatsIn_25 : decode cX5_beatsIn 25 = .ok (.getfield 13, 3) := by decide +kernel
theorem dX5_beatsIn_28 : decode cX5_beatsIn 28 = .ok (.iload_n 2, 1) := by decide +kernel
theorem dX5_beatsIn_29 : decode cX5_beatsIn 29 = .ok (.iaload, 1) := by decide +kernel
theorem dX5_beatsIn_30 : decode cX5_beatsIn 30 = .ok (.invokestatic 143, 3) := by decide +kernel
theorem dX5_beatsIn_33 : decode cX5_beatsIn 33 = .ok (.goto 4, 3) := by decide +kernel
theorem dX5_beatsIn_36 : decode cX5_beatsIn 36 = .ok (.iconst 0, 1) := by decide +kernel
theorem dX5_beatsIn_37 : decode cX5_beatsIn 37 = .ok (.iadd, 1) := by decide +kernel
theorem dX5_beatsIn_38 : decode cX5_beatsIn 38 = .ok (.istore_n 1, 1) := by decide +kernel
theorem dX5_beatsIn_39 : decode cX5_beatsIn 39 = .ok (.iinc 2 1, 3) := by decide +kernel
theorem dX5_beatsIn_42 : decode cX5_beatsIn 42 = .ok (.goto (-38), 3) := by decide +kernel
theorem dX5_beatsIn_45 : decode cX5_beatsIn 45 = .ok (.iload_n 1, 1) := by decide +kernel
theorem dX5_beatsIn_46 : decode cX5_beatsIn 46 = .ok (.ireturn, 1) := by decide +kernel
theorem dX5_isCount_0 : decode cX5_isCount 0 = .ok (.aload_n 0, 1) := by decide +kernel
theorem dX5_isCount_1 : decode cX5_isCount 1 = .ok (.getfield 119, 3) := by decide +kernel
theorem dX5_isCount_4 : decode cX5_isCount 4 = .ok (.invokestatic 146, 3) := by decide +kernel
theorem dX5_isCount_7 : decode cX5_isCount 7 = .ok (.iconst 1, 1) := by decide +kernel
theorem dX5_isCount_8 : decode cX5_isCount 8 = .ok (.if_icmp .le 14, 3) := by decide +kernel
theorem dX5_isCount_11 : decode cX5_isCount 11 = .ok (.aload_n 0, 1) := by decide +kernel
theorem dX5_isCount_12 : decode cX5_isCount 12 = .ok (.invokevirtual 149, 3) := by decide +kernel
theorem dX5_isCount_15 : decode cX5_isCount 15 = .ok (.ifCond .le 7, 3) := by decide +kernel
theorem dX5_isCount_18 : decode cX5_isCount 18 = .ok (.iconst 1, 1) := by decide +kernel
theorem dX5_isCount_19 : decode cX5_isCount 19 = .ok (.goto 4, 3) := by decide +kernel
theorem dX5_isCount_22 : decode cX5_isCount 22 = .ok (.iconst 0, 1) := by decide +kernel
theorem dX5_isCount_23 : decode cX5_isCount 23 = .ok (.ireturn, 1) := by decide +kernel
theorem dX5_nextFrom_0 : decode cX5_nextFrom 0 = .ok (.iload_n 1, 1) := by decide +kernel
theorem dX5_nextFrom_1 : decode cX5_nextFrom 1 = .ok (.istore_n 3, 1) := by decide +kernel
theorem dX5_nextFrom_2 : decode cX5_nextFrom 2 = .ok (.iconst 0, 1) := by decide +kernel
theorem dX5_nextFrom_3 : decode cX5_nextFrom 3 = .ok (.istore 4, 2) := by decide +kernel
theorem dX5_nextFrom_5 : decode cX5_nextFrom 5 = .ok (.iload 4, 2) := by decide +kernel
theorem dX5_nextFrom_7 : decode cX5_nextFrom 7 = .ok (.ifCond .ne 63, 3) := by decide +kernel
theorem dX5_nextFrom_10 : decode cX5_nextFrom 10 = .ok (.iload_n 3, 1) := by decide +kernel
theorem dX5_nextFrom_11 : decode cX5_nextFrom 11 = .ok (.aload_n 0, 1) := by decide +kernel
theorem dX5_nextFrom_12 : decode cX5_nextFrom 12 = .ok (.getfield 128, 3) := by decide +kernel
theorem dX5_nextFrom_15 : decode cX5_nextFrom 15 = .ok (.ifCond .eq 7, 3) := by decide +kernel
theorem dX5_nextFrom_18 : decode cX5_nextFrom 18 = .ok (.iconst 1, 1) := by decide +kernel
theorem dX5_nextFrom_19 : decode cX5_nextFrom 19 = .ok (.goto 9, 3) := by decide +kernel
theorem dX5_nextFrom_22 : decode cX5_nextFrom 22 = .ok (.aload_n 0, 1) := by decide +kernel
theorem dX5_nextFrom_23 : decode cX5_nextFrom 23 = .ok (.getfield 116, 3) := by decide +kernel
theorem dX5_nextFrom_26 : decode cX5_nextFrom 26 = .ok (.iconst 1, 1) := by decide +kernel
theorem dX5_nextFrom_27 : decode cX5_nextFrom 27 = .ok (.isub, 1) := by decide +kernel
theorem dX5_nextFrom_28 : decode cX5_nextFrom 28 = .ok (.iadd, 1) := by decide +kernel
theorem dX5_nextFrom_29 : decode cX5_nextFrom 29 = .ok (.aload_n 0, 1) := by decide +kernel
theorem dX5_nextFrom_30 : decode cX5_nextFrom 30 = .ok (.getfield 116, 3) := by decide +kernel
theorem dX5_nextFrom_33 : decode cX5_nextFrom 33 = .ok (.irem, 1) := by decide +kernel
theorem dX5_nextFrom_34 : decode cX5_nextFrom 34 = .ok (.istore_n 3, 1) := by decide +kernel
theorem dX5_nextFrom_35 : decode cX5_nextFrom 35 = .ok (.aload_n 0, 1) := by decide +kernel
theorem dX5_nextFrom_36 : decode cX5_nextFrom 36 = .ok (.getfield 119, 3) := by decide +kernel
theorem dX5_nextFrom_39 : decode cX5_nextFrom 39 = .ok (.iload_n 3, 1) := by decide +kernel
theorem dX5_nextFrom_40 : decode cX5_nextFrom 40 = .ok (.invokestatic 140, 3) := by decide +kernel
theorem dX5_nextFrom_43 : decode cX5_nextFrom 43 = .ok (.ifCond .eq 21, 3) := by decide +kernel
theorem dX5_nextFrom_46 : decode cX5_nextFrom 46 = .ok (.iload_n 2, 1) := by decide +kernel
theorem dX5_nextFrom_47 : decode cX5_nextFrom 47 = .ok (.ifCond .eq 13, 3) := by decide +kernel
theorem dX5_nextFrom_50 : decode cX5_nextFrom 50 = .ok (.aload_n 0, 1) := by decide +kernel
theorem dX5_nextFrom_51 : decode cX5_nextFrom 51 = .ok (.getfield 13, 3) := by decide +kernel
theorem dX5_nextFrom_54 : decode cX5_nextFrom 54 = .ok (.iload_n 3, 1) := by decide +kernel
theorem dX5_nextFrom_55 : decode cX5_nextFrom 55 = .ok (.iaload, 1) := by decide +kernel
theorem dX5_nextFrom_56 : decode cX5_nextFrom 56 = .ok (.iconst 2, 1) := by decide +kernel
theorem dX5_nextFrom_57 : decode cX5_nextFrom 57 = .ok (.if_icmp .eq 7, 3) := by decide +kernel
theorem dX5_nextFrom_60 : decode cX5_nextFrom 60 = .ok (.iconst 1, 1) := by decide +kernel
theorem dX5_nextFrom_61 : decode cX5_nextFrom 61 = .ok (.goto 4, 3) := by decide +kernel
theorem dX5_nextFrom_64 : decode cX5_nextFrom 64 = .ok (.iconst 0, 1) := by decide +kernel
theorem dX5_nextFrom_65 : decode cX5_nextFrom 65 = .ok (.istore 4, 2) := by decide +kernel
theorem dX5_nextFrom_67 : decode cX5_nextFrom 67 = .ok (.goto (-62), 3) := by decide +kernel
theorem dX5_nextFrom_70 : decode cX5_nextFrom 70 = .ok (.iload_n 3, 1) := by decide +kernel
theorem dX5_nextFrom_71 : decode cX5_nextFrom 71 = .ok (.ireturn, 1) := by decide +kernel
theorem dX5_isOther_0 : decode cX5_isOther 0 = .ok (.iconst 0, 1) := by decide +kernel
theorem dX5_isOther_1 : decode cX5_isOther 1 = .ok (.istore_n 2, 1) := by decide +kernel
theorem dX5_isOther_2 : decode cX5_isOther 2 = .ok (.iconst 0, 1) := by decide +kernel
theorem dX5_isOther_3 : decode cX5_isOther 3 = .ok (.istore_n 3, 1) := by decide +kernel
theorem dX5_isOther_4 : decode cX5_isOther 4 = .ok (.iload_n 3, 1) := by decide +kernel
theorem dX5_isOther_5 : decode cX5_isOther 5 = .ok (.aload_n 0, 1) := by decide +kernel
theorem dX5_isOther_6 : decode cX5_isOther 6 = .ok (.getfield 116, 3) := by decide +kernel
theorem dX5_isOther_9 : decode cX5_isOther 9 = .ok (.if_icmp .ge 45, 3) := by decide +kernel
theorem dX5_isOther_12 : decode cX5_isOther 12 = .ok (.iload_n 2, 1) := by decide +kernel
theorem dX5_isOther_13 : decode cX5_isOther 13 = .ok (.ifCond .ne 29, 3) := by decide +kernel
theorem dX5_isOther_16 : decode cX5_isOther 16 = .ok (.iload_n 3, 1) := by decide +kernel
theorem dX5_isOther_17 : decode cX5_isOther 17 = .ok (.iload_n 1, 1) := by decide +kernel
theorem dX5_isOther_18 : decode cX5_isOther 18 = .ok (.if_icmp .eq 28, 3) := by decide +kernel
theorem dX5_isOther_21 : decode cX5_isOther 21 = .ok (.aload_n 0, 1) := by decide +kernel
theorem dX5_isOther_22 : decode cX5_isOther 22 = .ok (.getfield 119, 3) := by decide +kernel
theorem dX5_isOther_25 : decode cX5_isOther 25 = .ok (.iload_n 3, 1) := by decide +kernel
theorem dX5_isOther_26 : decode cX5_isOther 26 = .ok (.invokestatic 140, 3) := by decide +kernel
theorem dX5_isOther_29 : decode cX5_isOther 29 = .ok (.ifCond .eq 17, 3) := by decide +kernel
theorem dX5_isOther_32 : decode cX5_isOther 32 = .ok (.aload_n 0, 1) := by decide +kernel
theorem dX5_isOther_33 : decode cX5_isOther 33 = .ok (.getfield 13, 3) := by decide +kernel
theorem dX5_isOther_36 : decode cX5_isOther 36 = .ok (.iload_n 3, 1) := by decide +kernel
theorem dX5_isOther_37 : decode cX5_isOther 37 = .ok (.iaload, 1) := by decide +kernel
theorem dX5_isOther_38 : decode cX5_isOther 38 = .ok (.iconst 2, 1) := by decide +kernel
theorem dX5_isOther_39 : decode cX5_isOther 39 = .ok (.if_icmp .eq 7, 3) := by decide +kernel
theorem dX5_isOther_42 : decode cX5_isOther 42 = .ok (.iconst 1, 1) := by decide +kernel
theorem dX5_isOther_43 : decode cX5_isOther 43 = .ok (.goto 4, 3) := by decide +kernel
theorem dX5_isOther_46 : decode cX5_isOther 46 = .ok (.iconst 0, 1) := by decide +kernel
theorem dX5_isOther_47 : decode cX5_isOther 47 = .ok (.istore_n 2, 1) := by decide +kernel
theorem dX5_isOther_48 : decode cX5_isOther 48 = .ok (.iinc 3 1, 3) := by decide +kernel
theorem dX5_isOther_51 : decode cX5_isOther 51 = .ok (.goto (-47), 3) := by decide +kernel
theorem dX5_isOther_54 : decode cX5_isOther 54 = .ok (.iload_n 2, 1) := by decide +kernel
theorem dX5_isOther_55 : decode cX5_isOther 55 = .ok (.ireturn, 1) := by decide +kernel
theorem dX5_goCount_0 : decode cX5_goCount 0 = .ok (.iload_n 1, 1) := by decide +kernel
theorem dX5_goCount_1 : decode cX5_goCount 1 = .ok (.iconst 1, 1) := by decide +kernel
theorem dX5_goCount_2 : decode cX5_goCount 2 = .ok (.isub, 1) := by decide +kernel
theorem dX5_goCount_3 : decode cX5_goCount 3 = .ok (.aload_n 0, 1) := by decide +kernel
theorem dX5_goCount_4 : decode cX5_goCount 4 = .ok (.invokevirtual 149, 3) := by decide +kernel
theorem dX5_goCount_7 : decode cX5_goCount 7 = .ok (.irem, 1) := by decide +kernel
theorem dX5_goCount_8 : decode cX5_goCount 8 = .ok (.iconst 1, 1) := by decide +kernel
theorem dX5_goCount_9 : decode cX5_goCount 9 = .ok (.iadd, 1) := by decide +kernel
theorem dX5_goCount_10 : decode cX5_goCount 10 = .ok (.istore_n 2, 1) := by decide +kernel
theorem dX5_goCount_11 : decode cX5_goCount 11 = .ok (.aload_n 0, 1) := by decide +kernel
theorem dX5_goCount_12 : decode cX5_goCount 12 = .ok (.getfield 119, 3) := by decide +kernel
theorem dX5_goCount_15 : decode cX5_goCount 15 = .ok (.aload_n 0, 1) := by decide +kernel
theorem dX5_goCount_16 : decode cX5_goCount 16 = .ok (.getfield 125, 3) := by decide +kernel
theorem dX5_goCount_19 : decode cX5_goCount 19 = .ok (.invokestatic 140, 3) := by decide +kernel
theorem dX5_goCount_22 : decode cX5_goCount 22 = .ok (.ifCond .eq 10, 3) := by decide +kernel
theorem dX5_goCount_25 : decode cX5_goCount 25 = .ok (.aload_n 0, 1) := by decide +kernel
theorem dX5_goCount_26 : decode cX5_goCount 26 = .ok (.getfield 125, 3) := by decide +kernel
theorem dX5_goCount_29 : decode cX5_goCount 29 = .ok (.goto 12, 3) := by decide +kernel
theorem dX5_goCount_32 : decode cX5_goCount 32 = .ok (.aload_n 0, 1) := by decide +kernel
theorem dX5_goCount_33 : decode cX5_goCount 33 = .ok (.aload_n 0, 1) := by decide +kernel
theorem dX5_goCount_34 : decode cX5_goCount 34 = .ok (.getfield 125, 3) := by decide +kernel
theorem dX5_goCount_37 : decode cX5_goCount 37 = .ok (.iconst 0, 1) := by decide +kernel
theorem dX5_goCount_38 : decode cX5_goCount 38 = .ok (.invokevirtual 152, 3) := by decide +kernel
theorem dX5_goCount_41 : decode cX5_goCount 41 = .ok (.istore_n 3, 1) := by decide +kernel
theorem dX5_goCount_42 : decode cX5_goCount 42 = .ok (.iload_n 2, 1) := by decide +kernel
theorem dX5_goCount_43 : decode cX5_goCount 43 = .ok (.aload_n 0, 1) := by decide +kernel
theorem dX5_goCount_44 : decode cX5_goCount 44 = .ok (.getfield 13, 3) := by decide +kernel
theorem dX5_goCount_47 : decode cX5_goCount 47 = .ok (.iload_n 3, 1) := by decide +kernel
theorem dX5_goCount_48 : decode cX5_goCount 48 = .ok (.iaload, 1) := by decide +kernel
theorem dX5_goCount_49 : decode cX5_goCount 49 = .ok (.invokestatic 143, 3) := by decide +kernel
theorem dX5_goCount_52 : decode cX5_goCount 52 = .ok (.isub, 1) := by decide +kernel
theorem dX5_goCount_53 : decode cX5_goCount 53 = .ok (.istore_n 2, 1) := by decide +kernel
theorem dX5_goCount_54 : decode cX5_goCount 54 = .ok (.iload_n 2, 1) := by decide +kernel
theorem dX5_goCount_55 : decode cX5_goCount 55 = .ok (.ifCond .gt 15, 3) := by decide +kernel
theorem dX5_goCount_58 : decode cX5_goCount 58 = .ok (.aload_n 0, 1) := by decide +kernel
theorem dX5_goCount_59 : decode cX5_goCount 59 = .ok (.getfield 13, 3) := by decide +kernel
theorem dX5_goCount_62 : decode cX5_goCount 62 = .ok (.iload_n 3, 1) := by decide +kernel
theorem dX5_goCount_63 : decode cX5_goCount 63 = .ok (.iaload, 1) := by decide +kernel
theorem dX5_goCount_64 : decode cX5_goCount 64 = .ok (.invokestatic 143, 3) := by decide +kernel
theorem dX5_goCount_67 : decode cX5_goCount 67 = .ok (.ifCond .ne 25, 3) := by decide +kernel
theorem dX5_goCount_70 : decode cX5_goCount 70 = .ok (.aload_n 0, 1) := by decide +kernel
theorem dX5_goCount_71 : decode cX5_goCount 71 = .ok (.iload_n 3, 1) := by decide +kernel
theorem dX5_goCount_72 : decode cX5_goCount 72 = .ok (.iconst 0, 1) := by decide +kernel
theorem dX5_goCount_73 : decode cX5_goCount 73 = .ok (.invokevirtual 152, 3) := by decide +kernel
theorem dX5_goCount_76 : decode cX5_goCount 76 = .ok (.istore_n 3, 1) := by decide +kernel
theorem dX5_goCount_77 : decode cX5_goCount 77 = .ok (.iload_n 2, 1) := by decide +kernel
theorem dX5_goCount_78 : decode cX5_goCount 78 = .ok (.aload_n 0, 1) := by decide +kernel
theorem dX5_goCount_79 : decode cX5_goCount 79 = .ok (.getfield 13, 3) := by decide +kernel
theorem dX5_goCount_82 : decode cX5_goCount 82 = .ok (.iload_n 3, 1) := by decide +kernel
theorem dX5_goCount_83 : decode cX5_goCount 83 = .ok (.iaload, 1) := by decide +kernel
theorem dX5_goCount_84 : decode cX5_goCount 84 = .ok (.invokestatic 143, 3) := by decide +kernel
theorem dX5_goCount_87 : decode cX5_goCount 87 = .ok (.isub, 1) := by decide +kernel
theorem dX5_goCount_88 : decode cX5_goCount 88 = .ok (.istore_n 2, 1) := by decide +kernel
theorem dX5_goCount_89 : decode cX5_goCount 89 = .ok (.goto (-35), 3) := by decide +kernel
theorem dX5_goCount_92 : decode cX5_goCount 92 = .ok (.aload_n 0, 1) := by decide +kernel
theorem dX5_goCount_93 : decode cX5_goCount 93 = .ok (.iload_n 3, 1) := by decide +kernel
theorem dX5_goCount_94 : decode cX5_goCount 94 = .ok (.invokevirtual 156, 3) := by decide +kernel
theorem dX5_goCount_97 : decode cX5_goCount 97 = .ok (.ifCond .eq 77, 3) := by decide +kernel
theorem dX5_goCount_100 : decode cX5_goCount 100 = .ok (.aload_n 0, 1) := by decide +kernel
theorem dX5_goCount_101 : decode cX5_goCount 101 = .ok (.getfield 122, 3) := by decide +kernel
theorem dX5_goCount_104 : decode cX5_goCount 104 = .ok (.iload_n 3, 1) := by decide +kernel
theorem dX5_goCount_105 : decode cX5_goCount 105 = .ok (.invokestatic 140, 3) := by decide +kernel
theorem dX5_goCount_108 : decode cX5_goCount 108 = .ok (.ifCond .ne 66, 3) := by decide +kernel
theorem dX5_goCount_111 : decode cX5_goCount 111 = .ok (.aload_n 0, 1) := by decide +kernel
theorem dX5_goCount_112 : decode cX5_goCount 112 = .ok (.iload_n 3, 1) := by decide +kernel
theorem dX5_goCount_113 : decode cX5_goCount 113 = .ok (.invokevirtual 160, 3) := by decide +kernel
theorem dX5_goCount_116 : decode cX5_goCount 116 = .ok (.ifCond .eq 58, 3) := by decide +kernel
theorem dX5_goCount_119 : decode cX5_goCount 119 = .ok (.aload_n 0, 1) := by decide +kernel
theorem dX5_goCount_120 : decode cX5_goCount 120 = .ok (.dup, 1) := by decide +kernel
theorem dX5_goCount_121 : decode cX5_goCount 121 = .ok (.getfield 122, 3) := by decide +kernel
theorem dX5_goCount_124 : decode cX5_goCount 124 = .ok (.iconst 1, 1) := by decide +kernel
theorem dX5_goCount_125 : decode cX5_goCount 125 = .ok (.iload_n 3, 1) := by decide +kernel
theorem dX5_goCount_126 : decode cX5_goCount 126 = .ok (.ishl, 1) := by decide +kernel
theorem dX5_goCount_127 : decode cX5_goCount 127 = .ok (.ior, 1) := by decide +kernel
theorem dX5_goCount_128 : decode cX5_goCount 128 = .ok (.putfield 122, 3) := by decide +kernel
theorem dX5_goCount_131 : decode cX5_goCount 131 = .ok (.aload_n 0, 1) := by decide +kernel
theorem dX5_goCount_132 : decode cX5_goCount 132 = .ok (.aload_n 0, 1) := by decide +kernel
theorem dX5_goCount_133 : decode cX5_goCount 133 = .ok (.getfield 13, 3) := by decide +kernel
theorem dX5_goCount_136 : decode cX5_goCount 136 = .ok (.iload_n 3, 1) := by decide +kernel
theorem dX5_goCount_137 : decode cX5_goCount 137 = .ok (.iaload, 1) := by decide +kernel
theorem dX5_goCount_138 : decode cX5_goCount 138 = .ok (.iconst 4, 1) := by decide +kernel
theorem dX5_goCount_139 : decode cX5_goCount 139 = .ok (.if_icmp .ne 18, 3) := by decide +kernel
theorem dX5_goCount_142 : decode cX5_goCount 142 = .ok (.aload_n 0, 1) := by decide +kernel
theorem dX5_goCount_143 : decode cX5_goCount 143 = .ok (.getfield 128, 3) := by decide +kernel
theorem dX5_goCount_146 : decode cX5_goCount 146 = .ok (.ifCond .ne 7, 3) := by decide +kernel
theorem dX5_goCount_149 : decode cX5_goCount 149 = .ok (.iconst 1, 1) := by decide +kernel
theorem dX5_goCount_150 : decode cX5_goCount 150 = .ok (.goto 11, 3) := by decide +kernel
theorem dX5_goCount_153 : decode cX5_goCount 153 = .ok (.iconst 0, 1) := by decide +kernel
theorem dX5_goCount_154 : decode cX5_goCount 154 = .ok (.goto 7, 3) := by decide +kernel
theorem dX5_goCount_157 : decode cX5_goCount 157 = .ok (.aload_n 0, 1) := by decide +kernel
theorem dX5_goCount_158 : decode cX5_goCount 158 = .ok (.getfield 128, 3) := by decide +kernel
theorem dX5_goCount_161 : decode cX5_goCount 161 = .ok (.putfield 128, 3) := by decide +kernel
theorem dX5_goCount_164 : decode cX5_goCount 164 = .ok (.aload_n 0, 1) := by decide +kernel
theorem dX5_goCount_165 : decode cX5_goCount 165 = .ok (.iload_n 3, 1) := by decide +kernel
theorem dX5_goCount_166 : decode cX5_goCount 166 = .ok (.iconst 1, 1) := by decide +kernel
theorem dX5_goCount_167 : decode cX5_goCount 167 = .ok (.invokevirtual 152, 3) := by decide +kernel
theorem dX5_goCount_170 : decode cX5_goCount 170 = .ok (.istore_n 3, 1) := by decide +kernel
theorem dX5_goCount_171 : decode cX5_goCount 171 = .ok (.goto (-79), 3) := by decide +kernel
theorem dX5_goCount_174 : decode cX5_goCount 174 = .ok (.aload_n 0, 1) := by decide +kernel
theorem dX5_goCount_175 : decode cX5_goCount 175 = .ok (.dup, 1) := by decide +kernel
theorem dX5_goCount_176 : decode cX5_goCount 176 = .ok (.getfield 119, 3) := by decide +kernel
theorem dX5_goCount_179 : decode cX5_goCount 179 = .ok (.iconst 1, 1) := by decide +kernel
theorem dX5_goCount_180 : decode cX5_goCount 180 = .ok (.iload_n 3, 1) := by decide +kernel
theorem dX5_goCount_181 : decode cX5_goCount 181 = .ok (.ishl, 1) := by decide +kernel
theorem dX5_goCount_182 : decode cX5_goCount 182 = .ok (.iconst (-1), 1) := by decide +kernel
theorem dX5_goCount_183 : decode cX5_goCount 183 = .ok (.ixor, 1) := by decide +kernel
theorem dX5_goCount_184 : decode cX5_goCount 184 = .ok (.iand, 1) := by decide +kernel
theorem dX5_goCount_185 : decode cX5_goCount 185 = .ok (.putfield 119, 3) := by decide +kernel
theorem dX5_goCount_188 : decode cX5_goCount 188 = .ok (.aload_n 0, 1) := by decide +kernel
theorem dX5_goCount_189 : decode cX5_goCount 189 = .ok (.aload_n 0, 1) := by decide +kernel
theorem dX5_goCount_190 : decode cX5_goCount 190 = .ok (.iload_n 3, 1) := by decide +kernel
theorem dX5_goCount_191 : decode cX5_goCount 191 = .ok (.iconst 0, 1) := by decide +kernel
theorem dX5_goCount_192 : decode cX5_goCount 192 = .ok (.invokevirtual 152, 3) := by decide +kernel
theorem dX5_goCount_195 : decode cX5_goCount 195 = .ok (.putfield 125, 3) := by decide +kernel
theorem dX5_goCount_198 : decode cX5_goCount 198 = .ok (.iload_n 3, 1) := by decide +kernel
theorem dX5_goCount_199 : decode cX5_goCount 199 = .ok (.ireturn, 1) := by decide +kernel
theorem dX5_save_0 : decode cX5_save 0 = .ok (.aload_n 0, 1) := by decide +kernel
theorem dX5_save_1 : decode cX5_save 1 = .ok (.aload_n 0, 1) := by decide +kernel
theorem dX5_save_2 : decode cX5_save 2 = .ok (.getfield 119, 3) := by decide +kernel
theorem dX5_save_5 : decode cX5_save 5 = .ok (.putfield 163, 3) := by decide +kernel
theorem dX5_save_8 : decode cX5_save 8 = .ok (.aload_n 0, 1) := by decide +kernel
theorem dX5_save_9 : decode cX5_save 9 = .ok (.aload_n 0, 1) := by decide +kernel
theorem dX5_save_10 : decode cX5_save 10 = .ok (.getfield 122, 3) := by decide +kernel
theorem dX5_save_13 : decode cX5_save 13 = .ok (.putfield 166, 3) := by decide +kernel
theorem dX5_save_16 : decode cX5_save 16 = .ok (.aload_n 0, 1) := by decide +kernel
theorem dX5_save_17 : decode cX5_save 17 = .ok (.aload_n 0, 1) := by decide +kernel
theorem dX5_save_18 : decode cX5_save 18 = .ok (.getfield 125, 3) := by decide +kernel
theorem dX5_save_21 : decode cX5_save 21 = .ok (.putfield 169, 3) := by decide +kernel
theorem dX5_save_24 : decode cX5_save 24 = .ok (.aload_n 0, 1) := by decide +kernel
theorem dX5_save_25 : decode cX5_save 25 = .ok (.aload_n 0, 1) := by decide +kernel
theorem dX5_save_26 : decode cX5_save 26 = .ok (.getfield 128, 3) := by decide +kernel
theorem dX5_save_29 : decode cX5_save 29 = .ok (.putfield 172, 3) := by decide +kernel
theorem dX5_save_32 : decode cX5_save 32 = .ok (.return_, 1) := by decide +kernel
theorem dX5_load_0 : decode cX5_load 0 = .ok (.aload_n 0, 1) := by decide +kernel
theorem dX5_load_1 : decode cX5_load 1 = .ok (.aload_n 0, 1) := by decide +kernel
theorem dX5_load_2 : decode cX5_load 2 = .ok (.getfield 163, 3) := by decide +kernel
theorem dX5_load_5 : decode cX5_load 5 = .ok (.putfield 119, 3) := by decide +kernel
theorem dX5_load_8 : decode cX5_load 8 = .ok (.aload_n 0, 1) := by decide +kernel
theorem dX5_load_9 : decode cX5_load 9 = .ok (.aload_n 0, 1) := by decide +kernel
theorem dX5_load_10 : decode cX5_load 10 = .ok (.getfield 166, 3) := by decide +kernel
theorem dX5_load_13 : decode cX5_load 13 = .ok (.putfield 122, 3) := by decide +kernel
theorem dX5_load_16 : decode cX5_load 16 = .ok (.aload_n 0, 1) := by decide +kernel
theorem dX5_load_17 : decode cX5_load 17 = .ok (.aload_n 0, 1) := by decide +kernel
theorem dX5_load_18 : decode cX5_load 18 = .ok (.getfield 169, 3) := by decide +kernel
theorem dX5_load_21 : decode cX5_load 21 = .ok (.putfield 125, 3) := by decide +kernel
theorem dX5_load_24 : decode cX5_load 24 = .ok (.aload_n 0, 1) := by decide +kernel
theorem dX5_load_25 : decode cX5_load 25 = .ok (.aload_n 0, 1) := by decide +kernel
theorem dX5_load_26 : decode cX5_load 26 = .ok (.getfield 172, 3) := by decide +kernel
theorem dX5_load_29 : decode cX5_load 29 = .ok (.putfield 128, 3) := by decide +kernel
theorem dX5_load_32 : decode cX5_load 32 = .ok (.return_, 1) := by decide +kernel
theorem dX5_lastNow_0 : decode cX5_lastNow 0 = .ok (.aload_n 0, 1) := by decide +kernel
theorem dX5_lastNow_1 : decode cX5_lastNow 1 = .ok (.invokevirtual 175, 3) := by decide +kernel
theorem dX5_lastNow_4 : decode cX5_lastNow 4 = .ok (.ifCond .eq 12, 3) := by decide +kernel
theorem dX5_lastNow_7 : decode cX5_lastNow 7 = .ok (.aload_n 0, 1) := by decide +kernel
theorem dX5_lastNow_8 : decode cX5_lastNow 8 = .ok (.iload_n 1, 1) := by decide +kernel
theorem dX5_lastNow_9 : decode cX5_lastNow 9 = .ok (.invokevirtual 179, 3) := by decide +kernel
theorem dX5_lastNow_12 : decode cX5_lastNow 12 = .ok (.pop, 1) := by decide +kernel
theorem dX5_lastNow_13 : decode cX5_lastNow 13 = .ok (.goto (-13), 3) := by decide +kernel
theorem dX5_lastNow_16 : decode cX5_lastNow 16 = .ok (.iconst (-1), 1) := by decide +kernel
theorem dX5_lastNow_17 : decode cX5_lastNow 17 = .ok (.istore_n 2, 1) := by decide +kernel
theorem dX5_lastNow_18 : decode cX5_lastNow 18 = .ok (.iconst 0, 1) := by decide +kernel
theorem dX5_lastNow_19 : decode cX5_lastNow 19 = .ok (.istore_n 3, 1) := by decide +kernel
theorem dX5_lastNow_20 : decode cX5_lastNow 20 = .ok (.iload_n 3, 1) := by decide +kernel
theorem dX5_lastNow_21 : decode cX5_lastNow 21 = .ok (.aload_n 0, 1) := by decide +kernel
theorem dX5_lastNow_22 : decode cX5_lastNow 22 = .ok (.getfield 116, 3) := by decide +kernel
theorem dX5_lastNow_25 : decode cX5_lastNow 25 = .ok (.if_icmp .ge 26, 3) := by decide +kernel
theorem dX5_lastNow_28 : decode cX5_lastNow 28 = .ok (.aload_n 0, 1) := by decide +kernel
theorem dX5_lastNow_29 : decode cX5_lastNow 29 = .ok (.getfield 119, 3) := by decide +kernel
theorem dX5_lastNow_32 : decode cX5_lastNow 32 = .ok (.iload_n 3, 1) := by decide +kernel
theorem dX5_lastNow_33 : decode cX5_lastNow 33 = .ok (.invokestatic 140, 3) := by decide +kernel
theorem dX5_lastNow_36 : decode cX5_lastNow 36 = .ok (.ifCond .eq 7, 3) := by decide +kernel
theorem dX5_lastNow_39 : decode cX5_lastNow 39 = .ok (.iload_n 3, 1) := by decide +kernel
theorem dX5_lastNow_40 : decode cX5_lastNow 40 = .ok (.goto 4, 3) := by decide +kernel
theorem dX5_lastNow_43 : decode cX5_lastNow 43 = .ok (.iload_n 2, 1) := by decide +kernel
theorem dX5_lastNow_44 : decode cX5_lastNow 44 = .ok (.istore_n 2, 1) := by decide +kernel
theorem dX5_lastNow_45 : decode cX5_lastNow 45 = .ok (.iinc 3 1, 3) := by decide +kernel
theorem dX5_lastNow_48 : decode cX5_lastNow 48 = .ok (.goto (-28), 3) := by decide +kernel
theorem dX5_lastNow_51 : decode cX5_lastNow 51 = .ok (.aload_n 0, 1) := by decide +kernel
theorem dX5_lastNow_52 : decode cX5_lastNow 52 = .ok (.getfield 119, 3) := by decide +kernel
theorem dX5_lastNow_55 : decode cX5_lastNow 55 = .ok (.invokestatic 146, 3) := by decide +kernel
theorem dX5_lastNow_58 : decode cX5_lastNow 58 = .ok (.iconst 1, 1) := by decide +kernel
theorem dX5_lastNow_59 : decode cX5_lastNow 59 = .ok (.if_icmp .ne 7, 3) := by decide +kernel
theorem dX5_lastNow_62 : decode cX5_lastNow 62 = .ok (.iload_n 2, 1) := by decide +kernel
theorem dX5_lastNow_63 : decode cX5_lastNow 63 = .ok (.goto 4, 3) := by decide +kernel
theorem dX5_lastNow_66 : decode cX5_lastNow 66 = .ok (.iconst (-1), 1) := by decide +kernel
theorem dX5_lastNow_67 : decode cX5_lastNow 67 = .ok (.ireturn, 1) := by decide +kernel
theorem dX5_lastBy_0 : decode cX5_lastBy 0 = .ok (.aload_n 0, 1) := by decide +kernel
theorem dX5_lastBy_1 : decode cX5_lastBy 1 = .ok (.invokevirtual 182, 3) := by decide +kernel
theorem dX5_lastBy_4 : decode cX5_lastBy 4 = .ok (.aload_n 0, 1) := by decide +kernel
theorem dX5_lastBy_5 : decode cX5_lastBy 5 = .ok (.iload_n 1, 1) := by decide +kernel
theorem dX5_lastBy_6 : decode cX5_lastBy 6 = .ok (.invokevirtual 185, 3) := by decide +kernel
theorem dX5_lastBy_9 : decode cX5_lastBy 9 = .ok (.istore_n 2, 1) := by decide +kernel
theorem dX5_lastBy_10 : decode cX5_lastBy 10 = .ok (.aload_n 0, 1) := by decide +kernel
theorem dX5_lastBy_11 : decode cX5_lastBy 11 = .ok (.invokevirtual 188, 3) := by decide +kernel
theorem dX5_lastBy_14 : decode cX5_lastBy 14 = .ok (.iload_n 2, 1) := by decide +kernel
theorem dX5_lastBy_15 : decode cX5_lastBy 15 = .ok (.ireturn, 1) := by decide +kernel
theorem dX5_outBy_0 : decode cX5_outBy 0 = .ok (.aload_n 0, 1) := by decide +kernel
theorem dX5_outBy_1 : decode cX5_outBy 1 = .ok (.invokevirtual 175, 3) := by decide +kernel
theorem dX5_outBy_4 : decode cX5_outBy 4 = .ok (.ifCond .ne 5, 3) := by decide +kernel
theorem dX5_outBy_7 : decode cX5_outBy 7 = .ok (.iconst (-1), 1) := by decide +kernel
theorem dX5_outBy_8 : decode cX5_outBy 8 = .ok (.ireturn, 1) := by decide +kernel
theorem dX5_outBy_9 : decode cX5_outBy 9 = .ok (.aload_n 0, 1) := by decide +kernel
theorem dX5_outBy_10 : decode cX5_outBy 10 = .ok (.invokevirtual 182, 3) := by decide +kernel
theorem dX5_outBy_13 : decode cX5_outBy 13 = .ok (.aload_n 0, 1) := by decide +kernel
theorem dX5_outBy_14 : decode cX5_outBy 14 = .ok (.iload_n 1, 1) := by decide +kernel
theorem dX5_outBy_15 : decode cX5_outBy 15 = .ok (.putfield 125, 3) := by decide +kernel
theorem dX5_outBy_18 : decode cX5_outBy 18 = .ok (.aload_n 0, 1) := by decide +kernel
theorem dX5_outBy_19 : decode cX5_outBy 19 = .ok (.iload_n 2, 1) := by decide +kernel
theorem dX5_outBy_20 : decode cX5_outBy 20 = .ok (.invokevirtual 179, 3) := by decide +kernel
theorem dX5_outBy_23 : decode cX5_outBy 23 = .ok (.istore_n 3, 1) := by decide +kernel
theorem dX5_outBy_24 : decode cX5_outBy 24 = .ok (.aload_n 0, 1) := by decide +kernel
theorem dX5_outBy_25 : decode cX5_outBy 25 = .ok (.invokevirtual 188, 3) := by decide +kernel
theorem dX5_outBy_28 : decode cX5_outBy 28 = .ok (.iload_n 3, 1) := by decide +kernel
theorem dX5_outBy_29 : decode cX5_outBy 29 = .ok (.ireturn, 1) := by decide +kernel
theorem dX5_beatsFor_0 : decode cX5_beatsFor 0 = .ok (.iconst 1, 1) := by decide +kernel
theorem dX5_beatsFor_1 : decode cX5_beatsFor 1 = .ok (.istore_n 2, 1) := by decide +kernel
theorem dX5_beatsFor_2 : decode cX5_beatsFor 2 = .ok (.iload_n 2, 1) := by decide +kernel
theorem dX5_beatsFor_3 : decode cX5_beatsFor 3 = .ok (.bipush 60, 2) := by decide +kernel
theorem dX5_beatsFor_5 : decode cX5_beatsFor 5 = .ok (.if_icmp .gt 20, 3) := by decide +kernel
theorem dX5_beatsFor_8 : decode cX5_beatsFor 8 = .ok (.aload_n 0, 1) := by decide +kernel
theorem dX5_beatsFor_9 : decode cX5_beatsFor 9 = .ok (.iload_n 2, 1) := by decide +kernel
theorem dX5_beatsFor_10 : decode cX5_beatsFor 10 = .ok (.invokevirtual 191, 3) := by decide +kernel
theorem dX5_beatsFor_13 : decode cX5_beatsFor 13 = .ok (.iload_n 1, 1) := by decide +kernel
theorem dX5_beatsFor_14 : decode cX5_beatsFor 14 = .ok (.if_icmp .ne 5, 3) := by decide +kernel
theorem dX5_beatsFor_17 : decode cX5_beatsFor 17 = .ok (.iload_n 2, 1) := by decide +kernel
theorem dX5_beatsFor_18 : decode cX5_beatsFor 18 = .ok (.ireturn, 1) := by decide +kernel
theorem dX5_beatsFor_19 : decode cX5_beatsFor 19 = .ok (.iinc 2 1, 3) := by decide +kernel
theorem dX5_beatsFor_22 : decode cX5_beatsFor 22 = .ok (.goto (-20), 3) := by decide +kernel
theorem dX5_beatsFor_25 : decode cX5_beatsFor 25 = .ok (.iconst (-1), 1) := by decide +kernel
theorem dX5_beatsFor_26 : decode cX5_beatsFor 26 = .ok (.ireturn, 1) := by decide +kernel
theorem dX5_childNow_0 : decode cX5_childNow 0 = .ok (.iload_n 2, 1) := by decide +kernel
theorem dX5_childNow_1 : decode cX5_childNow 1 = .ok (.tableswitch 92 0 4 #[35, 42, 59, 76, 86], 35) := by decide +kernel
theorem dX5_childNow_36 : decode cX5_childNow 36 = .ok (.aload_n 0, 1) := by decide +kernel
theorem dX5_childNow_37 : decode cX5_childNow 37 = .ok (.getfield 13, 3) := by decide +kernel
theorem dX5_childNow_40 : decode cX5_childNow 40 = .ok (.iload_n 1, 1) := by decide +kernel
theorem dX5_childNow_41 : decode cX5_childNow 41 = .ok (.iaload, 1) := by decide +kernel
theorem dX5_childNow_42 : decode cX5_childNow 42 = .ok (.ireturn, 1) := by decide +kernel
theorem dX5_childNow_43 : decode cX5_childNow 43 = .ok (.aload_n 0, 1) := by decide +kernel
theorem dX5_childNow_44 : decode cX5_childNow 44 = .ok (.getfield 119, 3) := by decide +kernel
theorem dX5_childNow_47 : decode cX5_childNow 47 = .ok (.iload_n 1, 1) := by decide +kernel
theorem dX5_childNow_48 : decode cX5_childNow 48 = .ok (.invokestatic 140, 3) := by decide +kernel
theorem dX5_childNow_51 : decode cX5_childNow 51 = .ok (.ifCond .eq 7, 3) := by decide +kernel
theorem dX5_childNow_54 : decode cX5_childNow 54 = .ok (.iconst 1, 1) := by decide +kernel
theorem dX5_childNow_55 : decode cX5_childNow 55 = .ok (.goto 4, 3) := by decide +kernel
theorem dX5_childNow_58 : decode cX5_childNow 58 = .ok (.iconst 0, 1) := by decide +kernel
theorem dX5_childNow_59 : decode cX5_childNow 59 = .ok (.ireturn, 1) := by decide +kernel
theorem dX5_childNow_60 : decode cX5_childNow 60 = .ok (.aload_n 0, 1) := by decide +kernel
theorem dX5_childNow_61 : decode cX5_childNow 61 = .ok (.getfield 122, 3) := by decide +kernel
theorem dX5_childNow_64 : decode cX5_childNow 64 = .ok (.iload_n 1, 1) := by decide +kernel
theorem dX5_childNow_65 : decode cX5_childNow 65 = .ok (.invokestatic 140, 3) := by decide +kernel
theorem dX5_childNow_68 : decode cX5_childNow 68 = .ok (.ifCond .eq 7, 3) := by decide +kernel
theorem dX5_childNow_71 : decode cX5_childNow 71 = .ok (.iconst 1, 1) := by decide +kernel
theorem dX5_childNow_72 : decode cX5_childNow 72 = .ok (.goto 4, 3) := by decide +kernel
theorem dX5_childNow_75 : decode cX5_childNow 75 = .ok (.iconst 0, 1) := by decide +kernel
theorem dX5_childNow_76 : decode cX5_childNow 76 = .ok (.ireturn, 1) := by decide +kernel
theorem dX5_childNow_77 : decode cX5_childNow 77 = .ok (.aload_n 0, 1) := by decide +kernel
theorem dX5_childNow_78 : decode cX5_childNow 78 = .ok (.getfield 13, 3) := by decide +kernel
theorem dX5_childNow_81 : decode cX5_childNow 81 = .ok (.iload_n 1, 1) := by decide +kernel
theorem dX5_childNow_82 : decode cX5_childNow 82 = .ok (.iaload, 1) := by decide +kernel
theorem dX5_childNow_83 : decode cX5_childNow 83 = .ok (.invokestatic 143, 3) := by decide +kernel
theorem dX5_childNow_86 : decode cX5_childNow 86 = .ok (.ireturn, 1) := by decide +kernel
theorem dX5_childNow_87 : decode cX5_childNow 87 = .ok (.aload_n 0, 1) := by decide +kernel
theorem dX5_childNow_88 : decode cX5_childNow 88 = .ok (.iload_n 1, 1) := by decide +kernel
theorem dX5_childNow_89 : decode cX5_childNow 89 = .ok (.invokevirtual 194, 3) := by decide +kernel
theorem dX5_childNow_92 : decode cX5_childNow 92 = .ok (.ireturn, 1) := by decide +kernel
theorem dX5_childNow_93 : decode cX5_childNow 93 = .ok (.aload_n 0, 1) := by decide +kernel
theorem dX5_childNow_94 : decode cX5_childNow 94 = .ok (.getfield 125, 3) := by decide +kernel
theorem dX5_childNow_97 : decode cX5_childNow 97 = .ok (.iload_n 1, 1) := by decide +kernel
theorem dX5_childNow_98 : decode cX5_childNow 98 = .ok (.if_icmp .ne 7, 3) := by decide +kernel
theorem dX5_childNow_101 : decode cX5_childNow 101 = .ok (.iconst 1, 1) := by decide +kernel
theorem dX5_childNow_102 : decode cX5_childNow 102 = .ok (.goto 4, 3) := by decide +kernel
theorem dX5_childNow_105 : decode cX5_childNow 105 = .ok (.iconst 0, 1) := by decide +kernel
theorem dX5_childNow_106 : decode cX5_childNow 106 = .ok (.ireturn, 1) := by decide +kernel
theorem dX5_child_0 : decode cX5_child 0 = .ok (.aload_n 0, 1) := by decide +kernel
theorem dX5_child_1 : decode cX5_child 1 = .ok (.iload_n 1, 1) := by decide +kernel
theorem dX5_child_2 : decode cX5_child 2 = .ok (.invokevirtual 197, 3) := by decide +kernel
theorem dX5_child_5 : decode cX5_child 5 = .ok (.ifCond .ne 8, 3) := by decide +kernel
theorem dX5_child_8 : decode cX5_child 8 = .ok (.bipush (-101), 2) := by decide +kernel
theorem dX5_child_10 : decode cX5_child 10 = .ok (.goto 23, 3) := by decide +kernel
theorem dX5_child_13 : decode cX5_child 13 = .ok (.iload_n 2, 1) := by decide +kernel
theorem dX5_child_14 : decode cX5_child 14 = .ok (.iconst 0, 1) := by decide +kernel
theorem dX5_child_15 : decode cX5_child 15 = .ok (.iconst 5, 1) := by decide +kernel
theorem dX5_child_16 : decode cX5_child 16 = .ok (.invokestatic 77, 3) := by decide +kernel
theorem dX5_child_19 : decode cX5_child 19 = .ok (.ifCond .eq 12, 3) := by decide +kernel
theorem dX5_child_22 : decode cX5_child 22 = .ok (.aload_n 0, 1) := by decide +kernel
theorem dX5_child_23 : decode cX5_child 23 = .ok (.iload_n 1, 1) := by decide +kernel
theorem dX5_child_24 : decode cX5_child 24 = .ok (.iload_n 2, 1) := by decide +kernel
theorem dX5_child_25 : decode cX5_child 25 = .ok (.invokevirtual 200, 3) := by decide +kernel
theorem dX5_child_28 : decode cX5_child 28 = .ok (.goto 5, 3) := by decide +kernel
theorem dX5_child_31 : decode cX5_child 31 = .ok (.bipush (-102), 2) := by decide +kernel
theorem dX5_child_33 : decode cX5_child 33 = .ok (.ireturn, 1) := by decide +kernel
theorem dX5_as_0 : decode cX5_as 0 = .ok (.aload_n 0, 1) := by decide +kernel
theorem dX5_as_1 : decode cX5_as 1 = .ok (.iload_n 1, 1) := by decide +kernel
theorem dX5_as_2 : decode cX5_as 2 = .ok (.invokevirtual 197, 3) := by decide +kernel
theorem dX5_as_5 : decode cX5_as 5 = .ok (.ifCond .ne 6, 3) := by decide +kernel
theorem dX5_as_8 : decode cX5_as 8 = .ok (.bipush (-101), 2) := by decide +kernel
theorem dX5_as_10 : decode cX5_as 10 = .ok (.ireturn, 1) := by decide +kernel
theorem dX5_as_11 : decode cX5_as 11 = .ok (.iload_n 2, 1) := by decide +kernel
theorem dX5_as_12 : decode cX5_as 12 = .ok (.iconst 0, 1) := by decide +kernel
theorem dX5_as_13 : decode cX5_as 13 = .ok (.iconst 4, 1) := by decide +kernel
theorem dX5_as_14 : decode cX5_as 14 = .ok (.invokestatic 77, 3) := by decide +kernel
theorem dX5_as_17 : decode cX5_as 17 = .ok (.ifCond .ne 6, 3) := by decide +kernel
theorem dX5_as_20 : decode cX5_as 20 = .ok (.bipush (-102), 2) := by decide +kernel
theorem dX5_as_22 : decode cX5_as 22 = .ok (.ireturn, 1) := by decide +kernel
theorem dX5_as_23 : decode cX5_as 23 = .ok (.aload_n 0, 1) := by decide +kernel
theorem dX5_as_24 : decode cX5_as 24 = .ok (.getfield 13, 3) := by decide +kernel
theorem dX5_as_27 : decode cX5_as 27 = .ok (.iload_n 1, 1) := by decide +kernel
theorem dX5_as_28 : decode cX5_as 28 = .ok (.iaload, 1) := by decide +kernel
theorem dX5_as_29 : decode cX5_as 29 = .ok (.istore_n 3, 1) := by decide +kernel
theorem dX5_as_30 : decode cX5_as 30 = .ok (.iload_n 2, 1) := by decide +kernel
theorem dX5_as_31 : decode cX5_as 31 = .ok (.ifCond .eq 18, 3) := by decide +kernel
theorem dX5_as_34 : decode cX5_as 34 = .ok (.iload_n 3, 1) := by decide +kernel
theorem dX5_as_35 : decode cX5_as 35 = .ok (.iload_n 2, 1) := by decide +kernel
theorem dX5_as_36 : decode cX5_as 36 = .ok (.if_icmp .eq 13, 3) := by decide +kernel
theorem dX5_as_39 : decode cX5_as 39 = .ok (.iload_n 2, 1) := by decide +kernel
theorem dX5_as_40 : decode cX5_as 40 = .ok (.iconst 3, 1) := by decide +kernel
theorem dX5_as_41 : decode cX5_as 41 = .ok (.if_icmp .ne 12, 3) := by decide +kernel
theorem dX5_as_44 : decode cX5_as 44 = .ok (.iload_n 3, 1) := by decide +kernel
theorem dX5_as_45 : decode cX5_as 45 = .ok (.iconst 4, 1) := by decide +kernel
theorem dX5_as_46 : decode cX5_as 46 = .ok (.if_icmp .ne 7, 3) := by decide +kernel
theorem dX5_as_49 : decode cX5_as 49 = .ok (.iload_n 1, 1) := by decide +kernel
theorem dX5_as_50 : decode cX5_as 50 = .ok (.goto 4, 3) := by decide +kernel
theorem dX5_as_53 : decode cX5_as 53 = .ok (.iconst (-1), 1) := by decide +kernel
theorem dX5_as_54 : decode cX5_as 54 = .ok (.ireturn, 1) := by decide +kernel
theorem dX5_verseNow_0 : decode cX5_verseNow 0 = .ok (.iload_n 2, 1) := by decide +kernel
theorem dX5_verseNow_1 : decode cX5_verseNow 1 = .ok (.ifCond .ne 12, 3) := by decide +kernel
theorem dX5_verseNow_4 : decode cX5_verseNow 4 = .ok (.aload_n 0, 1) := by decide +kernel
theorem dX5_verseNow_5 : decode cX5_verseNow 5 = .ok (.getfield 7, 3) := by decide +kernel
theorem dX5_verseNow_8 : decode cX5_verseNow 8 = .ok (.iload_n 1, 1) := by decide +kernel
theorem dX5_verseNow_9 : decode cX5_verseNow 9 = .ok (.iaload, 1) := by decide +kernel
theorem dX5_verseNow_10 : decode cX5_verseNow 10 = .ok (.goto 35, 3) := by decide +kernel
theorem dX5_verseNow_13 : decode cX5_verseNow 13 = .ok (.iload_n 2, 1) := by decide +kernel
theorem dX5_verseNow_14 : decode cX5_verseNow 14 = .ok (.iconst 1, 1) := by decide +kernel
theorem dX5_verseNow_15 : decode cX5_verseNow 15 = .ok (.if_icmp .ne 20, 3) := by decide +kernel
theorem dX5_verseNow_18 : decode cX5_verseNow 18 = .ok (.aload_n 0, 1) := by decide +kernel
theorem dX5_verseNow_19 : decode cX5_verseNow 19 = .ok (.aload_n 0, 1) := by decide +kernel
theorem dX5_verseNow_20 : decode cX5_verseNow 20 = .ok (.getfield 125, 3) := by decide +kernel
theorem dX5_verseNow_23 : decode cX5_verseNow 23 = .ok (.aload_n 0, 1) := by decide +kernel
theorem dX5_verseNow_24 : decode cX5_verseNow 24 = .ok (.getfield 7, 3) := by decide +kernel
theorem dX5_verseNow_27 : decode cX5_verseNow 27 = .ok (.iload_n 1, 1) := by decide +kernel
theorem dX5_verseNow_28 : decode cX5_verseNow 28 = .ok (.iaload, 1) := by decide +kernel
theorem dX5_verseNow_29 : decode cX5_verseNow 29 = .ok (.invokevirtual 204, 3) := by decide +kernel
theorem dX5_verseNow_32 : decode cX5_verseNow 32 = .ok (.goto 13, 3) := by decide +kernel
theorem dX5_verseNow_35 : decode cX5_verseNow 35 = .ok (.aload_n 0, 1) := by decide +kernel
theorem dX5_verseNow_36 : decode cX5_verseNow 36 = .ok (.aload_n 0, 1) := by decide +kernel
theorem dX5_verseNow_37 : decode cX5_verseNow 37 = .ok (.getfield 7, 3) := by decide +kernel
theorem dX5_verseNow_40 : decode cX5_verseNow 40 = .ok (.iload_n 1, 1) := by decide +kernel
theorem dX5_verseNow_41 : decode cX5_verseNow 41 = .ok (.iaload, 1) := by decide +kernel
theorem dX5_verseNow_42 : decode cX5_verseNow 42 = .ok (.invokevirtual 191, 3) := by decide +kernel
theorem dX5_verseNow_45 : decode cX5_verseNow 45 = .ok (.ireturn, 1) := by decide +kernel
theorem dX5_verse_0 : decode cX5_verse 0 = .ok (.aload_n 0, 1) := by decide +kernel
theorem dX5_verse_1 : decode cX5_verse 1 = .ok (.iload_n 1, 1) := by decide +kernel
theorem dX5_verse_2 : decode cX5_verse 2 = .ok (.invokevirtual 207, 3) := by decide +kernel
theorem dX5_verse_5 : decode cX5_verse 5 = .ok (.ifCond .ne 8, 3) := by decide +kernel
theorem dX5_verse_8 : decode cX5_verse 8 = .ok (.bipush (-101), 2) := by decide +kernel
theorem dX5_verse_10 : decode cX5_verse 10 = .ok (.goto 23, 3) := by decide +kernel
theorem dX5_verse_13 : decode cX5_verse 13 = .ok (.iload_n 2, 1) := by decide +kernel
theorem dX5_verse_14 : decode cX5_verse 14 = .ok (.iconst 0, 1) := by decide +kernel
theorem dX5_verse_15 : decode cX5_verse 15 = .ok (.iconst 2, 1) := by decide +kernel
theorem dX5_verse_16 : decode cX5_verse 16 = .ok (.invokestatic 77, 3) := by decide +kernel
theorem dX5_verse_19 : decode cX5_verse 19 = .ok (.ifCond .eq 12, 3) := by decide +kernel
theorem dX5_verse_22 : decode cX5_verse 22 = .ok (.aload_n 0, 1) := by decide +kernel
theorem dX5_verse_23 : decode cX5_verse 23 = .ok (.iload_n 1, 1) := by decide +kernel
theorem dX5_verse_24 : decode cX5_verse 24 = .ok (.iload_n 2, 1) := by decide +kernel
theorem dX5_verse_25 : decode cX5_verse 25 = .ok (.invokevirtual 210, 3) := by decide +kernel
theorem dX5_verse_28 : decode cX5_verse 28 = .ok (.goto 5, 3) := by decide +kernel
theorem dX5_verse_31 : decode cX5_verse 31 = .ok (.bipush (-102), 2) := by decide +kernel
theorem dX5_verse_33 : decode cX5_verse 33 = .ok (.ireturn, 1) := by decide +kernel
theorem dX5_say_0 : decode cX5_say 0 = .ok (.aload_n 0, 1) := by decide +kernel
theorem dX5_say_1 : decode cX5_say 1 = .ok (.iload_n 1, 1) := by decide +kernel
theorem dX5_say_2 : decode cX5_say 2 = .ok (.invokevirtual 207, 3) := by decide +kernel
theorem dX5_say_5 : decode cX5_say 5 = .ok (.ifCond .ne 6, 3) := by decide +kernel
theorem dX5_say_8 : decode cX5_say 8 = .ok (.bipush (-101), 2) := by decide +kernel
theorem dX5_say_10 : decode cX5_say 10 = .ok (.ireturn, 1) := by decide +kernel
theorem dX5_say_11 : decode cX5_say 11 = .ok (.aload_n 0, 1) := by decide +kernel
theorem dX5_say_12 : decode cX5_say 12 = .ok (.invokevirtual 175, 3) := by decide +kernel
theorem dX5_say_15 : decode cX5_say 15 = .ok (.ifCond .ne 6, 3) := by decide +kernel
theorem dX5_say_18 : decode cX5_say 18 = .ok (.bipush (-103), 2) := by decide +kernel
theorem dX5_say_20 : decode cX5_say 20 = .ok (.ireturn, 1) := by decide +kernel
theorem dX5_say_21 : decode cX5_say 21 = .ok (.aload_n 0, 1) := by decide +kernel
theorem dX5_say_22 : decode cX5_say 22 = .ok (.getfield 131, 3) := by decide +kernel
theorem dX5_say_25 : decode cX5_say 25 = .ok (.sipush 999, 3) := by decide +kernel
theorem dX5_say_28 : decode cX5_say 28 = .ok (.if_icmp .ne 6, 3) := by decide +kernel
theorem dX5_say_31 : decode cX5_say 31 = .ok (.bipush (-104), 2) := by decide +kernel
theorem dX5_say_33 : decode cX5_say 33 = .ok (.ireturn, 1) := by decide +kernel
theorem dX5_say_34 : decode cX5_say 34 = .ok (.aload_n 0, 1) := by decide +kernel
theorem dX5_say_35 : decode cX5_say 35 = .ok (.dup, 1) := by decide +kernel
theorem dX5_say_36 : decode cX5_say 36 = .ok (.getfield 131, 3) := by decide +kernel
theorem dX5_say_39 : decode cX5_say 39 = .ok (.iconst 1, 1) := by decide +kernel
theorem dX5_say_40 : decode cX5_say 40 = .ok (.iadd, 1) := by decide +kernel
theorem dX5_say_41 : decode cX5_say 41 = .ok (.putfield 131, 3) := by decide +kernel
theorem dX5_say_44 : decode cX5_say 44 = .ok (.aload_n 0, 1) := by decide +kernel
theorem dX5_say_45 : decode cX5_say 45 = .ok (.aload_n 0, 1) := by decide +kernel
theorem dX5_say_46 : decode cX5_say 46 = .ok (.getfield 7, 3) := by decide +kernel
theorem dX5_say_49 : decode cX5_say 49 = .ok (.iload_n 1, 1) := by decide +kernel
theorem dX5_say_50 : decode cX5_say 50 = .ok (.iaload, 1) := by decide +kernel
theorem dX5_say_51 : decode cX5_say 51 = .ok (.invokevirtual 179, 3) := by decide +kernel
theorem dX5_say_54 : decode cX5_say 54 = .ok (.ireturn, 1) := by decide +kernel
theorem dX5_back_0 : decode cX5_back 0 = .ok (.aload_n 0, 1) := by decide +kernel
theorem dX5_back_1 : decode cX5_back 1 = .ok (.iload_n 1, 1) := by decide +kernel
theorem dX5_back_2 : decode cX5_back 2 = .ok (.invokevirtual 197, 3) := by decide +kernel
theorem dX5_back_5 : decode cX5_back 5 = .ok (.ifCond .ne 6, 3) := by decide +kernel
theorem dX5_back_8 : decode cX5_back 8 = .ok (.bipush (-101), 2) := by decide +kernel
theorem dX5_back_10 : decode cX5_back 10 = .ok (.ireturn, 1) := by decide +kernel
theorem dX5_back_11 : decode cX5_back 11 = .ok (.aload_n 0, 1) := by decide +kernel
theorem dX5_back_12 : decode cX5_back 12 = .ok (.getfield 119, 3) := by decide +kernel
theorem dX5_back_15 : decode cX5_back 15 = .ok (.iload_n 1, 1) := by decide +kernel
theorem dX5_back_16 : decode cX5_back 16 = .ok (.invokestatic 140, 3) := by decide +kernel
theorem dX5_back_19 : decode cX5_back 19 = .ok (.ifCond .eq 6, 3) := by decide +kernel
theorem dX5_back_22 : decode cX5_back 22 = .ok (.bipush (-103), 2) := by decide +kernel
theorem dX5_back_24 : decode cX5_back 24 = .ok (.ireturn, 1) := by decide +kernel
theorem dX5_back_25 : decode cX5_back 25 = .ok (.aload_n 0, 1) := by decide +kernel
theorem dX5_back_26 : decode cX5_back 26 = .ok (.dup, 1) := by decide +kernel
theorem dX5_back_27 : decode cX5_back 27 = .ok (.getfield 119, 3) := by decide +kernel
theorem dX5_back_30 : decode cX5_back 30 = .ok (.iconst 1, 1) := by decide +kernel
theorem dX5_back_31 : decode cX5_back 31 = .ok (.iload_n 1, 1) := by decide +kernel
theorem dX5_back_32 : decode cX5_back 32 = .ok (.ishl, 1) := by decide +kernel
theorem dX5_back_33 : decode cX5_back 33 = .ok (.ior, 1) := by decide +kernel
theorem dX5_back_34 : decode cX5_back 34 = .ok (.putfield 119, 3) := by decide +kernel
theorem dX5_back_37 : decode cX5_back 37 = .ok (.aload_n 0, 1) := by decide +kernel
theorem dX5_back_38 : decode cX5_back 38 = .ok (.getfield 119, 3) := by decide +kernel
theorem dX5_back_41 : decode cX5_back 41 = .ok (.invokestatic 146, 3) := by decide +kernel
theorem dX5_back_44 : decode cX5_back 44 = .ok (.ireturn, 1) := by decide +kernel
theorem dX5_first_0 : decode cX5_first 0 = .ok (.aload_n 0, 1) := by decide +kernel
theorem dX5_first_1 : decode cX5_first 1 = .ok (.iload_n 1, 1) := by decide +kernel
theorem dX5_first_2 : decode cX5_first 2 = .ok (.invokevirtual 197, 3) := by decide +kernel
theorem dX5_first_5 : decode cX5_first 5 = .ok (.ifCond .ne 6, 3) := by decide +kernel
theorem dX5_first_8 : decode cX5_first 8 = .ok (.bipush (-101), 2) := by decide +kernel
theorem dX5_first_10 : decode cX5_first 10 = .ok (.ireturn, 1) := by decide +kernel
theorem dX5_first_11 : decode cX5_first 11 = .ok (.aload_n 0, 1) := by decide +kernel
theorem dX5_first_12 : decode cX5_first 12 = .ok (.getfield 125, 3) := by decide +kernel
theorem dX5_first_15 : decode cX5_first 15 = .ok (.istore_n 2, 1) := by decide +kernel
theorem dX5_first_16 : decode cX5_first 16 = .ok (.aload_n 0, 1) := by decide +kernel
theorem dX5_first_17 : decode cX5_first 17 = .ok (.iload_n 1, 1) := by decide +kernel
theorem dX5_first_18 : decode cX5_first 18 = .ok (.putfield 125, 3) := by decide +kernel
theorem dX5_first_21 : decode cX5_first 21 = .ok (.iload_n 2, 1) := by decide +kernel
theorem dX5_first_22 : decode cX5_first 22 = .ok (.ireturn, 1) := by decide +kernel
theorem dX5_turn_0 : decode cX5_turn 0 = .ok (.aload_n 0, 1) := by decide +kernel
theorem dX5_turn_1 : decode cX5_turn 1 = .ok (.getfield 116, 3) := by decide +kernel
theorem dX5_turn_4 : decode cX5_turn 4 = .ok (.ifCond .ne 6, 3) := by decide +kernel
theorem dX5_turn_7 : decode cX5_turn 7 = .ok (.bipush (-103), 2) := by decide +kernel
theorem dX5_turn_9 : decode cX5_turn 9 = .ok (.ireturn, 1) := by decide +kernel
theorem dX5_turn_10 : decode cX5_turn 10 = .ok (.aload_n 0, 1) := by decide +kernel
theorem dX5_turn_11 : decode cX5_turn 11 = .ok (.aload_n 0, 1) := by decide +kernel
theorem dX5_turn_12 : decode cX5_turn 12 = .ok (.getfield 128, 3) := by decide +kernel
theorem dX5_turn_15 : decode cX5_turn 15 = .ok (.ifCond .ne 7, 3) := by decide +kernel
theorem dX5_turn_18 : decode cX5_turn 18 = .ok (.iconst 1, 1) := by decide +kernel
theorem dX5_turn_19 : decode cX5_turn 19 = .ok (.goto 4, 3) := by decide +kernel
theorem dX5_turn_22 : decode cX5_turn 22 = .ok (.iconst 0, 1) := by decide +kernel
theorem dX5_turn_23 : decode cX5_turn 23 = .ok (.putfield 128, 3) := by decide +kernel
theorem dX5_turn_26 : decode cX5_turn 26 = .ok (.aload_n 0, 1) := by decide +kernel
theorem dX5_turn_27 : decode cX5_turn 27 = .ok (.getfield 128, 3) := by decide +kernel
theorem dX5_turn_30 : decode cX5_turn 30 = .ok (.ifCond .eq 7, 3) := by decide +kernel
theorem dX5_turn_33 : decode cX5_turn 33 = .ok (.iconst 0, 1) := by decide +kernel
theorem dX5_turn_34 : decode cX5_turn 34 = .ok (.goto 4, 3) := by decide +kernel
theorem dX5_turn_37 : decode cX5_turn 37 = .ok (.iconst 1, 1) := by decide +kernel
theorem dX5_turn_38 : decode cX5_turn 38 = .ok (.ireturn, 1) := by decide +kernel
theorem dX5_beats_0 : decode cX5_beats 0 = .ok (.aload_n 0, 1) := by decide +kernel
theorem dX5_beats_1 : decode cX5_beats 1 = .ok (.iload_n 1, 1) := by decide +kernel
theorem dX5_beats_2 : decode cX5_beats 2 = .ok (.invokevirtual 207, 3) := by decide +kernel
theorem dX5_beats_5 : decode cX5_beats 5 = .ok (.ifCond .ne 6, 3) := by decide +kernel
theorem dX5_beats_8 : decode cX5_beats 8 = .ok (.bipush (-101), 2) := by decide +kernel
theorem dX5_beats_10 : decode cX5_beats 10 = .ok (.ireturn, 1) := by decide +kernel
theorem dX5_beats_11 : decode cX5_beats 11 = .ok (.iload_n 2, 1) := by decide +kernel
theorem dX5_beats_12 : decode cX5_beats 12 = .ok (.iconst 1, 1) := by decide +kernel
theorem dX5_beats_13 : decode cX5_beats 13 = .ok (.bipush 99, 2) := by decide +kernel
theorem dX5_beats_15 : decode cX5_beats 15 = .ok (.invokestatic 77, 3) := by decide +kernel
theorem dX5_beats_18 : decode cX5_beats 18 = .ok (.ifCond .ne 6, 3) := by decide +kernel
theorem dX5_beats_21 : decode cX5_beats 21 = .ok (.bipush (-102), 2) := by decide +kernel
theorem dX5_beats_23 : decode cX5_beats 23 = .ok (.ireturn, 1) := by decide +kernel
theorem dX5_beats_24 : decode cX5_beats 24 = .ok (.aload_n 0, 1) := by decide +kernel
theorem dX5_beats_25 : decode cX5_beats 25 = .ok (.getfield 7, 3) := by decide +kernel
theorem dX5_beats_28 : decode cX5_beats 28 = .ok (.iload_n 1, 1) := by decide +kernel
theorem dX5_beats_29 : decode cX5_beats 29 = .ok (.iaload, 1) := by decide +kernel
theorem dX5_beats_30 : decode cX5_beats 30 = .ok (.istore_n 3, 1) := by decide +kernel
theorem dX5_beats_31 : decode cX5_beats 31 = .ok (.aload_n 0, 1) := by decide +kernel
theorem dX5_beats_32 : decode cX5_beats 32 = .ok (.getfield 7, 3) := by decide +kernel
theorem dX5_beats_35 : decode cX5_beats 35 = .ok (.iload_n 1, 1) := by decide +kernel
theorem dX5_beats_36 : decode cX5_beats 36 = .ok (.iload_n 2, 1) := by decide +kernel
theorem dX5_beats_37 : decode cX5_beats 37 = .ok (.iastore, 1) := by decide +kernel
theorem dX5_beats_38 : decode cX5_beats 38 = .ok (.iload_n 3, 1) := by decide +kernel
theorem dX5_beats_39 : decode cX5_beats 39 = .ok (.ireturn, 1) := by decide +kernel
theorem dX5_be_0 : decode cX5_be 0 = .ok (.aload_n 0, 1) := by decide +kernel
theorem dX5_be_1 : decode cX5_be 1 = .ok (.iload_n 1, 1) := by decide +kernel
theorem dX5_be_2 : decode cX5_be 2 = .ok (.invokevirtual 197, 3) := by decide +kernel
theorem dX5_be_5 : decode cX5_be 5 = .ok (.ifCond .ne 6, 3) := by decide +kernel
theorem dX5_be_8 : decode cX5_be 8 = .ok (.bipush (-101), 2) := by decide +kernel
theorem dX5_be_10 : decode cX5_be 10 = .ok (.ireturn, 1) := by decide +kernel
theorem dX5_be_11 : decode cX5_be 11 = .ok (.iload_n 2, 1) := by decide +kernel
theorem dX5_be_12 : decode cX5_be 12 = .ok (.iconst 0, 1) := by decide +kernel
theorem dX5_be_13 : decode cX5_be 13 = .ok (.iconst 4, 1) := by decide +kernel
theorem dX5_be_14 : decode cX5_be 14 = .ok (.invokestatic 77, 3) := by decide +kernel
theorem dX5_be_17 : decode cX5_be 17 = .ok (.ifCond .ne 6, 3) := by decide +kernel
theorem dX5_be_20 : decode cX5_be 20 = .ok (.bipush (-102), 2) := by decide +kernel
theorem dX5_be_22 : decode cX5_be 22 = .ok (.ireturn, 1) := by decide +kernel
theorem dX5_be_23 : decode cX5_be 23 = .ok (.aload_n 0, 1) := by decide +kernel
theorem dX5_be_24 : decode cX5_be 24 = .ok (.getfield 13, 3) := by decide +kernel
theorem dX5_be_27 : decode cX5_be 27 = .ok (.iload_n 1, 1) := by decide +kernel
theorem dX5_be_28 : decode cX5_be 28 = .ok (.iaload, 1) := by decide +kernel
theorem dX5_be_29 : decode cX5_be 29 = .ok (.istore_n 3, 1) := by decide +kernel
theorem dX5_be_30 : decode cX5_be 30 = .ok (.aload_n 0, 1) := by decide +kernel
theorem dX5_be_31 : decode cX5_be 31 = .ok (.getfield 13, 3) := by decide +kernel
theorem dX5_be_34 : decode cX5_be 34 = .ok (.iload_n 1, 1) := by decide +kernel
theorem dX5_be_35 : decode cX5_be 35 = .ok (.iload_n 2, 1) := by decide +kernel
theorem dX5_be_36 : decode cX5_be 36 = .ok (.iastore, 1) := by decide +kernel
theorem dX5_be_37 : decode cX5_be 37 = .ok (.aload_n 0, 1) := by decide +kernel
theorem dX5_be_38 : decode cX5_be 38 = .ok (.dup, 1) := by decide +kernel
theorem dX5_be_39 : decode cX5_be 39 = .ok (.getfield 122, 3) := by decide +kernel
theorem dX5_be_42 : decode cX5_be 42 = .ok (.iconst 1, 1) := by decide +kernel
theorem dX5_be_43 : decode cX5_be 43 = .ok (.iload_n 1, 1) := by decide +kernel
theorem dX5_be_44 : decode cX5_be 44 = .ok (.ishl, 1) := by decide +kernel
theorem dX5_be_45 : decode cX5_be 45 = .ok (.iconst (-1), 1) := by decide +kernel
theorem dX5_be_46 : decode cX5_be 46 = .ok (.ixor, 1) := by decide +kernel
theorem dX5_be_47 : decode cX5_be 47 = .ok (.iand, 1) := by decide +kernel
theorem dX5_be_48 : decode cX5_be 48 = .ok (.putfield 122, 3) := by decide +kernel
theorem dX5_be_51 : decode cX5_be 51 = .ok (.iload_n 3, 1) := by decide +kernel
theorem dX5_be_52 : decode cX5_be 52 = .ok (.ireturn, 1) := by decide +kernel
theorem dX5_areBeats_0 : decode cX5_areBeats 0 = .ok (.iload_n 0, 1) := by decide +kernel
theorem dX5_areBeats_1 : decode cX5_areBeats 1 = .ok (.iconst 1, 1) := by decide +kernel
theorem dX5_areBeats_2 : decode cX5_areBeats 2 = .ok (.bipush 99, 2) := by decide +kernel
theorem dX5_areBeats_4 : decode cX5_areBeats 4 = .ok (.invokestatic 77, 3) := by decide +kernel
theorem dX5_areBeats_7 : decode cX5_areBeats 7 = .ok (.ireturn, 1) := by decide +kernel
theorem dX5_last_0 : decode cX5_last 0 = .ok (.iload_n 1, 1) := by decide +kernel
theorem dX5_last_1 : decode cX5_last 1 = .ok (.invokestatic 213, 3) := by decide +kernel
theorem dX5_last_4 : decode cX5_last 4 = .ok (.ifCond .ne 6, 3) := by decide +kernel
theorem dX5_last_7 : decode cX5_last 7 = .ok (.bipush (-102), 2) := by decide +kernel
theorem dX5_last_9 : decode cX5_last 9 = .ok (.ireturn, 1) := by decide +kernel
theorem dX5_last_10 : decode cX5_last 10 = .ok (.aload_n 0, 1) := by decide +kernel
theorem dX5_last_11 : decode cX5_last 11 = .ok (.getfield 116, 3) := by decide +kernel
theorem dX5_last_14 : decode cX5_last 14 = .ok (.ifCond .ne 8, 3) := by decide +kernel
theorem dX5_last_17 : decode cX5_last 17 = .ok (.bipush (-103), 2) := by decide +kernel
theorem dX5_last_19 : decode cX5_last 19 = .ok (.goto 8, 3) := by decide +kernel
theorem dX5_last_22 : decode cX5_last 22 = .ok (.aload_n 0, 1) := by decide +kernel
theorem dX5_last_23 : decode cX5_last 23 = .ok (.iload_n 1, 1) := by decide +kernel
theorem dX5_last_24 : decode cX5_last 24 = .ok (.invokevirtual 191, 3) := by decide +kernel
theorem dX5_last_27 : decode cX5_last 27 = .ok (.ireturn, 1) := by decide +kernel
theorem dX5_beginNow_0 : decode cX5_beginNow 0 = .ok (.iconst 0, 1) := by decide +kernel
theorem dX5_beginNow_1 : decode cX5_beginNow 1 = .ok (.istore_n 3, 1) := by decide +kernel
theorem dX5_beginNow_2 : decode cX5_beginNow 2 = .ok (.iconst 0, 1) := by decide +kernel
theorem dX5_beginNow_3 : decode cX5_beginNow 3 = .ok (.istore 4, 2) := by decide +kernel
theorem dX5_beginNow_5 : decode cX5_beginNow 5 = .ok (.iload 4, 2) := by decide +kernel
theorem dX5_beginNow_7 : decode cX5_beginNow 7 = .ok (.aload_n 0, 1) := by decide +kernel
theorem dX5_beginNow_8 : decode cX5_beginNow 8 = .ok (.getfield 116, 3) := by decide +kernel
theorem dX5_beginNow_11 : decode cX5_beginNow 11 = .ok (.if_icmp .ge 55, 3) := by decide +kernel
theorem dX5_beginNow_14 : decode cX5_beginNow 14 = .ok (.aload_n 0, 1) := by decide +kernel
theorem dX5_beginNow_15 : decode cX5_beginNow 15 = .ok (.getfield 119, 3) := by decide +kernel
theorem dX5_beginNow_18 : decode cX5_beginNow 18 = .ok (.iload 4, 2) := by decide +kernel
theorem dX5_beginNow_20 : decode cX5_beginNow 20 = .ok (.invokestatic 140, 3) := by decide +kernel
theorem dX5_beginNow_23 : decode cX5_beginNow 23 = .ok (.ifCond .eq 37, 3) := by decide +kernel
theorem dX5_beginNow_26 : decode cX5_beginNow 26 = .ok (.aload_n 0, 1) := by decide +kernel
theorem dX5_beginNow_27 : decode cX5_beginNow 27 = .ok (.invokevirtual 182, 3) := by decide +kernel
theorem dX5_beginNow_30 : decode cX5_beginNow 30 = .ok (.aload_n 0, 1) := by decide +kernel
theorem dX5_beginNow_31 : decode cX5_beginNow 31 = .ok (.iload 4, 2) := by decide +kernel
theorem dX5_beginNow_33 : decode cX5_beginNow 33 = .ok (.putfield 125, 3) := by decide +kernel
theorem dX5_beginNow_36 : decode cX5_beginNow 36 = .ok (.iload_n 3, 1) := by decide +kernel
theorem dX5_beginNow_37 : decode cX5_beginNow 37 = .ok (.aload_n 0, 1) := by decide +kernel
theorem dX5_beginNow_38 : decode cX5_beginNow 38 = .ok (.iload_n 2, 1) := by decide +kernel
theorem dX5_beginNow_39 : decode cX5_beginNow 39 = .ok (.invokevirtual 185, 3) := by decide +kernel
theorem dX5_beginNow_42 : decode cX5_beginNow 42 = .ok (.iload_n 1, 1) := by decide +kernel
theorem dX5_beginNow_43 : decode cX5_beginNow 43 = .ok (.if_icmp .ne 10, 3) := by decide +kernel
theorem dX5_beginNow_46 : decode cX5_beginNow 46 = .ok (.iconst 1, 1) := by decide +kernel
theorem dX5_beginNow_47 : decode cX5_beginNow 47 = .ok (.iload 4, 2) := by decide +kernel
theorem dX5_beginNow_49 : decode cX5_beginNow 49 = .ok (.ishl, 1) := by decide +kernel
theorem dX5_beginNow_50 : decode cX5_beginNow 50 = .ok (.goto 4, 3) := by decide +kernel
theorem dX5_beginNow_53 : decode cX5_beginNow 53 = .ok (.iconst 0, 1) := by decide +kernel
theorem dX5_beginNow_54 : decode cX5_beginNow 54 = .ok (.ior, 1) := by decide +kernel
theorem dX5_beginNow_55 : decode cX5_beginNow 55 = .ok (.istore_n 3, 1) := by decide +kernel
theorem dX5_beginNow_56 : decode cX5_beginNow 56 = .ok (.aload_n 0, 1) := by decide +kernel
theorem dX5_beginNow_57 : decode cX5_beginNow 57 = .ok (.invokevirtual 188, 3) := by decide +kernel
theorem dX5_beginNow_60 : decode cX5_beginNow 60 = .ok (.iinc 4 1, 3) := by decide +kernel
theorem dX5_beginNow_63 : decode cX5_beginNow 63 = .ok (.goto (-58), 3) := by decide +kernel
theorem dX5_beginNow_66 : decode cX5_beginNow 66 = .ok (.iload_n 3, 1) := by decide +kernel
theorem dX5_beginNow_67 : decode cX5_beginNow 67 = .ok (.ireturn, 1) := by decide +kernel
theorem dX5_begin_0 : decode cX5_begin 0 = .ok (.aload_n 0, 1) := by decide +kernel
theorem dX5_begin_1 : decode cX5_begin 1 = .ok (.iload_n 1, 1) := by decide +kernel
theorem dX5_begin_2 : decode cX5_begin 2 = .ok (.invokevirtual 197, 3) := by decide +kernel
theorem dX5_begin_5 : decode cX5_begin 5 = .ok (.ifCond .ne 6, 3) := by decide +kernel
theorem dX5_begin_8 : decode cX5_begin 8 = .ok (.bipush (-101), 2) := by decide +kernel
theorem dX5_begin_10 : decode cX5_begin 10 = .ok (.ireturn, 1) := by decide +kernel
theorem dX5_begin_11 : decode cX5_begin 11 = .ok (.iload_n 2, 1) := by decide +kernel
theorem dX5_begin_12 : decode cX5_begin 12 = .ok (.invokestatic 213, 3) := by decide +kernel
theorem dX5_begin_15 : decode cX5_begin 15 = .ok (.ifCond .eq 12, 3) := by decide +kernel
theorem dX5_begin_18 : decode cX5_begin 18 = .ok (.aload_n 0, 1) := by decide +kernel
theorem dX5_begin_19 : decode cX5_begin 19 = .ok (.iload_n 1, 1) := by decide +kernel
theorem dX5_begin_20 : decode cX5_begin 20 = .ok (.iload_n 2, 1) := by decide +kernel
theorem dX5_begin_21 : decode cX5_begin 21 = .ok (.invokevirtual 216, 3) := by decide +kernel
theorem dX5_begin_24 : decode cX5_begin 24 = .ok (.goto 5, 3) := by decide +kernel
theorem dX5_begin_27 : decode cX5_begin 27 = .ok (.bipush (-102), 2) := by decide +kernel
theorem dX5_begin_29 : decode cX5_begin 29 = .ok (.ireturn, 1) := by decide +kernel
theorem dX5_opened_0 : decode cX5_opened 0 = .ok (.iconst 1, 1) := by decide +kernel
theorem dX5_opened_1 : decode cX5_opened 1 = .ok (.iload_n 1, 1) := by decide +kernel
theorem dX5_opened_2 : decode cX5_opened 2 = .ok (.ishl, 1) := by decide +kernel
theorem dX5_opened_3 : decode cX5_opened 3 = .ok (.iconst 1, 1) := by decide +kernel
theorem dX5_opened_4 : decode cX5_opened 4 = .ok (.isub, 1) := by decide +kernel
theorem dX5_opened_5 : decode cX5_opened 5 = .ok (.istore_n 2, 1) := by decide +kernel
theorem dX5_opened_6 : decode cX5_opened 6 = .ok (.iload_n 0, 1) := by decide +kernel
theorem dX5_opened_7 : decode cX5_opened 7 = .ok (.iload_n 2, 1) := by decide +kernel
theorem dX5_opened_8 : decode cX5_opened 8 = .ok (.iand, 1) := by decide +kernel
theorem dX5_opened_9 : decode cX5_opened 9 = .ok (.iload_n 0, 1) := by decide +kernel
theorem dX5_opened_10 : decode cX5_opened 10 = .ok (.iload_n 2, 1) := by decide +kernel
theorem dX5_opened_11 : decode cX5_opened 11 = .ok (.iconst (-1), 1) := by decide +kernel
theorem dX5_opened_12 : decode cX5_opened 12 = .ok (.ixor, 1) := by decide +kernel
theorem dX5_opened_13 : decode cX5_opened 13 = .ok (.iand, 1) := by decide +kernel
theorem dX5_opened_14 : decode cX5_opened 14 = .ok (.iconst 1, 1) := by decide +kernel
theorem dX5_opened_15 : decode cX5_opened 15 = .ok (.ishl, 1) := by decide +kernel
theorem dX5_opened_16 : decode cX5_opened 16 = .ok (.ior, 1) := by decide +kernel
theorem dX5_opened_17 : decode cX5_opened 17 = .ok (.ireturn, 1) := by decide +kernel
theorem dX5_standNow_0 : decode cX5_standNow 0 = .ok (.iconst 0, 1) := by decide +kernel
theorem dX5_standNow_1 : decode cX5_standNow 1 = .ok (.istore_n 3, 1) := by decide +kernel
theorem dX5_standNow_2 : decode cX5_standNow 2 = .ok (.iconst 0, 1) := by decide +kernel
theorem dX5_standNow_3 : decode cX5_standNow 3 = .ok (.istore 4, 2) := by decide +kernel
theorem dX5_standNow_5 : decode cX5_standNow 5 = .ok (.iload 4, 2) := by decide +kernel
theorem dX5_standNow_7 : decode cX5_standNow 7 = .ok (.aload_n 0, 1) := by decide +kernel
theorem dX5_standNow_8 : decode cX5_standNow 8 = .ok (.getfield 116, 3) := by decide +kernel
theorem dX5_standNow_11 : decode cX5_standNow 11 = .ok (.if_icmp .gt 190, 3) := by decide +kernel
theorem dX5_standNow_14 : decode cX5_standNow 14 = .ok (.aload_n 0, 1) := by decide +kernel
theorem dX5_standNow_15 : decode cX5_standNow 15 = .ok (.invokevirtual 182, 3) := by decide +kernel
theorem dX5_standNow_18 : decode cX5_standNow 18 = .ok (.aload_n 0, 1) := by decide +kernel
theorem dX5_standNow_19 : decode cX5_standNow 19 = .ok (.getfield 116, 3) := by decide +kernel
theorem dX5_standNow_22 : decode cX5_standNow 22 = .ok (.istore 5, 2) := by decide +kernel
theorem dX5_standNow_24 : decode cX5_standNow 24 = .ok (.iload 5, 2) := by decide +kernel
theorem dX5_standNow_26 : decode cX5_standNow 26 = .ok (.iload 4, 2) := by decide +kernel
theorem dX5_standNow_28 : decode cX5_standNow 28 = .ok (.if_icmp .le 25, 3) := by decide +kernel
theorem dX5_standNow_31 : decode cX5_standNow 31 = .ok (.aload_n 0, 1) := by decide +kernel
theorem dX5_standNow_32 : decode cX5_standNow 32 = .ok (.getfield 13, 3) := by decide +kernel
theorem dX5_standNow_35 : decode cX5_standNow 35 = .ok (.iload 5, 2) := by decide +kernel
theorem dX5_standNow_37 : decode cX5_standNow 37 = .ok (.aload_n 0, 1) := by decide +kernel
theorem dX5_standNow_38 : decode cX5_standNow 38 = .ok (.getfield 13, 3) := by decide +kernel
theorem dX5_standNow_41 : decode cX5_standNow 41 = .ok (.iload 5, 2) := by decide +kernel
theorem dX5_standNow_43 : decode cX5_standNow 43 = .ok (.iconst 1, 1) := by decide +kernel
theorem dX5_standNow_44 : decode cX5_standNow 44 = .ok (.isub, 1) := by decide +kernel
theorem dX5_standNow_45 : decode cX5_standNow 45 = .ok (.iaload, 1) := by decide +kernel
theorem dX5_standNow_46 : decode cX5_standNow 46 = .ok (.iastore, 1) := by decide +kernel
theorem dX5_standNow_47 : decode cX5_standNow 47 = .ok (.iinc 5 (-1), 3) := by decide +kernel
theorem dX5_standNow_50 : decode cX5_standNow 50 = .ok (.goto (-26), 3) := by decide +kernel
theorem dX5_standNow_53 : decode cX5_standNow 53 = .ok (.aload_n 0, 1) := by decide +kernel
theorem dX5_standNow_54 : decode cX5_standNow 54 = .ok (.getfield 13, 3) := by decide +kernel
theorem dX5_standNow_57 : decode cX5_standNow 57 = .ok (.iload 4, 2) := by decide +kernel
theorem dX5_standNow_59 : decode cX5_standNow 59 = .ok (.iload_n 1, 1) := by decide +kernel
theorem dX5_standNow_60 : decode cX5_standNow 60 = .ok (.iastore, 1) := by decide +kernel
theorem dX5_standNow_61 : decode cX5_standNow 61 = .ok (.aload_n 0, 1) := by decide +kernel
theorem dX5_standNow_62 : decode cX5_standNow 62 = .ok (.aload_n 0, 1) := by decide +kernel
theorem dX5_standNow_63 : decode cX5_standNow 63 = .ok (.getfield 119, 3) := by decide +kernel
theorem dX5_standNow_66 : decode cX5_standNow 66 = .ok (.iload 4, 2) := by decide +kernel
theorem dX5_standNow_68 : decode cX5_standNow 68 = .ok (.invokestatic 219, 3) := by decide +kernel
theorem dX5_standNow_71 : decode cX5_standNow 71 = .ok (.iconst 1, 1) := by decide +kernel
theorem dX5_standNow_72 : decode cX5_standNow 72 = .ok (.iload 4, 2) := by decide +kernel
theorem dX5_standNow_74 : decode cX5_standNow 74 = .ok (.ishl, 1) := by decide +kernel
theorem dX5_standNow_75 : decode cX5_standNow 75 = .ok (.ior, 1) := by decide +kernel
theorem dX5_standNow_76 : decode cX5_standNow 76 = .ok (.putfield 119, 3) := by decide +kernel
theorem dX5_standNow_79 : decode cX5_standNow 79 = .ok (.aload_n 0, 1) := by decide +kernel
theorem dX5_standNow_80 : decode cX5_standNow 80 = .ok (.aload_n 0, 1) := by decide +kernel
theorem dX5_standNow_81 : decode cX5_standNow 81 = .ok (.getfield 122, 3) := by decide +kernel
theorem dX5_standNow_84 : decode cX5_standNow 84 = .ok (.iload 4, 2) := by decide +kernel
theorem dX5_standNow_86 : decode cX5_standNow 86 = .ok (.invokestatic 219, 3) := by decide +kernel
theorem dX5_standNow_89 : decode cX5_standNow 89 = .ok (.putfield 122, 3) := by decide +kernel
theorem dX5_standNow_92 : decode cX5_standNow 92 = .ok (.aload_n 0, 1) := by decide +kernel
theorem dX5_standNow_93 : decode cX5_standNow 93 = .ok (.dup, 1) := by decide +kernel
theorem dX5_standNow_94 : decode cX5_standNow 94 = .ok (.getfield 125, 3) := by decide +kernel
theorem dX5_standNow_97 : decode cX5_standNow 97 = .ok (.aload_n 0, 1) := by decide +kernel
theorem dX5_standNow_98 : decode cX5_standNow 98 = .ok (.getfield 125, 3) := by decide +kernel
theorem dX5_standNow_101 : decode cX5_standNow 101 = .ok (.iload 4, 2) := by decide +kernel
theorem dX5_standNow_103 : decode cX5_standNow 103 = .ok (.if_icmp .lt 7, 3) := by decide +kernel
theorem dX5_standNow_106 : decode cX5_standNow 106 = .ok (.iconst 1, 1) := by decide +kernel
theorem dX5_standNow_107 : decode cX5_standNow 107 = .ok (.goto 4, 3) := by decide +kernel
theorem dX5_standNow_110 : decode cX5_standNow 110 = .ok (.iconst 0, 1) := by decide +kernel
theorem dX5_standNow_111 : decode cX5_standNow 111 = .ok (.iadd, 1) := by decide +kernel
theorem dX5_standNow_112 : decode cX5_standNow 112 = .ok (.putfield 125, 3) := by decide +kernel
theorem dX5_standNow_115 : decode cX5_standNow 115 = .ok (.aload_n 0, 1) := by decide +kernel
theorem dX5_standNow_116 : decode cX5_standNow 116 = .ok (.dup, 1) := by decide +kernel
theorem dX5_standNow_117 : decode cX5_standNow 117 = .ok (.getfield 116, 3) := by decide +kernel
theorem dX5_standNow_120 : decode cX5_standNow 120 = .ok (.iconst 1, 1) := by decide +kernel
theorem dX5_standNow_121 : decode cX5_standNow 121 = .ok (.iadd, 1) := by decide +kernel
theorem dX5_standNow_122 : decode cX5_standNow 122 = .ok (.putfield 116, 3) := by decide +kernel
theorem dX5_standNow_125 : decode cX5_standNow 125 = .ok (.iload_n 3, 1) := by decide +kernel
theorem dX5_standNow_126 : decode cX5_standNow 126 = .ok (.aload_n 0, 1) := by decide +kernel
theorem dX5_standNow_127 : decode cX5_standNow 127 = .ok (.iload_n 2, 1) := by decide +kernel
theorem dX5_standNow_128 : decode cX5_standNow 128 = .ok (.invokevirtual 185, 3) := by decide +kernel
theorem dX5_standNow_131 : decode cX5_standNow 131 = .ok (.iload 4, 2) := by decide +kernel
theorem dX5_standNow_133 : decode cX5_standNow 133 = .ok (.if_icmp .ne 10, 3) := by decide +kernel
theorem dX5_standNow_136 : decode cX5_standNow 136 = .ok (.iconst 1, 1) := by decide +kernel
theorem dX5_standNow_137 : decode cX5_standNow 137 = .ok (.iload 4, 2) := by decide +kernel
theorem dX5_standNow_139 : decode cX5_standNow 139 = .ok (.ishl, 1) := by decide +kernel
theorem dX5_standNow_140 : decode cX5_standNow 140 = .ok (.goto 4, 3) := by decide +kernel
theorem dX5_standNow_143 : decode cX5_standNow 143 = .ok (.iconst 0, 1) := by decide +kernel
theorem dX5_standNow_144 : decode cX5_standNow 144 = .ok (.ior, 1) := by decide +kernel
theorem dX5_standNow_145 : decode cX5_standNow 145 = .ok (.istore_n 3, 1) := by decide +kernel
theorem dX5_standNow_146 : decode cX5_standNow 146 = .ok (.aload_n 0, 1) := by decide +kernel
theorem dX5_standNow_147 : decode cX5_standNow 147 = .ok (.dup, 1) := by decide +kernel
theorem dX5_standNow_148 : decode cX5_standNow 148 = .ok (.getfield 116, 3) := by decide +kernel
theorem dX5_standNow_151 : decode cX5_standNow 151 = .ok (.iconst 1, 1) := by decide +kernel
theorem dX5_standNow_152 : decode cX5_standNow 152 = .ok (.isub, 1) := by decide +kernel
theorem dX5_standNow_153 : decode cX5_standNow 153 = .ok (.putfield 116, 3) := by decide +kernel
theorem dX5_standNow_156 : decode cX5_standNow 156 = .ok (.iload 4, 2) := by decide +kernel
theorem dX5_standNow_158 : decode cX5_standNow 158 = .ok (.istore 5, 2) := by decide +kernel
theorem dX5_standNow_160 : decode cX5_standNow 160 = .ok (.iload 5, 2) := by decide +kernel
theorem dX5_standNow_162 : decode cX5_standNow 162 = .ok (.aload_n 0, 1) := by decide +kernel
theorem dX5_standNow_163 : decode cX5_standNow 163 = .ok (.getfield 116, 3) := by decide +kernel
theorem dX5_standNow_166 : decode cX5_standNow 166 = .ok (.if_icmp .ge 25, 3) := by decide +kernel
theorem dX5_standNow_169 : decode cX5_standNow 169 = .ok (.aload_n 0, 1) := by decide +kernel
theorem dX5_standNow_170 : decode cX5_standNow 170 = .ok (.getfield 13, 3) := by decide +kernel
theorem dX5_standNow_173 : decode cX5_standNow 173 = .ok (.iload 5, 2) := by decide +kernel
theorem dX5_standNow_175 : decode cX5_standNow 175 = .ok (.aload_n 0, 1) := by decide +kernel
theorem dX5_standNow_176 : decode cX5_standNow 176 = .ok (.getfield 13, 3) := by decide +kernel
theorem dX5_standNow_179 : decode cX5_standNow 179 = .ok (.iload 5, 2) := by decide +kernel
theorem dX5_standNow_181 : decode cX5_standNow 181 = .ok (.iconst 1, 1) := by decide +kernel
theorem dX5_standNow_182 : decode cX5_standNow 182 = .ok (.iadd, 1) := by decide +kernel
theorem dX5_standNow_183 : decode cX5_standNow 183 = .ok (.iaload, 1) := by decide +kernel
theorem dX5_standNow_184 : decode cX5_standNow 184 = .ok (.iastore, 1) := by decide +kernel
theorem dX5_standNow_185 : decode cX5_standNow 185 = .ok (.iinc 5 1, 3) := by decide +kernel
theorem dX5_standNow_188 : decode cX5_standNow 188 = .ok (.goto (-28), 3) := by decide +kernel
theorem dX5_standNow_191 : decode cX5_standNow 191 = .ok (.aload_n 0, 1) := by decide +kernel
theorem dX5_standNow_192 : decode cX5_standNow 192 = .ok (.invokevirtual 188, 3) := by decide +kernel
theorem dX5_standNow_195 : decode cX5_standNow 195 = .ok (.iinc 4 1, 3) := by decide +kernel
theorem dX5_standNow_198 : decode cX5_standNow 198 = .ok (.goto (-193), 3) := by decide +kernel
theorem dX5_standNow_201 : decode cX5_standNow 201 = .ok (.iload_n 3, 1) := by decide +kernel
theorem dX5_standNow_202 : decode cX5_standNow 202 = .ok (.ireturn, 1) := by decide +kernel
theorem dX5_stand_0 : decode cX5_stand 0 = .ok (.iload_n 1, 1) := by decide +kernel
theorem dX5_stand_1 : decode cX5_stand 1 = .ok (.iconst 0, 1) := by decide +kernel
theorem dX5_stand_2 : decode cX5_stand 2 = .ok (.iconst 4, 1) := by decide +kernel
theorem dX5_stand_3 : decode cX5_stand 3 = .ok (.invokestatic 77, 3) := by decide +kernel
theorem dX5_stand_6 : decode cX5_stand 6 = .ok (.ifCond .eq 10, 3) := by decide +kernel
theorem dX5_stand_9 : decode cX5_stand 9 = .ok (.iload_n 2, 1) := by decide +kernel
theorem dX5_stand_10 : decode cX5_stand 10 = .ok (.invokestatic 213, 3) := by decide +kernel
theorem dX5_stand_13 : decode cX5_stand 13 = .ok (.ifCond .ne 6, 3) := by decide +kernel
theorem dX5_stand_16 : decode cX5_stand 16 = .ok (.bipush (-102), 2) := by decide +kernel
theorem dX5_stand_18 : decode cX5_stand 18 = .ok (.ireturn, 1) := by decide +kernel
theorem dX5_stand_19 : decode cX5_stand 19 = .ok (.aload_n 0, 1) := by decide +kernel
theorem dX5_stand_20 : decode cX5_stand 20 = .ok (.getfield 116, 3) := by decide +kernel
theorem dX5_stand_23 : decode cX5_stand 23 = .ok (.ifCond .ne 8, 3) := by decide +kernel
theorem dX5_stand_26 : decode cX5_stand 26 = .ok (.bipush (-103), 2) := by decide +kernel
theorem dX5_stand_28 : decode cX5_stand 28 = .ok (.goto 9, 3) := by decide +kernel
theorem dX5_stand_31 : decode cX5_stand 31 = .ok (.aload_n 0, 1) := by decide +kernel
theorem dX5_stand_32 : decode cX5_stand 32 = .ok (.iload_n 1, 1) := by decide +kernel
theorem dX5_stand_33 : decode cX5_stand 33 = .ok (.iload_n 2, 1) := by decide +kernel
theorem dX5_stand_34 : decode cX5_stand 34 = .ok (.invokevirtual 222, 3) := by decide +kernel
theorem dX5_stand_37 : decode cX5_stand 37 = .ok (.ireturn, 1) := by decide +kernel
theorem dX5_playBy_0 : decode cX5_playBy 0 = .ok (.aload_n 0, 1) := by decide +kernel
theorem dX5_playBy_1 : decode cX5_playBy 1 = .ok (.invokevirtual 182, 3) := by decide +kernel
theorem dX5_playBy_4 : decode cX5_playBy 4 = .ok (.iload_n 2, 1) := by decide +kernel
theorem dX5_playBy_5 : decode cX5_playBy 5 = .ok (.istore 5, 2) := by decide +kernel
theorem dX5_playBy_7 : decode cX5_playBy 7 = .ok (.iconst (-1), 1) := by decide +kernel
theorem dX5_playBy_8 : decode cX5_playBy 8 = .ok (.istore 6, 2) := by decide +kernel
theorem dX5_playBy_10 : decode cX5_playBy 10 = .ok (.aload_n 0, 1) := by decide +kernel
theorem dX5_playBy_11 : decode cX5_playBy 11 = .ok (.iconst 0, 1) := by decide +kernel
theorem dX5_playBy_12 : decode cX5_playBy 12 = .ok (.putfield 225, 3) := by decide +kernel
theorem dX5_playBy_15 : decode cX5_playBy 15 = .ok (.iload 6, 2) := by decide +kernel
theorem dX5_playBy_17 : decode cX5_playBy 17 = .ok (.iconst (-1), 1) := by decide +kernel
theorem dX5_playBy_18 : decode cX5_playBy 18 = .ok (.if_icmp .ne 82, 3) := by decide +kernel
theorem dX5_playBy_21 : decode cX5_playBy 21 = .ok (.aload_n 0, 1) := by decide +kernel
theorem dX5_playBy_22 : decode cX5_playBy 22 = .ok (.invokevirtual 175, 3) := by decide +kernel
theorem dX5_playBy_25 : decode cX5_playBy 25 = .ok (.ifCond .ne 9, 3) := by decide +kernel
theorem dX5_playBy_28 : decode cX5_playBy 28 = .ok (.iconst 1, 1) := by decide +kernel
theorem dX5_playBy_29 : decode cX5_playBy 29 = .ok (.istore 6, 2) := by decide +kernel
theorem dX5_playBy_31 : decode cX5_playBy 31 = .ok (.goto (-16), 3) := by decide +kernel
theorem dX5_playBy_34 : decode cX5_playBy 34 = .ok (.iload 5, 2) := by decide +kernel
theorem dX5_playBy_36 : decode cX5_playBy 36 = .ok (.aload_n 0, 1) := by decide +kernel
theorem dX5_playBy_37 : decode cX5_playBy 37 = .ok (.getfield 113, 3) := by decide +kernel
theorem dX5_playBy_40 : decode cX5_playBy 40 = .ok (.idiv, 1) := by decide +kernel
theorem dX5_playBy_41 : decode cX5_playBy 41 = .ok (.istore 5, 2) := by decide +kernel
theorem dX5_playBy_43 : decode cX5_playBy 43 = .ok (.aload_n 0, 1) := by decide +kernel
theorem dX5_playBy_44 : decode cX5_playBy 44 = .ok (.aload_n 0, 1) := by decide +kernel
theorem dX5_playBy_45 : decode cX5_playBy 45 = .ok (.getfield 7, 3) := by decide +kernel
theorem dX5_playBy_48 : decode cX5_playBy 48 = .ok (.iload_n 1, 1) := by decide +kernel
theorem dX5_playBy_49 : decode cX5_playBy 49 = .ok (.iload 5, 2) := by decide +kernel
theorem dX5_playBy_51 : decode cX5_playBy 51 = .ok (.idiv, 1) := by decide +kernel
theorem dX5_playBy_52 : decode cX5_playBy 52 = .ok (.aload_n 0, 1) := by decide +kernel
theorem dX5_playBy_53 : decode cX5_playBy 53 = .ok (.getfield 113, 3) := by decide +kernel
theorem dX5_playBy_56 : decode cX5_playBy 56 = .ok (.irem, 1) := by decide +kernel
theorem dX5_playBy_57 : decode cX5_playBy 57 = .ok (.iaload, 1) := by decide +kernel
theorem dX5_playBy_58 : decode cX5_playBy 58 = .ok (.invokevirtual 179, 3) := by decide +kernel
theorem dX5_playBy_61 : decode cX5_playBy 61 = .ok (.istore 7, 2) := by decide +kernel
theorem dX5_playBy_63 : decode cX5_playBy 63 = .ok (.aload_n 0, 1) := by decide +kernel
theorem dX5_playBy_64 : decode cX5_playBy 64 = .ok (.dup, 1) := by decide +kernel
theorem dX5_playBy_65 : decode cX5_playBy 65 = .ok (.getfield 225, 3) := by decide +kernel
theorem dX5_playBy_68 : decode cX5_playBy 68 = .ok (.iconst 1, 1) := by decide +kernel
theorem dX5_playBy_69 : decode cX5_playBy 69 = .ok (.iadd, 1) := by decide +kernel
theorem dX5_playBy_70 : decode cX5_playBy 70 = .ok (.putfield 225, 3) := by decide +kernel
theorem dX5_playBy_73 : decode cX5_playBy 73 = .ok (.iload 7, 2) := by decide +kernel
theorem dX5_playBy_75 : decode cX5_playBy 75 = .ok (.iload 4, 2) := by decide +kernel
theorem dX5_playBy_77 : decode cX5_playBy 77 = .ok (.if_icmp .ne 7, 3) := by decide +kernel
theorem dX5_playBy_80 : decode cX5_playBy 80 = .ok (.iconst 2, 1) := by decide +kernel
theorem dX5_playBy_81 : decode cX5_playBy 81 = .ok (.goto 14, 3) := by decide +kernel
theorem dX5_playBy_84 : decode cX5_playBy 84 = .ok (.iload 7, 2) := by decide +kernel
theorem dX5_playBy_86 : decode cX5_playBy 86 = .ok (.iload_n 3, 1) := by decide +kernel
theorem dX5_playBy_87 : decode cX5_playBy 87 = .ok (.if_icmp .ne 7, 3) := by decide +kernel
theorem dX5_playBy_90 : decode cX5_playBy 90 = .ok (.iconst 0, 1) := by decide +kernel
theorem dX5_playBy_91 : decode cX5_playBy 91 = .ok (.goto 4, 3) := by decide +kernel
theorem dX5_playBy_94 : decode cX5_playBy 94 = .ok (.iconst (-1), 1) := by decide +kernel
theorem dX5_playBy_95 : decode cX5_playBy 95 = .ok (.istore 6, 2) := by decide +kernel
theorem dX5_playBy_97 : decode cX5_playBy 97 = .ok (.goto (-82), 3) := by decide +kernel
theorem dX5_playBy_100 : decode cX5_playBy 100 = .ok (.aload_n 0, 1) := by decide +kernel
theorem dX5_playBy_101 : decode cX5_playBy 101 = .ok (.invokevirtual 188, 3) := by decide +kernel
theorem dX5_playBy_104 : decode cX5_playBy 104 = .ok (.iload 6, 2) := by decide +kernel
theorem dX5_playBy_106 : decode cX5_playBy 106 = .ok (.ireturn, 1) := by decide +kernel
theorem dX5_layGame_0 : decode cX5_layGame 0 = .ok (.iconst 1, 1) := by decide +kernel
theorem dX5_layGame_1 : decode cX5_layGame 1 = .ok (.istore_n 3, 1) := by decide +kernel
theorem dX5_layGame_2 : decode cX5_layGame 2 = .ok (.iconst 0, 1) := by decide +kernel
theorem dX5_layGame_3 : decode cX5_layGame 3 = .ok (.istore 4, 2) := by decide +kernel
theorem dX5_layGame_5 : decode cX5_layGame 5 = .ok (.iload 4, 2) := by decide +kernel
theorem dX5_layGame_7 : decode cX5_layGame 7 = .ok (.bipush 7, 2) := by decide +kernel
theorem dX5_layGame_9 : decode cX5_layGame 9 = .ok (.if_icmp .ge 16, 3) := by decide +kernel
theorem dX5_layGame_12 : decode cX5_layGame 12 = .ok (.iload_n 3, 1) := by decide +kernel
theorem dX5_layGame_13 : decode cX5_layGame 13 = .ok (.aload_n 0, 1) := by decide +kernel
theorem dX5_layGame_14 : decode cX5_layGame 14 = .ok (.getfield 113, 3) := by decide +kernel
theorem dX5_layGame_17 : decode cX5_layGame 17 = .ok (.imul, 1) := by decide +kernel
theorem dX5_layGame_18 : decode cX5_layGame 18 = .ok (.istore_n 3, 1) := by decide +kernel
theorem dX5_layGame_19 : decode cX5_layGame 19 = .ok (.iinc 4 1, 3) := by decide +kernel
theorem dX5_layGame_22 : decode cX5_layGame 22 = .ok (.goto (-17), 3) := by decide +kernel
theorem dX5_layGame_25 : decode cX5_layGame 25 = .ok (.iconst 0, 1) := by decide +kernel
theorem dX5_layGame_26 : decode cX5_layGame 26 = .ok (.istore 4, 2) := by decide +kernel
theorem dX5_layGame_28 : decode cX5_layGame 28 = .ok (.iload 4, 2) := by decide +kernel
theorem dX5_layGame_30 : decode cX5_layGame 30 = .ok (.iload_n 3, 1) := by decide +kernel
theorem dX5_layGame_31 : decode cX5_layGame 31 = .ok (.if_icmp .ge 82, 3) := by decide +kernel
theorem dX5_layGame_34 : decode cX5_layGame 34 = .ok (.aload_n 0, 1) := by decide +kernel
theorem dX5_layGame_35 : decode cX5_layGame 35 = .ok (.iload 4, 2) := by decide +kernel
theorem dX5_layGame_37 : decode cX5_layGame 37 = .ok (.iload_n 3, 1) := by decide +kernel
theorem dX5_layGame_38 : decode cX5_layGame 38 = .ok (.iload_n 1, 1) := by decide +kernel
theorem dX5_layGame_39 : decode cX5_layGame 39 = .ok (.iload_n 2, 1) := by decide +kernel
theorem dX5_layGame_40 : decode cX5_layGame 40 = .ok (.invokevirtual 228, 3) := by decide +kernel
theorem dX5_layGame_43 : decode cX5_layGame 43 = .ok (.istore 5, 2) := by decide +kernel
theorem dX5_layGame_45 : decode cX5_layGame 45 = .ok (.iload_n 3, 1) := by decide +kernel
theorem dX5_layGame_46 : decode cX5_layGame 46 = .ok (.istore 6, 2) := by decide +kernel
theorem dX5_layGame_48 : decode cX5_layGame 48 = .ok (.iconst 0, 1) := by decide +kernel
theorem dX5_layGame_49 : decode cX5_layGame 49 = .ok (.istore 7, 2) := by decide +kernel
theorem dX5_layGame_51 : decode cX5_layGame 51 = .ok (.iload 7, 2) := by decide +kernel
theorem dX5_layGame_53 : decode cX5_layGame 53 = .ok (.aload_n 0, 1) := by decide +kernel
theorem dX5_layGame_54 : decode cX5_layGame 54 = .ok (.getfield 225, 3) := by decide +kernel
theorem dX5_layGame_57 : decode cX5_layGame 57 = .ok (.if_icmp .ge 18, 3) := by decide +kernel
theorem dX5_layGame_60 : decode cX5_layGame 60 = .ok (.iload 6, 2) := by decide +kernel
theorem dX5_layGame_62 : decode cX5_layGame 62 = .ok (.aload_n 0, 1) := by decide +kernel
theorem dX5_layGame_63 : decode cX5_layGame 63 = .ok (.getfield 113, 3) := by decide +kernel
theorem dX5_layGame_66 : decode cX5_layGame 66 = .ok (.idiv, 1) := by decide +kernel
theorem dX5_layGame_67 : decode cX5_layGame 67 = .ok (.istore 6, 2) := by decide +kernel
theorem dX5_layGame_69 : decode cX5_layGame 69 = .ok (.iinc 7 1, 3) := by decide +kernel
theorem dX5_layGame_72 : decode cX5_layGame 72 = .ok (.goto (-21), 3) := by decide +kernel
theorem dX5_layGame_75 : decode cX5_layGame 75 = .ok (.iconst 0, 1) := by decide +kernel
theorem dX5_layGame_76 : decode cX5_layGame 76 = .ok (.istore 7, 2) := by decide +kernel
theorem dX5_layGame_78 : decode cX5_layGame 78 = .ok (.iload 7, 2) := by decide +kernel
theorem dX5_layGame_80 : decode cX5_layGame 80 = .ok (.iload 6, 2) := by decide +kernel
theorem dX5_layGame_82 : decode cX5_layGame 82 = .ok (.if_icmp .ge 21, 3) := by decide +kernel
theorem dX5_layGame_85 : decode cX5_layGame 85 = .ok (.aload_n 0, 1) := by decide +kernel
theorem dX5_layGame_86 : decode cX5_layGame 86 = .ok (.getfield 26, 3) := by decide +kernel
theorem dX5_layGame_89 : decode cX5_layGame 89 = .ok (.iload 4, 2) := by decide +kernel
theorem dX5_layGame_91 : decode cX5_layGame 91 = .ok (.iload 7, 2) := by decide +kernel
theorem dX5_layGame_93 : decode cX5_layGame 93 = .ok (.iadd, 1) := by decide +kernel
theorem dX5_layGame_94 : decode cX5_layGame 94 = .ok (.iload 5, 2) := by decide +kernel
theorem dX5_layGame_96 : decode cX5_layGame 96 = .ok (.iastore, 1) := by decide +kernel
theorem dX5_layGame_97 : decode cX5_layGame 97 = .ok (.iinc 7 1, 3) := by decide +kernel
theorem dX5_layGame_100 : decode cX5_layGame 100 = .ok (.goto (-22), 3) := by decide +kernel
theorem dX5_layGame_103 : decode cX5_layGame 103 = .ok (.iload 4, 2) := by decide +kernel
theorem dX5_layGame_105 : decode cX5_layGame 105 = .ok (.iload 6, 2) := by decide +kernel
theorem dX5_layGame_107 : decode cX5_layGame 107 = .ok (.iadd, 1) := by decide +kernel
theorem dX5_layGame_108 : decode cX5_layGame 108 = .ok (.istore 4, 2) := by decide +kernel
theorem dX5_layGame_110 : decode cX5_layGame 110 = .ok (.goto (-82), 3) := by decide +kernel
theorem dX5_layGame_113 : decode cX5_layGame 113 = .ok (.iload_n 3, 1) := by decide +kernel
theorem dX5_layGame_114 : decode cX5_layGame 114 = .ok (.ireturn, 1) := by decide +kernel
theorem dX5_foldGame_0 : decode cX5_foldGame 0 = .ok (.iload_n 1, 1) := by decide +kernel
theorem dX5_foldGame_1 : decode cX5_foldGame 1 = .ok (.istore_n 2, 1) := by decide +kernel
theorem dX5_foldGame_2 : decode cX5_foldGame 2 = .ok (.bipush 6, 2) := by decide +kernel
theorem dX5_foldGame_4 : decode cX5_foldGame 4 = .ok (.istore_n 3, 1) := by decide +kernel
theorem dX5_foldGame_5 : decode cX5_foldGame 5 = .ok (.iload_n 3, 1) := by decide +kernel
theorem dX5_foldGame_6 : decode cX5_foldGame 6 = .ok (.ifCond .le 138, 3) := by decide +kernel
theorem dX5_foldGame_9 : decode cX5_foldGame 9 = .ok (.iload_n 2, 1) := by decide +kernel
theorem dX5_foldGame_10 : decode cX5_foldGame 10 = .ok (.aload_n 0, 1) := by decide +kernel
theorem dX5_foldGame_11 : decode cX5_foldGame 11 = .ok (.getfield 113, 3) := by decide +kernel
theorem dX5_foldGame_14 : decode cX5_foldGame 14 = .ok (.idiv, 1) := by decide +kernel
theorem dX5_foldGame_15 : decode cX5_foldGame 15 = .ok (.istore_n 2, 1) := by decide +kernel
theorem dX5_foldGame_16 : decode cX5_foldGame 16 = .ok (.iconst 0, 1) := by decide +kernel
theorem dX5_foldGame_17 : decode cX5_foldGame 17 = .ok (.istore 4, 2) := by decide +kernel
theorem dX5_foldGame_19 : decode cX5_foldGame 19 = .ok (.iload 4, 2) := by decide +kernel
theorem dX5_foldGame_21 : decode cX5_foldGame 21 = .ok (.iload_n 2, 1) := by decide +kernel
theorem dX5_foldGame_22 : decode cX5_foldGame 22 = .ok (.if_icmp .ge 116, 3) := by decide +kernel
theorem dX5_foldGame_25 : decode cX5_foldGame 25 = .ok (.aload_n 0, 1) := by decide +kernel
theorem dX5_foldGame_26 : decode cX5_foldGame 26 = .ok (.getfield 26, 3) := by decide +kernel
theorem dX5_foldGame_29 : decode cX5_foldGame 29 = .ok (.aload_n 0, 1) := by decide +kernel
theorem dX5_foldGame_30 : decode cX5_foldGame 30 = .ok (.getfield 113, 3) := by decide +kernel
theorem dX5_foldGame_33 : decode cX5_foldGame 33 = .ok (.iload 4, 2) := by decide +kernel
theorem dX5_foldGame_35 : decode cX5_foldGame 35 = .ok (.imul, 1) := by decide +kernel
theorem dX5_foldGame_36 : decode cX5_foldGame 36 = .ok (.iaload, 1) := by decide +kernel
theorem dX5_foldGame_37 : decode cX5_foldGame 37 = .ok (.istore 5, 2) := by decide +kernel
theorem dX5_foldGame_39 : decode cX5_foldGame 39 = .ok (.iconst 1, 1) := by decide +kernel
theorem dX5_foldGame_40 : decode cX5_foldGame 40 = .ok (.istore 6, 2) := by decide +kernel
theorem dX5_foldGame_42 : decode cX5_foldGame 42 = .ok (.iload 6, 2) := by decide +kernel
theorem dX5_foldGame_44 : decode cX5_foldGame 44 = .ok (.aload_n 0, 1) := by decide +kernel
theorem dX5_foldGame_45 : decode cX5_foldGame 45 = .ok (.getfield 113, 3) := by decide +kernel
theorem dX5_foldGame_48 : decode cX5_foldGame 48 = .ok (.if_icmp .ge 75, 3) := by decide +kernel
theorem dX5_foldGame_51 : decode cX5_foldGame 51 = .ok (.aload_n 0, 1) := by decide +kernel
theorem dX5_foldGame_52 : decode cX5_foldGame 52 = .ok (.getfield 26, 3) := by decide +kernel
theorem dX5_foldGame_55 : decode cX5_foldGame 55 = .ok (.aload_n 0, 1) := by decide +kernel
theorem dX5_foldGame_56 : decode cX5_foldGame 56 = .ok (.getfield 113, 3) := by decide +kernel
theorem dX5_foldGame_59 : decode cX5_foldGame 59 = .ok (.iload 4, 2) := by decide +kernel
theorem dX5_foldGame_61 : decode cX5_foldGame 61 = .ok (.imul, 1) := by decide +kernel
theorem dX5_foldGame_62 : decode cX5_foldGame 62 = .ok (.iload 6, 2) := by decide +kernel
theorem dX5_foldGame_64 : decode cX5_foldGame 64 = .ok (.iadd, 1) := by decide +kernel
theorem dX5_foldGame_65 : decode cX5_foldGame 65 = .ok (.iaload, 1) := by decide +kernel
theorem dX5_foldGame_66 : decode cX5_foldGame 66 = .ok (.istore 7, 2) := by decide +kernel
theorem dX5_foldGame_68 : decode cX5_foldGame 68 = .ok (.iload_n 3, 1) := by decide +kernel
theorem dX5_foldGame_69 : decode cX5_foldGame 69 = .ok (.iconst 2, 1) := by decide +kernel
theorem dX5_foldGame_70 : decode cX5_foldGame 70 = .ok (.irem, 1) := by decide +kernel
theorem dX5_foldGame_71 : decode cX5_foldGame 71 = .ok (.ifCond .ne 18, 3) := by decide +kernel
theorem dX5_foldGame_74 : decode cX5_foldGame 74 = .ok (.iload 7, 2) := by decide +kernel
theorem dX5_foldGame_76 : decode cX5_foldGame 76 = .ok (.iload 5, 2) := by decide +kernel
theorem dX5_foldGame_78 : decode cX5_foldGame 78 = .ok (.if_icmp .le 7, 3) := by decide +kernel
theorem dX5_foldGame_81 : decode cX5_foldGame 81 = .ok (.iconst 1, 1) := by decide +kernel
theorem dX5_foldGame_82 : decode cX5_foldGame 82 = .ok (.goto 19, 3) := by decide +kernel
theorem dX5_foldGame_85 : decode cX5_foldGame 85 = .ok (.iconst 0, 1) := by decide +kernel
theorem dX5_foldGame_86 : decode cX5_foldGame 86 = .ok (.goto 15, 3) := by decide +kernel
theorem dX5_foldGame_89 : decode cX5_foldGame 89 = .ok (.iload 7, 2) := by decide +kernel
theorem dX5_foldGame_91 : decode cX5_foldGame 91 = .ok (.iload 5, 2) := by decide +kernel
theorem dX5_foldGame_93 : decode cX5_foldGame 93 = .ok (.if_icmp .ge 7, 3) := by decide +kernel
theorem dX5_foldGame_96 : decode cX5_foldGame 96 = .ok (.iconst 1, 1) := by decide +kernel
theorem dX5_foldGame_97 : decode cX5_foldGame 97 = .ok (.goto 4, 3) := by decide +kernel
theorem dX5_foldGame_100 : decode cX5_foldGame 100 = .ok (.iconst 0, 1) := by decide +kernel
theorem dX5_foldGame_101 : decode cX5_foldGame 101 = .ok (.istore 8, 2) := by decide +kernel
theorem dX5_foldGame_103 : decode cX5_foldGame 103 = .ok (.iload 8, 2) := by decide +kernel
theorem dX5_foldGame_105 : decode cX5_foldGame 105 = .ok (.ifCond .eq 8, 3) := by decide +kernel
theorem dX5_foldGame_108 : decode cX5_foldGame 108 = .ok (.iload 7, 2) := by decide +kernel
theorem dX5_foldGame_110 : decode cX5_foldGame 110 = .ok (.goto 5, 3) := by decide +kernel
theorem dX5_foldGame_113 : decode cX5_foldGame 113 = .ok (.iload 5, 2) := by decide +kernel
theorem dX5_foldGame_115 : decode cX5_foldGame 115 = .ok (.istore 5, 2) := by decide +kernel
theorem dX5_foldGame_117 : decode cX5_foldGame 117 = .ok (.iinc 6 1, 3) := by decide +kernel
theorem dX5_foldGame_120 : decode cX5_foldGame 120 = .ok (.goto (-78), 3) := by decide +kernel
theorem dX5_foldGame_123 : decode cX5_foldGame 123 = .ok (.aload_n 0, 1) := by decide +kernel
theorem dX5_foldGame_124 : decode cX5_foldGame 124 = .ok (.getfield 26, 3) := by decide +kernel
theorem dX5_foldGame_127 : decode cX5_foldGame 127 = .ok (.iload 4, 2) := by decide +kernel
theorem dX5_foldGame_129 : decode cX5_foldGame 129 = .ok (.iload 5, 2) := by decide +kernel
theorem dX5_foldGame_131 : decode cX5_foldGame 131 = .ok (.iastore, 1) := by decide +kernel
theorem dX5_foldGame_132 : decode cX5_foldGame 132 = .ok (.iinc 4 1, 3) := by decide +kernel
theorem dX5_foldGame_135 : decode cX5_foldGame 135 = .ok (.goto (-116), 3) := by decide +kernel
theorem dX5_foldGame_138 : decode cX5_foldGame 138 = .ok (.iinc 3 (-1), 3) := by decide +kernel
theorem dX5_foldGame_141 : decode cX5_foldGame 141 = .ok (.goto (-136), 3) := by decide +kernel
theorem dX5_foldGame_144 : decode cX5_foldGame 144 = .ok (.return_, 1) := by decide +kernel
theorem dX5_gameNow_0 : decode cX5_gameNow 0 = .ok (.aload_n 0, 1) := by decide +kernel
theorem dX5_gameNow_1 : decode cX5_gameNow 1 = .ok (.invokevirtual 175, 3) := by decide +kernel
theorem dX5_gameNow_4 : decode cX5_gameNow 4 = .ok (.ifCond .ne 13, 3) := by decide +kernel
theorem dX5_gameNow_7 : decode cX5_gameNow 7 = .ok (.iload_n 3, 1) := by decide +kernel
theorem dX5_gameNow_8 : decode cX5_gameNow 8 = .ok (.ifCond .ne 7, 3) := by decide +kernel
theorem dX5_gameNow_11 : decode cX5_gameNow 11 = .ok (.iconst 1, 1) := by decide +kernel
theorem dX5_gameNow_12 : decode cX5_gameNow 12 = .ok (.goto 4, 3) := by decide +kernel
theorem dX5_gameNow_15 : decode cX5_gameNow 15 = .ok (.iconst (-1), 1) := by decide +kernel
theorem dX5_gameNow_16 : decode cX5_gameNow 16 = .ok (.ireturn, 1) := by decide +kernel
theorem dX5_gameNow_17 : decode cX5_gameNow 17 = .ok (.aload_n 0, 1) := by decide +kernel
theorem dX5_gameNow_18 : decode cX5_gameNow 18 = .ok (.aload_n 0, 1) := by decide +kernel
theorem dX5_gameNow_19 : decode cX5_gameNow 19 = .ok (.iload_n 1, 1) := by decide +kernel
theorem dX5_gameNow_20 : decode cX5_gameNow 20 = .ok (.iload_n 2, 1) := by decide +kernel
theorem dX5_gameNow_21 : decode cX5_gameNow 21 = .ok (.invokevirtual 232, 3) := by decide +kernel
theorem dX5_gameNow_24 : decode cX5_gameNow 24 = .ok (.invokevirtual 235, 3) := by decide +kernel
theorem dX5_gameNow_27 : decode cX5_gameNow 27 = .ok (.iconst 0, 1) := by decide +kernel
theorem dX5_gameNow_28 : decode cX5_gameNow 28 = .ok (.istore 4, 2) := by decide +kernel
theorem dX5_gameNow_30 : decode cX5_gameNow 30 = .ok (.iconst 1, 1) := by decide +kernel
theorem dX5_gameNow_31 : decode cX5_gameNow 31 = .ok (.istore 5, 2) := by decide +kernel
theorem dX5_gameNow_33 : decode cX5_gameNow 33 = .ok (.iload 5, 2) := by decide +kernel
theorem dX5_gameNow_35 : decode cX5_gameNow 35 = .ok (.aload_n 0, 1) := by decide +kernel
theorem dX5_gameNow_36 : decode cX5_gameNow 36 = .ok (.getfield 113, 3) := by decide +kernel
theorem dX5_gameNow_39 : decode cX5_gameNow 39 = .ok (.if_icmp .ge 35, 3) := by decide +kernel
theorem dX5_gameNow_42 : decode cX5_gameNow 42 = .ok (.aload_n 0, 1) := by decide +kernel
theorem dX5_gameNow_43 : decode cX5_gameNow 43 = .ok (.getfield 26, 3) := by decide +kernel
theorem dX5_gameNow_46 : decode cX5_gameNow 46 = .ok (.iload 5, 2) := by decide +kernel
theorem dX5_gameNow_48 : decode cX5_gameNow 48 = .ok (.iaload, 1) := by decide +kernel
theorem dX5_gameNow_49 : decode cX5_gameNow 49 = .ok (.aload_n 0, 1) := by decide +kernel
theorem dX5_gameNow_50 : decode cX5_gameNow 50 = .ok (.getfield 26, 3) := by decide +kernel
theorem dX5_gameNow_53 : decode cX5_gameNow 53 = .ok (.iload 4, 2) := by decide +kernel
theorem dX5_gameNow_55 : decode cX5_gameNow 55 = .ok (.iaload, 1) := by decide +kernel
theorem dX5_gameNow_56 : decode cX5_gameNow 56 = .ok (.if_icmp .le 8, 3) := by decide +kernel
theorem dX5_gameNow_59 : decode cX5_gameNow 59 = .ok (.iload 5, 2) := by decide +kernel
theorem dX5_gameNow_61 : decode cX5_gameNow 61 = .ok (.goto 5, 3) := by decide +kernel
theorem dX5_gameNow_64 : decode cX5_gameNow 64 = .ok (.iload 4, 2) := by decide +kernel
theorem dX5_gameNow_66 : decode cX5_gameNow 66 = .ok (.istore 4, 2) := by decide +kernel
theorem dX5_gameNow_68 : decode cX5_gameNow 68 = .ok (.iinc 5 1, 3) := by decide +kernel
theorem dX5_gameNow_71 : decode cX5_gameNow 71 = .ok (.goto (-38), 3) := by decide +kernel
theorem dX5_gameNow_74 : decode cX5_gameNow 74 = .ok (.iload_n 3, 1) := by decide +kernel
theorem dX5_gameNow_75 : decode cX5_gameNow 75 = .ok (.ifCond .ne 13, 3) := by decide +kernel
theorem dX5_gameNow_78 : decode cX5_gameNow 78 = .ok (.aload_n 0, 1) := by decide +kernel
theorem dX5_gameNow_79 : decode cX5_gameNow 79 = .ok (.getfield 26, 3) := by decide +kernel
theorem dX5_gameNow_82 : decode cX5_gameNow 82 = .ok (.iload 4, 2) := by decide +kernel
theorem dX5_gameNow_84 : decode cX5_gameNow 84 = .ok (.iaload, 1) := by decide +kernel
theorem dX5_gameNow_85 : decode cX5_gameNow 85 = .ok (.goto 5, 3) := by decide +kernel
theorem dX5_gameNow_88 : decode cX5_gameNow 88 = .ok (.iload 4, 2) := by decide +kernel
theorem dX5_gameNow_90 : decode cX5_gameNow 90 = .ok (.ireturn, 1) := by decide +kernel
theorem dX5_game_0 : decode cX5_game 0 = .ok (.aload_n 0, 1) := by decide +kernel
theorem dX5_game_1 : decode cX5_game 1 = .ok (.iload_n 1, 1) := by decide +kernel
theorem dX5_game_2 : decode cX5_game 2 = .ok (.invokevirtual 197, 3) := by decide +kernel
theorem dX5_game_5 : decode cX5_game 5 = .ok (.ifCond .eq 16, 3) := by decide +kernel
theorem dX5_game_8 : decode cX5_game 8 = .ok (.aload_n 0, 1) := by decide +kernel
theorem dX5_game_9 : decode cX5_game 9 = .ok (.iload_n 2, 1) := by decide +kernel
theorem dX5_game_10 : decode cX5_game 10 = .ok (.invokevirtual 197, 3) := by decide +kernel
theorem dX5_game_13 : decode cX5_game 13 = .ok (.ifCond .eq 8, 3) := by decide +kernel
theorem dX5_game_16 : decode cX5_game 16 = .ok (.iload_n 1, 1) := by decide +kernel
theorem dX5_game_17 : decode cX5_game 17 = .ok (.iload_n 2, 1) := by decide +kernel
theorem dX5_game_18 : decode cX5_game 18 = .ok (.if_icmp .ne 6, 3) := by decide +kernel
theorem dX5_game_21 : decode cX5_game 21 = .ok (.bipush (-101), 2) := by decide +kernel
theorem dX5_game_23 : decode cX5_game 23 = .ok (.ireturn, 1) := by decide +kernel
theorem dX5_game_24 : decode cX5_game 24 = .ok (.iload_n 3, 1) := by decide +kernel
theorem dX5_game_25 : decode cX5_game 25 = .ok (.iconst 0, 1) := by decide +kernel
theorem dX5_game_26 : decode cX5_game 26 = .ok (.iconst 1, 1) := by decide +kernel
theorem dX5_game_27 : decode cX5_game 27 = .ok (.invokestatic 77, 3) := by decide +kernel
theorem dX5_game_30 : decode cX5_game 30 = .ok (.ifCond .ne 6, 3) := by decide +kernel
theorem dX5_game_33 : decode cX5_game 33 = .ok (.bipush (-102), 2) := by decide +kernel
theorem dX5_game_35 : decode cX5_game 35 = .ok (.ireturn, 1) := by decide +kernel
theorem dX5_game_36 : decode cX5_game 36 = .ok (.aload_n 0, 1) := by decide +kernel
theorem dX5_game_37 : decode cX5_game 37 = .ok (.getfield 119, 3) := by decide +kernel
theorem dX5_game_40 : decode cX5_game 40 = .ok (.iload_n 1, 1) := by decide +kernel
theorem dX5_game_41 : decode cX5_game 41 = .ok (.invokestatic 140, 3) := by decide +kernel
theorem dX5_game_44 : decode cX5_game 44 = .ok (.ifCond .eq 24, 3) := by decide +kernel
theorem dX5_game_47 : decode cX5_game 47 = .ok (.aload_n 0, 1) := by decide +kernel
theorem dX5_game_48 : decode cX5_game 48 = .ok (.getfield 119, 3) := by decide +kernel
theorem dX5_game_51 : decode cX5_game 51 = .ok (.iload_n 2, 1) := by decide +kernel
theorem dX5_game_52 : decode cX5_game 52 = .ok (.invokestatic 140, 3) := by decide +kernel
theorem dX5_game_55 : decode cX5_game 55 = .ok (.ifCond .eq 13, 3) := by decide +kernel
theorem dX5_game_58 : decode cX5_game 58 = .ok (.aload_n 0, 1) := by decide +kernel
theorem dX5_game_59 : decode cX5_game 59 = .ok (.iload_n 1, 1) := by decide +kernel
theorem dX5_game_60 : decode cX5_game 60 = .ok (.iload_n 2, 1) := by decide +kernel
theorem dX5_game_61 : decode cX5_game 61 = .ok (.iload_n 3, 1) := by decide +kernel
theorem dX5_game_62 : decode cX5_game 62 = .ok (.invokevirtual 239, 3) := by decide +kernel
theorem dX5_game_65 : decode cX5_game 65 = .ok (.goto 5, 3) := by decide +kernel
theorem dX5_game_68 : decode cX5_game 68 = .ok (.bipush (-103), 2) := by decide +kernel
theorem dX5_game_70 : decode cX5_game 70 = .ok (.ireturn, 1) := by decide +kernel
theorem dX5_setDeep_0 : decode cX5_setDeep 0 = .ok (.aload_n 0, 1) := by decide +kernel
theorem dX5_setDeep_1 : decode cX5_setDeep 1 = .ok (.aload_n 0, 1) := by decide +kernel
theorem dX5_setDeep_2 : decode cX5_setDeep 2 = .ok (.getfield 29, 3) := by decide +kernel
theorem dX5_setDeep_5 : decode cX5_setDeep 5 = .ok (.iload_n 1, 1) := by decide +kernel
theorem dX5_setDeep_6 : decode cX5_setDeep 6 = .ok (.iaload, 1) := by decide +kernel
theorem dX5_setDeep_7 : decode cX5_setDeep 7 = .ok (.putfield 119, 3) := by decide +kernel
theorem dX5_setDeep_10 : decode cX5_setDeep 10 = .ok (.aload_n 0, 1) := by decide +kernel
theorem dX5_setDeep_11 : decode cX5_setDeep 11 = .ok (.aload_n 0, 1) := by decide +kernel
theorem dX5_setDeep_12 : decode cX5_setDeep 12 = .ok (.getfield 32, 3) := by decide +kernel
theorem dX5_setDeep_15 : decode cX5_setDeep 15 = .ok (.iload_n 1, 1) := by decide +kernel
theorem dX5_setDeep_16 : decode cX5_setDeep 16 = .ok (.iaload, 1) := by decide +kernel
theorem dX5_setDeep_17 : decode cX5_setDeep 17 = .ok (.putfield 122, 3) := by decide +kernel
theorem dX5_setDeep_20 : decode cX5_setDeep 20 = .ok (.aload_n 0, 1) := by decide +kernel
theorem dX5_setDeep_21 : decode cX5_setDeep 21 = .ok (.aload_n 0, 1) := by decide +kernel
theorem dX5_setDeep_22 : decode cX5_setDeep 22 = .ok (.getfield 35, 3) := by decide +kernel
theorem dX5_setDeep_25 : decode cX5_setDeep 25 = .ok (.iload_n 1, 1) := by decide +kernel
theorem dX5_setDeep_26 : decode cX5_setDeep 26 = .ok (.iaload, 1) := by decide +kernel
theorem dX5_setDeep_27 : decode cX5_setDeep 27 = .ok (.putfield 125, 3) := by decide +kernel
theorem dX5_setDeep_30 : decode cX5_setDeep 30 = .ok (.aload_n 0, 1) := by decide +kernel
theorem dX5_setDeep_31 : decode cX5_setDeep 31 = .ok (.aload_n 0, 1) := by decide +kernel
theorem dX5_setDeep_32 : decode cX5_setDeep 32 = .ok (.getfield 38, 3) := by decide +kernel
theorem dX5_setDeep_35 : decode cX5_setDeep 35 = .ok (.iload_n 1, 1) := by decide +kernel
theorem dX5_setDeep_36 : decode cX5_setDeep 36 = .ok (.iaload, 1) := by decide +kernel
theorem dX5_setDeep_37 : decode cX5_setDeep 37 = .ok (.iconst 1, 1) := by decide +kernel
theorem dX5_setDeep_38 : decode cX5_setDeep 38 = .ok (.if_icmp .ne 7, 3) := by decide +kernel
theorem dX5_setDeep_41 : decode cX5_setDeep 41 = .ok (.iconst 1, 1) := by decide +kernel
theorem dX5_setDeep_42 : decode cX5_setDeep 42 = .ok (.goto 4, 3) := by decide +kernel
theorem dX5_setDeep_45 : decode cX5_setDeep 45 = .ok (.iconst 0, 1) := by decide +kernel
theorem dX5_setDeep_46 : decode cX5_setDeep 46 = .ok (.putfield 128, 3) := by decide +kernel
theorem dX5_setDeep_49 : decode cX5_setDeep 49 = .ok (.return_, 1) := by decide +kernel
theorem dX5_putDeep_0 : decode cX5_putDeep 0 = .ok (.aload_n 0, 1) := by decide +kernel
theorem dX5_putDeep_1 : decode cX5_putDeep 1 = .ok (.getfield 29, 3) := by decide +kernel
theorem dX5_putDeep_4 : decode cX5_putDeep 4 = .ok (.iload_n 1, 1) := by decide +kernel
theorem dX5_putDeep_5 : decode cX5_putDeep 5 = .ok (.aload_n 0, 1) := by decide +kernel
theorem dX5_putDeep_6 : decode cX5_putDeep 6 = .ok (.getfield 119, 3) := by decide +kernel
theorem dX5_putDeep_9 : decode cX5_putDeep 9 = .ok (.iastore, 1) := by decide +kernel
theorem dX5_putDeep_10 : decode cX5_putDeep 10 = .ok (.aload_n 0, 1) := by decide +kernel
theorem dX5_putDeep_11 : decode cX5_putDeep 11 = .ok (.getfield 32, 3) := by decide +kernel
theorem dX5_putDeep_14 : decode cX5_putDeep 14 = .ok (.iload_n 1, 1) := by decide +kernel
theorem dX5_putDeep_15 : decode cX5_putDeep 15 = .ok (.aload_n 0, 1) := by decide +kernel
theorem dX5_putDeep_16 : decode cX5_putDeep 16 = .ok (.getfield 122, 3) := by decide +kernel
theorem dX5_putDeep_19 : decode cX5_putDeep 19 = .ok (.iastore, 1) := by decide +kernel
theorem dX5_putDeep_20 : decode cX5_putDeep 20 = .ok (.aload_n 0, 1) := by decide +kernel
theorem dX5_putDeep_21 : decode cX5_putDeep 21 = .ok (.getfield 35, 3) := by decide +kernel
theorem dX5_putDeep_24 : decode cX5_putDeep 24 = .ok (.iload_n 1, 1) := by decide +kernel
theorem dX5_putDeep_25 : decode cX5_putDeep 25 = .ok (.aload_n 0, 1) := by decide +kernel
theorem dX5_putDeep_26 : decode cX5_putDeep 26 = .ok (.getfield 125, 3) := by decide +kernel
theorem dX5_putDeep_29 : decode cX5_putDeep 29 = .ok (.iastore, 1) := by decide +kernel
theorem dX5_putDeep_30 : decode cX5_putDeep 30 = .ok (.aload_n 0, 1) := by decide +kernel
theorem dX5_putDeep_31 : decode cX5_putDeep 31 = .ok (.getfield 38, 3) := by decide +kernel
theorem dX5_putDeep_34 : decode cX5_putDeep 34 = .ok (.iload_n 1, 1) := by decide +kernel
theorem dX5_putDeep_35 : decode cX5_putDeep 35 = .ok (.aload_n 0, 1) := by decide +kernel
theorem dX5_putDeep_36 : decode cX5_putDeep 36 = .ok (.getfield 128, 3) := by decide +kernel
theorem dX5_putDeep_39 : decode cX5_putDeep 39 = .ok (.ifCond .eq 7, 3) := by decide +kernel
theorem dX5_putDeep_42 : decode cX5_putDeep 42 = .ok (.iconst 1, 1) := by decide +kernel
theorem dX5_putDeep_43 : decode cX5_putDeep 43 = .ok (.goto 4, 3) := by decide +kernel
theorem dX5_putDeep_46 : decode cX5_putDeep 46 = .ok (.iconst 0, 1) := by decide +kernel
theorem dX5_putDeep_47 : decode cX5_putDeep 47 = .ok (.iastore, 1) := by decide +kernel
theorem dX5_putDeep_48 : decode cX5_putDeep 48 = .ok (.aload_n 0, 1) := by decide +kernel
theorem dX5_putDeep_49 : decode cX5_putDeep 49 = .ok (.getfield 41, 3) := by decide +kernel
theorem dX5_putDeep_52 : decode cX5_putDeep 52 = .ok (.iload_n 1, 1) := by decide +kernel
theorem dX5_putDeep_53 : decode cX5_putDeep 53 = .ok (.iload_n 2, 1) := by decide +kernel
theorem dX5_putDeep_54 : decode cX5_putDeep 54 = .ok (.iastore, 1) := by decide +kernel
theorem dX5_putDeep_55 : decode cX5_putDeep 55 = .ok (.aload_n 0, 1) := by decide +kernel
theorem dX5_putDeep_56 : decode cX5_putDeep 56 = .ok (.getfield 44, 3) := by decide +kernel
theorem dX5_putDeep_59 : decode cX5_putDeep 59 = .ok (.iload_n 1, 1) := by decide +kernel
theorem dX5_putDeep_60 : decode cX5_putDeep 60 = .ok (.iconst 0, 1) := by decide +kernel
theorem dX5_putDeep_61 : decode cX5_putDeep 61 = .ok (.iastore, 1) := by decide +kernel
theorem dX5_putDeep_62 : decode cX5_putDeep 62 = .ok (.return_, 1) := by decide +kernel
theorem dX5_layFaces_0 : decode cX5_layFaces 0 = .ok (.iconst 0, 1) := by decide +kernel
theorem dX5_layFaces_1 : decode cX5_layFaces 1 = .ok (.istore_n 2, 1) := by decide +kernel
theorem dX5_layFaces_2 : decode cX5_layFaces 2 = .ok (.iload_n 2, 1) := by decide +kernel
theorem dX5_layFaces_3 : decode cX5_layFaces 3 = .ok (.iconst 3, 1) := by decide +kernel
theorem dX5_layFaces_4 : decode cX5_layFaces 4 = .ok (.if_icmp .ge 76, 3) := by decide +kernel
theorem dX5_layFaces_7 : decode cX5_layFaces 7 = .ok (.aload_n 0, 1) := by decide +kernel
theorem dX5_layFaces_8 : decode cX5_layFaces 8 = .ok (.iload_n 1, 1) := by decide +kernel
theorem dX5_layFaces_9 : decode cX5_layFaces 9 = .ok (.invokevirtual 243, 3) := by decide +kernel
theorem dX5_layFaces_12 : decode cX5_layFaces 12 = .ok (.aload_n 0, 1) := by decide +kernel
theorem dX5_layFaces_13 : decode cX5_layFaces 13 = .ok (.iload_n 2, 1) := by decide +kernel
theorem dX5_layFaces_14 : decode cX5_layFaces 14 = .ok (.iconst 1, 1) := by decide +kernel
theorem dX5_layFaces_15 : decode cX5_layFaces 15 = .ok (.iadd, 1) := by decide +kernel
theorem dX5_layFaces_16 : decode cX5_layFaces 16 = .ok (.invokevirtual 179, 3) := by decide +kernel
theorem dX5_layFaces_19 : decode cX5_layFaces 19 = .ok (.pop, 1) := by decide +kernel
theorem dX5_layFaces_20 : decode cX5_layFaces 20 = .ok (.iconst 3, 1) := by decide +kernel
theorem dX5_layFaces_21 : decode cX5_layFaces 21 = .ok (.iload_n 1, 1) := by decide +kernel
theorem dX5_layFaces_22 : decode cX5_layFaces 22 = .ok (.imul, 1) := by decide +kernel
theorem dX5_layFaces_23 : decode cX5_layFaces 23 = .ok (.iload_n 2, 1) := by decide +kernel
theorem dX5_layFaces_24 : decode cX5_layFaces 24 = .ok (.iadd, 1) := by decide +kernel
theorem dX5_layFaces_25 : decode cX5_layFaces 25 = .ok (.istore_n 3, 1) := by decide +kernel
theorem dX5_layFaces_26 : decode cX5_layFaces 26 = .ok (.aload_n 0, 1) := by decide +kernel
theorem dX5_layFaces_27 : decode cX5_layFaces 27 = .ok (.getfield 47, 3) := by decide +kernel
theorem dX5_layFaces_30 : decode cX5_layFaces 30 = .ok (.iload_n 3, 1) := by decide +kernel
theorem dX5_layFaces_31 : decode cX5_layFaces 31 = .ok (.aload_n 0, 1) := by decide +kernel
theorem dX5_layFaces_32 : decode cX5_layFaces 32 = .ok (.getfield 119, 3) := by decide +kernel
theorem dX5_layFaces_35 : decode cX5_layFaces 35 = .ok (.iastore, 1) := by decide +kernel
theorem dX5_layFaces_36 : decode cX5_layFaces 36 = .ok (.aload_n 0, 1) := by decide +kernel
theorem dX5_layFaces_37 : decode cX5_layFaces 37 = .ok (.getfield 50, 3) := by decide +kernel
theorem dX5_layFaces_40 : decode cX5_layFaces 40 = .ok (.iload_n 3, 1) := by decide +kernel
theorem dX5_layFaces_41 : decode cX5_layFaces 41 = .ok (.aload_n 0, 1) := by decide +kernel
theorem dX5_layFaces_42 : decode cX5_layFaces 42 = .ok (.getfield 122, 3) := by decide +kernel
theorem dX5_layFaces_45 : decode cX5_layFaces 45 = .ok (.iastore, 1) := by decide +kernel
theorem dX5_layFaces_46 : decode cX5_layFaces 46 = .ok (.aload_n 0, 1) := by decide +kernel
theorem dX5_layFaces_47 : decode cX5_layFaces 47 = .ok (.getfield 53, 3) := by decide +kernel
theorem dX5_layFaces_50 : decode cX5_layFaces 50 = .ok (.iload_n 3, 1) := by decide +kernel
theorem dX5_layFaces_51 : decode cX5_layFaces 51 = .ok (.aload_n 0, 1) := by decide +kernel
theorem dX5_layFaces_52 : decode cX5_layFaces 52 = .ok (.getfield 125, 3) := by decide +kernel
theorem dX5_layFaces_55 : decode cX5_layFaces 55 = .ok (.iastore, 1) := by decide +kernel
theorem dX5_layFaces_56 : decode cX5_layFaces 56 = .ok (.aload_n 0, 1) := by decide +kernel
theorem dX5_layFaces_57 : decode cX5_layFaces 57 = .ok (.getfield 56, 3) := by decide +kernel
theorem dX5_layFaces_60 : decode cX5_layFaces 60 = .ok (.iload_n 3, 1) := by decide +kernel
theorem dX5_layFaces_61 : decode cX5_layFaces 61 = .ok (.aload_n 0, 1) := by decide +kernel
theorem dX5_layFaces_62 : decode cX5_layFaces 62 = .ok (.getfield 128, 3) := by decide +kernel
theorem dX5_layFaces_65 : decode cX5_layFaces 65 = .ok (.ifCond .eq 7, 3) := by decide +kernel
theorem dX5_layFaces_68 : decode cX5_layFaces 68 = .ok (.iconst 1, 1) := by decide +kernel
theorem dX5_layFaces_69 : decode cX5_layFaces 69 = .ok (.goto 4, 3) := by decide +kernel
theorem dX5_layFaces_72 : decode cX5_layFaces 72 = .ok (.iconst 0, 1) := by decide +kernel
theorem dX5_layFaces_73 : decode cX5_layFaces 73 = .ok (.iastore, 1) := by decide +kernel
theorem dX5_layFaces_74 : decode cX5_layFaces 74 = .ok (.iinc 2 1, 3) := by decide +kernel
theorem dX5_layFaces_77 : decode cX5_layFaces 77 = .ok (.goto (-75), 3) := by decide +kernel
theorem dX5_layFaces_80 : decode cX5_layFaces 80 = .ok (.return_, 1) := by decide +kernel
theorem dX5_areAlike_0 : decode cX5_areAlike 0 = .ok (.aload_n 0, 1) := by decide +kernel
theorem dX5_areAlike_1 : decode cX5_areAlike 1 = .ok (.getfield 47, 3) := by decide +kernel
theorem dX5_areAlike_4 : decode cX5_areAlike 4 = .ok (.iload_n 1, 1) := by decide +kernel
theorem dX5_areAlike_5 : decode cX5_areAlike 5 = .ok (.iaload, 1) := by decide +kernel
theorem dX5_areAlike_6 : decode cX5_areAlike 6 = .ok (.aload_n 0, 1) := by decide +kernel
theorem dX5_areAlike_7 : decode cX5_areAlike 7 = .ok (.getfield 47, 3) := by decide +kernel
theorem dX5_areAlike_10 : decode cX5_areAlike 10 = .ok (.iload_n 2, 1) := by decide +kernel
theorem dX5_areAlike_11 : decode cX5_areAlike 11 = .ok (.iaload, 1) := by decide +kernel
theorem dX5_areAlike_12 : decode cX5_areAlike 12 = .ok (.if_icmp .ne 52, 3) := by decide +kernel
theorem dX5_areAlike_15 : decode cX5_areAlike 15 = .ok (.aload_n 0, 1) := by decide +kernel
theorem dX5_areAlike_16 : decode cX5_areAlike 16 = .ok (.getfield 50, 3) := by decide +kernel
theorem dX5_areAlike_19 : decode cX5_areAlike 19 = .ok (.iload_n 1, 1) := by decide +kernel
theorem dX5_areAlike_20 : decode cX5_areAlike 20 = .ok (.iaload, 1) := by decide +kernel
theorem dX5_areAlike_21 : decode cX5_areAlike 21 = .ok (.aload_n 0, 1) := by decide +kernel
theorem dX5_areAlike_22 : decode cX5_areAlike 22 = .ok (.getfield 50, 3) := by decide +kernel
theorem dX5_areAlike_25 : decode cX5_areAlike 25 = .ok (.iload_n 2, 1) := by decide +kernel
theorem dX5_areAlike_26 : decode cX5_areAlike 26 = .ok (.iaload, 1) := by decide +kernel
end
section
theorem dX5_areAlike_27 : decode cX5_areAlike 27 = .ok (.if_icmp .ne 37, 3) := by decide +kernel
theorem dX5_areAlike_30 : decode cX5_areAlike 30 = .ok (.aload_n 0, 1) := by decide +kernel
theorem dX5_areAlike_31 : decode cX5_areAlike 31 = .ok (.getfield 53, 3) := by decide +kernel
theorem dX5_areAlike_34 : decode cX5_areAlike 34 = .ok (.iload_n 1, 1) := by decide +kernel
theorem dX5_areAlike_35 : decode cX5_areAlike 35 = .ok (.iaload, 1) := by decide +kernel
theorem dX5_areAlike_36 : decode cX5_areAlike 36 = .ok (.aload_n 0, 1) := by decide +kernel
theorem dX5_areAlike_37 : decode cX5_areAlike 37 = .ok (.getfield 53, 3) := by decide +kernel
theorem dX5_areAlike_40 : decode cX5_areAlike 40 = .ok (.iload_n 2, 1) := by decide +kernel
theorem dX5_areAlike_41 : decode cX5_areAlike 41 = .ok (.iaload, 1) := by decide +kernel
theorem dX5_areAlike_42 : decode cX5_areAlike 42 = .ok (.if_icmp .ne 22, 3) := by decide +kernel
theorem dX5_areAlike_45 : decode cX5_areAlike 45 = .ok (.aload_n 0, 1) := by decide +kernel
theorem dX5_areAlike_46 : decode cX5_areAlike 46 = .ok (.getfield 56, 3) := by decide +kernel
theorem dX5_areAlike_49 : decode cX5_areAlike 49 = .ok (.iload_n 1, 1) := by decide +kernel
theorem dX5_areAlike_50 : decode cX5_areAlike 50 = .ok (.iaload, 1) := by decide +kernel
theorem dX5_areAlike_51 : decode cX5_areAlike 51 = .ok (.aload_n 0, 1) := by decide +kernel
theorem dX5_areAlike_52 : decode cX5_areAlike 52 = .ok (.getfield 56, 3) := by decide +kernel
theorem dX5_areAlike_55 : decode cX5_areAlike 55 = .ok (.iload_n 2, 1) := by decide +kernel
theorem dX5_areAlike_56 : decode cX5_areAlike 56 = .ok (.iaload, 1) := by decide +kernel
theorem dX5_areAlike_57 : decode cX5_areAlike 57 = .ok (.if_icmp .ne 7, 3) := by decide +kernel
theorem dX5_areAlike_60 : decode cX5_areAlike 60 = .ok (.iconst 1, 1) := by decide +kernel
theorem dX5_areAlike_61 : decode cX5_areAlike 61 = .ok (.goto 4, 3) := by decide +kernel
theorem dX5_areAlike_64 : decode cX5_areAlike 64 = .ok (.iconst 0, 1) := by decide +kernel
theorem dX5_areAlike_65 : decode cX5_areAlike 65 = .ok (.ireturn, 1) := by decide +kernel
theorem dX5_likeFaces_0 : decode cX5_likeFaces 0 = .ok (.iconst 0, 1) := by decide +kernel
theorem dX5_likeFaces_1 : decode cX5_likeFaces 1 = .ok (.istore_n 3, 1) := by decide +kernel
theorem dX5_likeFaces_2 : decode cX5_likeFaces 2 = .ok (.iconst 0, 1) := by decide +kernel
theorem dX5_likeFaces_3 : decode cX5_likeFaces 3 = .ok (.istore 4, 2) := by decide +kernel
theorem dX5_likeFaces_5 : decode cX5_likeFaces 5 = .ok (.iload 4, 2) := by decide +kernel
theorem dX5_likeFaces_7 : decode cX5_likeFaces 7 = .ok (.iconst 3, 1) := by decide +kernel
theorem dX5_likeFaces_8 : decode cX5_likeFaces 8 = .ok (.if_icmp .ge 38, 3) := by decide +kernel
theorem dX5_likeFaces_11 : decode cX5_likeFaces 11 = .ok (.aload_n 0, 1) := by decide +kernel
theorem dX5_likeFaces_12 : decode cX5_likeFaces 12 = .ok (.iconst 3, 1) := by decide +kernel
theorem dX5_likeFaces_13 : decode cX5_likeFaces 13 = .ok (.iload_n 1, 1) := by decide +kernel
theorem dX5_likeFaces_14 : decode cX5_likeFaces 14 = .ok (.imul, 1) := by decide +kernel
theorem dX5_likeFaces_15 : decode cX5_likeFaces 15 = .ok (.iload_n 2, 1) := by decide +kernel
theorem dX5_likeFaces_16 : decode cX5_likeFaces 16 = .ok (.iadd, 1) := by decide +kernel
theorem dX5_likeFaces_17 : decode cX5_likeFaces 17 = .ok (.iconst 3, 1) := by decide +kernel
theorem dX5_likeFaces_18 : decode cX5_likeFaces 18 = .ok (.iload_n 1, 1) := by decide +kernel
theorem dX5_likeFaces_19 : decode cX5_likeFaces 19 = .ok (.imul, 1) := by decide +kernel
theorem dX5_likeFaces_20 : decode cX5_likeFaces 20 = .ok (.iload 4, 2) := by decide +kernel
theorem dX5_likeFaces_22 : decode cX5_likeFaces 22 = .ok (.iadd, 1) := by decide +kernel
theorem dX5_likeFaces_23 : decode cX5_likeFaces 23 = .ok (.invokevirtual 246, 3) := by decide +kernel
theorem dX5_likeFaces_26 : decode cX5_likeFaces 26 = .ok (.ifCond .eq 14, 3) := by decide +kernel
theorem dX5_likeFaces_29 : decode cX5_likeFaces 29 = .ok (.iload 4, 2) := by decide +kernel
theorem dX5_likeFaces_31 : decode cX5_likeFaces 31 = .ok (.iload_n 2, 1) := by decide +kernel
theorem dX5_likeFaces_32 : decode cX5_likeFaces 32 = .ok (.if_icmp .ge 5, 3) := by decide +kernel
theorem dX5_likeFaces_35 : decode cX5_likeFaces 35 = .ok (.iconst 0, 1) := by decide +kernel
theorem dX5_likeFaces_36 : decode cX5_likeFaces 36 = .ok (.ireturn, 1) := by decide +kernel
theorem dX5_likeFaces_37 : decode cX5_likeFaces 37 = .ok (.iinc 3 1, 3) := by decide +kernel
theorem dX5_likeFaces_40 : decode cX5_likeFaces 40 = .ok (.iinc 4 1, 3) := by decide +kernel
theorem dX5_likeFaces_43 : decode cX5_likeFaces 43 = .ok (.goto (-38), 3) := by decide +kernel
theorem dX5_likeFaces_46 : decode cX5_likeFaces 46 = .ok (.iload_n 3, 1) := by decide +kernel
theorem dX5_likeFaces_47 : decode cX5_likeFaces 47 = .ok (.ireturn, 1) := by decide +kernel
theorem dX5_endDeep_0 : decode cX5_endDeep 0 = .ok (.aload_n 0, 1) := by decide +kernel
theorem dX5_endDeep_1 : decode cX5_endDeep 1 = .ok (.getfield 41, 3) := by decide +kernel
theorem dX5_endDeep_4 : decode cX5_endDeep 4 = .ok (.iload_n 1, 1) := by decide +kernel
theorem dX5_endDeep_5 : decode cX5_endDeep 5 = .ok (.iaload, 1) := by decide +kernel
theorem dX5_endDeep_6 : decode cX5_endDeep 6 = .ok (.istore_n 2, 1) := by decide +kernel
theorem dX5_endDeep_7 : decode cX5_endDeep 7 = .ok (.iload_n 1, 1) := by decide +kernel
theorem dX5_endDeep_8 : decode cX5_endDeep 8 = .ok (.istore_n 3, 1) := by decide +kernel
theorem dX5_endDeep_9 : decode cX5_endDeep 9 = .ok (.iload_n 3, 1) := by decide +kernel
theorem dX5_endDeep_10 : decode cX5_endDeep 10 = .ok (.bipush 7, 2) := by decide +kernel
theorem dX5_endDeep_12 : decode cX5_endDeep 12 = .ok (.if_icmp .ge 13, 3) := by decide +kernel
theorem dX5_endDeep_15 : decode cX5_endDeep 15 = .ok (.iload_n 2, 1) := by decide +kernel
theorem dX5_endDeep_16 : decode cX5_endDeep 16 = .ok (.iconst 3, 1) := by decide +kernel
theorem dX5_endDeep_17 : decode cX5_endDeep 17 = .ok (.imul, 1) := by decide +kernel
theorem dX5_endDeep_18 : decode cX5_endDeep 18 = .ok (.istore_n 2, 1) := by decide +kernel
theorem dX5_endDeep_19 : decode cX5_endDeep 19 = .ok (.iinc 3 1, 3) := by decide +kernel
theorem dX5_endDeep_22 : decode cX5_endDeep 22 = .ok (.goto (-13), 3) := by decide +kernel
theorem dX5_endDeep_25 : decode cX5_endDeep 25 = .ok (.iconst 0, 1) := by decide +kernel
theorem dX5_endDeep_26 : decode cX5_endDeep 26 = .ok (.istore_n 3, 1) := by decide +kernel
theorem dX5_endDeep_27 : decode cX5_endDeep 27 = .ok (.iload_n 3, 1) := by decide +kernel
theorem dX5_endDeep_28 : decode cX5_endDeep 28 = .ok (.aload_n 0, 1) := by decide +kernel
theorem dX5_endDeep_29 : decode cX5_endDeep 29 = .ok (.getfield 116, 3) := by decide +kernel
theorem dX5_endDeep_32 : decode cX5_endDeep 32 = .ok (.if_icmp .ge 33, 3) := by decide +kernel
theorem dX5_endDeep_35 : decode cX5_endDeep 35 = .ok (.aload_n 0, 1) := by decide +kernel
theorem dX5_endDeep_36 : decode cX5_endDeep 36 = .ok (.getfield 59, 3) := by decide +kernel
theorem dX5_endDeep_39 : decode cX5_endDeep 39 = .ok (.iload_n 3, 1) := by decide +kernel
theorem dX5_endDeep_40 : decode cX5_endDeep 40 = .ok (.dup2, 1) := by decide +kernel
theorem dX5_endDeep_41 : decode cX5_endDeep 41 = .ok (.iaload, 1) := by decide +kernel
theorem dX5_endDeep_42 : decode cX5_endDeep 42 = .ok (.aload_n 0, 1) := by decide +kernel
theorem dX5_endDeep_43 : decode cX5_endDeep 43 = .ok (.getfield 119, 3) := by decide +kernel
theorem dX5_endDeep_46 : decode cX5_endDeep 46 = .ok (.iconst 1, 1) := by decide +kernel
theorem dX5_endDeep_47 : decode cX5_endDeep 47 = .ok (.iload_n 3, 1) := by decide +kernel
theorem dX5_endDeep_48 : decode cX5_endDeep 48 = .ok (.ishl, 1) := by decide +kernel
theorem dX5_endDeep_49 : decode cX5_endDeep 49 = .ok (.if_icmp .ne 7, 3) := by decide +kernel
theorem dX5_endDeep_52 : decode cX5_endDeep 52 = .ok (.iload_n 2, 1) := by decide +kernel
theorem dX5_endDeep_53 : decode cX5_endDeep 53 = .ok (.goto 4, 3) := by decide +kernel
theorem dX5_endDeep_56 : decode cX5_endDeep 56 = .ok (.iconst 0, 1) := by decide +kernel
theorem dX5_endDeep_57 : decode cX5_endDeep 57 = .ok (.iadd, 1) := by decide +kernel
theorem dX5_endDeep_58 : decode cX5_endDeep 58 = .ok (.iastore, 1) := by decide +kernel
theorem dX5_endDeep_59 : decode cX5_endDeep 59 = .ok (.iinc 3 1, 3) := by decide +kernel
theorem dX5_endDeep_62 : decode cX5_endDeep 62 = .ok (.goto (-35), 3) := by decide +kernel
theorem dX5_endDeep_65 : decode cX5_endDeep 65 = .ok (.return_, 1) := by decide +kernel
theorem dX5_enter_0 : decode cX5_enter 0 = .ok (.aload_n 0, 1) := by decide +kernel
theorem dX5_enter_1 : decode cX5_enter 1 = .ok (.iload_n 1, 1) := by decide +kernel
theorem dX5_enter_2 : decode cX5_enter 2 = .ok (.iload_n 2, 1) := by decide +kernel
theorem dX5_enter_3 : decode cX5_enter 3 = .ok (.invokevirtual 249, 3) := by decide +kernel
theorem dX5_enter_6 : decode cX5_enter 6 = .ok (.aload_n 0, 1) := by decide +kernel
theorem dX5_enter_7 : decode cX5_enter 7 = .ok (.invokevirtual 175, 3) := by decide +kernel
theorem dX5_enter_10 : decode cX5_enter 10 = .ok (.ifCond .eq 11, 3) := by decide +kernel
theorem dX5_enter_13 : decode cX5_enter 13 = .ok (.aload_n 0, 1) := by decide +kernel
theorem dX5_enter_14 : decode cX5_enter 14 = .ok (.iload_n 1, 1) := by decide +kernel
theorem dX5_enter_15 : decode cX5_enter 15 = .ok (.invokevirtual 253, 3) := by decide +kernel
theorem dX5_enter_18 : decode cX5_enter 18 = .ok (.goto 15, 3) := by decide +kernel
theorem dX5_enter_21 : decode cX5_enter 21 = .ok (.aload_n 0, 1) := by decide +kernel
theorem dX5_enter_22 : decode cX5_enter 22 = .ok (.iload_n 1, 1) := by decide +kernel
theorem dX5_enter_23 : decode cX5_enter 23 = .ok (.invokevirtual 256, 3) := by decide +kernel
theorem dX5_enter_26 : decode cX5_enter 26 = .ok (.aload_n 0, 1) := by decide +kernel
theorem dX5_enter_27 : decode cX5_enter 27 = .ok (.getfield 44, 3) := by decide +kernel
theorem dX5_enter_30 : decode cX5_enter 30 = .ok (.iload_n 1, 1) := by decide +kernel
theorem dX5_enter_31 : decode cX5_enter 31 = .ok (.iconst 3, 1) := by decide +kernel
theorem dX5_enter_32 : decode cX5_enter 32 = .ok (.iastore, 1) := by decide +kernel
theorem dX5_enter_33 : decode cX5_enter 33 = .ok (.return_, 1) := by decide +kernel
theorem dX5_layLikely_0 : decode cX5_layLikely 0 = .ok (.aload_n 0, 1) := by decide +kernel
theorem dX5_layLikely_1 : decode cX5_layLikely 1 = .ok (.invokevirtual 182, 3) := by decide +kernel
theorem dX5_layLikely_4 : decode cX5_layLikely 4 = .ok (.iconst 0, 1) := by decide +kernel
theorem dX5_layLikely_5 : decode cX5_layLikely 5 = .ok (.istore_n 1, 1) := by decide +kernel
theorem dX5_layLikely_6 : decode cX5_layLikely 6 = .ok (.iload_n 1, 1) := by decide +kernel
theorem dX5_layLikely_7 : decode cX5_layLikely 7 = .ok (.bipush 8, 2) := by decide +kernel
theorem dX5_layLikely_9 : decode cX5_layLikely 9 = .ok (.if_icmp .ge 16, 3) := by decide +kernel
theorem dX5_layLikely_12 : decode cX5_layLikely 12 = .ok (.aload_n 0, 1) := by decide +kernel
theorem dX5_layLikely_13 : decode cX5_layLikely 13 = .ok (.getfield 59, 3) := by decide +kernel
theorem dX5_layLikely_16 : decode cX5_layLikely 16 = .ok (.iload_n 1, 1) := by decide +kernel
theorem dX5_layLikely_17 : decode cX5_layLikely 17 = .ok (.iconst 0, 1) := by decide +kernel
theorem dX5_layLikely_18 : decode cX5_layLikely 18 = .ok (.iastore, 1) := by decide +kernel
theorem dX5_layLikely_19 : decode cX5_layLikely 19 = .ok (.iinc 1 1, 3) := by decide +kernel
theorem dX5_layLikely_22 : decode cX5_layLikely 22 = .ok (.goto (-16), 3) := by decide +kernel
theorem dX5_layLikely_25 : decode cX5_layLikely 25 = .ok (.aload_n 0, 1) := by decide +kernel
theorem dX5_layLikely_26 : decode cX5_layLikely 26 = .ok (.iconst 0, 1) := by decide +kernel
theorem dX5_layLikely_27 : decode cX5_layLikely 27 = .ok (.iconst 1, 1) := by decide +kernel
theorem dX5_layLikely_28 : decode cX5_layLikely 28 = .ok (.invokevirtual 259, 3) := by decide +kernel
theorem dX5_layLikely_31 : decode cX5_layLikely 31 = .ok (.iconst 0, 1) := by decide +kernel
theorem dX5_layLikely_32 : decode cX5_layLikely 32 = .ok (.istore_n 1, 1) := by decide +kernel
theorem dX5_layLikely_33 : decode cX5_layLikely 33 = .ok (.iload_n 1, 1) := by decide +kernel
theorem dX5_layLikely_34 : decode cX5_layLikely 34 = .ok (.ifCond .lt 132, 3) := by decide +kernel
theorem dX5_layLikely_37 : decode cX5_layLikely 37 = .ok (.aload_n 0, 1) := by decide +kernel
theorem dX5_layLikely_38 : decode cX5_layLikely 38 = .ok (.getfield 44, 3) := by decide +kernel
theorem dX5_layLikely_41 : decode cX5_layLikely 41 = .ok (.iload_n 1, 1) := by decide +kernel
theorem dX5_layLikely_42 : decode cX5_layLikely 42 = .ok (.iaload, 1) := by decide +kernel
theorem dX5_layLikely_43 : decode cX5_layLikely 43 = .ok (.istore_n 2, 1) := by decide +kernel
theorem dX5_layLikely_44 : decode cX5_layLikely 44 = .ok (.aload_n 0, 1) := by decide +kernel
theorem dX5_layLikely_45 : decode cX5_layLikely 45 = .ok (.getfield 44, 3) := by decide +kernel
theorem dX5_layLikely_48 : decode cX5_layLikely 48 = .ok (.iload_n 1, 1) := by decide +kernel
theorem dX5_layLikely_49 : decode cX5_layLikely 49 = .ok (.dup2, 1) := by decide +kernel
theorem dX5_layLikely_50 : decode cX5_layLikely 50 = .ok (.iaload, 1) := by decide +kernel
theorem dX5_layLikely_51 : decode cX5_layLikely 51 = .ok (.iconst 1, 1) := by decide +kernel
theorem dX5_layLikely_52 : decode cX5_layLikely 52 = .ok (.iadd, 1) := by decide +kernel
theorem dX5_layLikely_53 : decode cX5_layLikely 53 = .ok (.iastore, 1) := by decide +kernel
theorem dX5_layLikely_54 : decode cX5_layLikely 54 = .ok (.iload_n 2, 1) := by decide +kernel
theorem dX5_layLikely_55 : decode cX5_layLikely 55 = .ok (.iconst 3, 1) := by decide +kernel
theorem dX5_layLikely_56 : decode cX5_layLikely 56 = .ok (.if_icmp .ge 12, 3) := by decide +kernel
theorem dX5_layLikely_59 : decode cX5_layLikely 59 = .ok (.aload_n 0, 1) := by decide +kernel
theorem dX5_layLikely_60 : decode cX5_layLikely 60 = .ok (.iload_n 1, 1) := by decide +kernel
theorem dX5_layLikely_61 : decode cX5_layLikely 61 = .ok (.iload_n 2, 1) := by decide +kernel
theorem dX5_layLikely_62 : decode cX5_layLikely 62 = .ok (.invokevirtual 262, 3) := by decide +kernel
theorem dX5_layLikely_65 : decode cX5_layLikely 65 = .ok (.goto 4, 3) := by decide +kernel
theorem dX5_layLikely_68 : decode cX5_layLikely 68 = .ok (.iconst 0, 1) := by decide +kernel
theorem dX5_layLikely_69 : decode cX5_layLikely 69 = .ok (.istore_n 3, 1) := by decide +kernel
theorem dX5_layLikely_70 : decode cX5_layLikely 70 = .ok (.iload_n 3, 1) := by decide +kernel
theorem dX5_layLikely_71 : decode cX5_layLikely 71 = .ok (.ifCond .le 84, 3) := by decide +kernel
theorem dX5_layLikely_74 : decode cX5_layLikely 74 = .ok (.iconst 3, 1) := by decide +kernel
theorem dX5_layLikely_75 : decode cX5_layLikely 75 = .ok (.iload_n 1, 1) := by decide +kernel
theorem dX5_layLikely_76 : decode cX5_layLikely 76 = .ok (.imul, 1) := by decide +kernel
theorem dX5_layLikely_77 : decode cX5_layLikely 77 = .ok (.iload_n 2, 1) := by decide +kernel
theorem dX5_layLikely_78 : decode cX5_layLikely 78 = .ok (.iadd, 1) := by decide +kernel
theorem dX5_layLikely_79 : decode cX5_layLikely 79 = .ok (.istore 4, 2) := by decide +kernel
theorem dX5_layLikely_81 : decode cX5_layLikely 81 = .ok (.aload_n 0, 1) := by decide +kernel
theorem dX5_layLikely_82 : decode cX5_layLikely 82 = .ok (.aload_n 0, 1) := by decide +kernel
theorem dX5_layLikely_83 : decode cX5_layLikely 83 = .ok (.getfield 47, 3) := by decide +kernel
theorem dX5_layLikely_86 : decode cX5_layLikely 86 = .ok (.iload 4, 2) := by decide +kernel
theorem dX5_layLikely_88 : decode cX5_layLikely 88 = .ok (.iaload, 1) := by decide +kernel
theorem dX5_layLikely_89 : decode cX5_layLikely 89 = .ok (.putfield 119, 3) := by decide +kernel
theorem dX5_layLikely_92 : decode cX5_layLikely 92 = .ok (.aload_n 0, 1) := by decide +kernel
theorem dX5_layLikely_93 : decode cX5_layLikely 93 = .ok (.aload_n 0, 1) := by decide +kernel
theorem dX5_layLikely_94 : decode cX5_layLikely 94 = .ok (.getfield 50, 3) := by decide +kernel
theorem dX5_layLikely_97 : decode cX5_layLikely 97 = .ok (.iload 4, 2) := by decide +kernel
theorem dX5_layLikely_99 : decode cX5_layLikely 99 = .ok (.iaload, 1) := by decide +kernel
theorem dX5_layLikely_100 : decode cX5_layLikely 100 = .ok (.putfield 122, 3) := by decide +kernel
theorem dX5_layLikely_103 : decode cX5_layLikely 103 = .ok (.aload_n 0, 1) := by decide +kernel
theorem dX5_layLikely_104 : decode cX5_layLikely 104 = .ok (.aload_n 0, 1) := by decide +kernel
theorem dX5_layLikely_105 : decode cX5_layLikely 105 = .ok (.getfield 53, 3) := by decide +kernel
theorem dX5_layLikely_108 : decode cX5_layLikely 108 = .ok (.iload 4, 2) := by decide +kernel
theorem dX5_layLikely_110 : decode cX5_layLikely 110 = .ok (.iaload, 1) := by decide +kernel
theorem dX5_layLikely_111 : decode cX5_layLikely 111 = .ok (.putfield 125, 3) := by decide +kernel
theorem dX5_layLikely_114 : decode cX5_layLikely 114 = .ok (.aload_n 0, 1) := by decide +kernel
theorem dX5_layLikely_115 : decode cX5_layLikely 115 = .ok (.aload_n 0, 1) := by decide +kernel
theorem dX5_layLikely_116 : decode cX5_layLikely 116 = .ok (.getfield 56, 3) := by decide +kernel
theorem dX5_layLikely_119 : decode cX5_layLikely 119 = .ok (.iload 4, 2) := by decide +kernel
theorem dX5_layLikely_121 : decode cX5_layLikely 121 = .ok (.iaload, 1) := by decide +kernel
theorem dX5_layLikely_122 : decode cX5_layLikely 122 = .ok (.iconst 1, 1) := by decide +kernel
theorem dX5_layLikely_123 : decode cX5_layLikely 123 = .ok (.if_icmp .ne 7, 3) := by decide +kernel
theorem dX5_layLikely_126 : decode cX5_layLikely 126 = .ok (.iconst 1, 1) := by decide +kernel
theorem dX5_layLikely_127 : decode cX5_layLikely 127 = .ok (.goto 4, 3) := by decide +kernel
theorem dX5_layLikely_130 : decode cX5_layLikely 130 = .ok (.iconst 0, 1) := by decide +kernel
theorem dX5_layLikely_131 : decode cX5_layLikely 131 = .ok (.putfield 128, 3) := by decide +kernel
theorem dX5_layLikely_134 : decode cX5_layLikely 134 = .ok (.iinc 1 1, 3) := by decide +kernel
theorem dX5_layLikely_137 : decode cX5_layLikely 137 = .ok (.aload_n 0, 1) := by decide +kernel
theorem dX5_layLikely_138 : decode cX5_layLikely 138 = .ok (.iload_n 1, 1) := by decide +kernel
theorem dX5_layLikely_139 : decode cX5_layLikely 139 = .ok (.aload_n 0, 1) := by decide +kernel
theorem dX5_layLikely_140 : decode cX5_layLikely 140 = .ok (.getfield 41, 3) := by decide +kernel
theorem dX5_layLikely_143 : decode cX5_layLikely 143 = .ok (.iload_n 1, 1) := by decide +kernel
theorem dX5_layLikely_144 : decode cX5_layLikely 144 = .ok (.iconst 1, 1) := by decide +kernel
theorem dX5_layLikely_145 : decode cX5_layLikely 145 = .ok (.isub, 1) := by decide +kernel
theorem dX5_layLikely_146 : decode cX5_layLikely 146 = .ok (.iaload, 1) := by decide +kernel
theorem dX5_layLikely_147 : decode cX5_layLikely 147 = .ok (.iload_n 3, 1) := by decide +kernel
theorem dX5_layLikely_148 : decode cX5_layLikely 148 = .ok (.imul, 1) := by decide +kernel
theorem dX5_layLikely_149 : decode cX5_layLikely 149 = .ok (.invokevirtual 259, 3) := by decide +kernel
theorem dX5_layLikely_152 : decode cX5_layLikely 152 = .ok (.goto 11, 3) := by decide +kernel
theorem dX5_layLikely_155 : decode cX5_layLikely 155 = .ok (.iload_n 2, 1) := by decide +kernel
theorem dX5_layLikely_156 : decode cX5_layLikely 156 = .ok (.iconst 3, 1) := by decide +kernel
theorem dX5_layLikely_157 : decode cX5_layLikely 157 = .ok (.if_icmp .lt 6, 3) := by decide +kernel
theorem dX5_layLikely_160 : decode cX5_layLikely 160 = .ok (.iinc 1 (-1), 3) := by decide +kernel
theorem dX5_layLikely_163 : decode cX5_layLikely 163 = .ok (.goto (-130), 3) := by decide +kernel
theorem dX5_layLikely_166 : decode cX5_layLikely 166 = .ok (.aload_n 0, 1) := by decide +kernel
theorem dX5_layLikely_167 : decode cX5_layLikely 167 = .ok (.invokevirtual 188, 3) := by decide +kernel
theorem dX5_layLikely_170 : decode cX5_layLikely 170 = .ok (.return_, 1) := by decide +kernel
theorem dX5_likelyNow_0 : decode cX5_likelyNow 0 = .ok (.iconst 1, 1) := by decide +kernel
theorem dX5_likelyNow_1 : decode cX5_likelyNow 1 = .ok (.istore_n 3, 1) := by decide +kernel
theorem dX5_likelyNow_2 : decode cX5_likelyNow 2 = .ok (.iconst 0, 1) := by decide +kernel
theorem dX5_likelyNow_3 : decode cX5_likelyNow 3 = .ok (.istore 4, 2) := by decide +kernel
theorem dX5_likelyNow_5 : decode cX5_likelyNow 5 = .ok (.iload 4, 2) := by decide +kernel
theorem dX5_likelyNow_7 : decode cX5_likelyNow 7 = .ok (.bipush 7, 2) := by decide +kernel
theorem dX5_likelyNow_9 : decode cX5_likelyNow 9 = .ok (.if_icmp .ge 13, 3) := by decide +kernel
theorem dX5_likelyNow_12 : decode cX5_likelyNow 12 = .ok (.iload_n 3, 1) := by decide +kernel
theorem dX5_likelyNow_13 : decode cX5_likelyNow 13 = .ok (.iconst 3, 1) := by decide +kernel
theorem dX5_likelyNow_14 : decode cX5_likelyNow 14 = .ok (.imul, 1) := by decide +kernel
theorem dX5_likelyNow_15 : decode cX5_likelyNow 15 = .ok (.istore_n 3, 1) := by decide +kernel
theorem dX5_likelyNow_16 : decode cX5_likelyNow 16 = .ok (.iinc 4 1, 3) := by decide +kernel
theorem dX5_likelyNow_19 : decode cX5_likelyNow 19 = .ok (.goto (-14), 3) := by decide +kernel
theorem dX5_likelyNow_22 : decode cX5_likelyNow 22 = .ok (.aload_n 0, 1) := by decide +kernel
theorem dX5_likelyNow_23 : decode cX5_likelyNow 23 = .ok (.getfield 59, 3) := by decide +kernel
theorem dX5_likelyNow_26 : decode cX5_likelyNow 26 = .ok (.iload_n 1, 1) := by decide +kernel
theorem dX5_likelyNow_27 : decode cX5_likelyNow 27 = .ok (.iaload, 1) := by decide +kernel
theorem dX5_likelyNow_28 : decode cX5_likelyNow 28 = .ok (.iload_n 3, 1) := by decide +kernel
theorem dX5_likelyNow_29 : decode cX5_likelyNow 29 = .ok (.invokestatic 265, 3) := by decide +kernel
theorem dX5_likelyNow_32 : decode cX5_likelyNow 32 = .ok (.istore 4, 2) := by decide +kernel
theorem dX5_likelyNow_34 : decode cX5_likelyNow 34 = .ok (.iload_n 2, 1) := by decide +kernel
theorem dX5_likelyNow_35 : decode cX5_likelyNow 35 = .ok (.ifCond .ne 15, 3) := by decide +kernel
theorem dX5_likelyNow_38 : decode cX5_likelyNow 38 = .ok (.aload_n 0, 1) := by decide +kernel
theorem dX5_likelyNow_39 : decode cX5_likelyNow 39 = .ok (.getfield 59, 3) := by decide +kernel
theorem dX5_likelyNow_42 : decode cX5_likelyNow 42 = .ok (.iload_n 1, 1) := by decide +kernel
theorem dX5_likelyNow_43 : decode cX5_likelyNow 43 = .ok (.iaload, 1) := by decide +kernel
theorem dX5_likelyNow_44 : decode cX5_likelyNow 44 = .ok (.iload 4, 2) := by decide +kernel
theorem dX5_likelyNow_46 : decode cX5_likelyNow 46 = .ok (.idiv, 1) := by decide +kernel
theorem dX5_likelyNow_47 : decode cX5_likelyNow 47 = .ok (.goto 7, 3) := by decide +kernel
theorem dX5_likelyNow_50 : decode cX5_likelyNow 50 = .ok (.iload_n 3, 1) := by decide +kernel
theorem dX5_likelyNow_51 : decode cX5_likelyNow 51 = .ok (.iload 4, 2) := by decide +kernel
theorem dX5_likelyNow_53 : decode cX5_likelyNow 53 = .ok (.idiv, 1) := by decide +kernel
theorem dX5_likelyNow_54 : decode cX5_likelyNow 54 = .ok (.ireturn, 1) := by decide +kernel
theorem dX5_likely_0 : decode cX5_likely 0 = .ok (.aload_n 0, 1) := by decide +kernel
theorem dX5_likely_1 : decode cX5_likely 1 = .ok (.iload_n 1, 1) := by decide +kernel
theorem dX5_likely_2 : decode cX5_likely 2 = .ok (.invokevirtual 197, 3) := by decide +kernel
theorem dX5_likely_5 : decode cX5_likely 5 = .ok (.ifCond .ne 6, 3) := by decide +kernel
theorem dX5_likely_8 : decode cX5_likely 8 = .ok (.bipush (-101), 2) := by decide +kernel
theorem dX5_likely_10 : decode cX5_likely 10 = .ok (.ireturn, 1) := by decide +kernel
theorem dX5_likely_11 : decode cX5_likely 11 = .ok (.iload_n 2, 1) := by decide +kernel
theorem dX5_likely_12 : decode cX5_likely 12 = .ok (.iconst 0, 1) := by decide +kernel
theorem dX5_likely_13 : decode cX5_likely 13 = .ok (.iconst 1, 1) := by decide +kernel
theorem dX5_likely_14 : decode cX5_likely 14 = .ok (.invokestatic 77, 3) := by decide +kernel
theorem dX5_likely_17 : decode cX5_likely 17 = .ok (.ifCond .ne 6, 3) := by decide +kernel
theorem dX5_likely_20 : decode cX5_likely 20 = .ok (.bipush (-102), 2) := by decide +kernel
theorem dX5_likely_22 : decode cX5_likely 22 = .ok (.ireturn, 1) := by decide +kernel
theorem dX5_likely_23 : decode cX5_likely 23 = .ok (.aload_n 0, 1) := by decide +kernel
theorem dX5_likely_24 : decode cX5_likely 24 = .ok (.getfield 119, 3) := by decide +kernel
theorem dX5_likely_27 : decode cX5_likely 27 = .ok (.iload_n 1, 1) := by decide +kernel
theorem dX5_likely_28 : decode cX5_likely 28 = .ok (.invokestatic 140, 3) := by decide +kernel
theorem dX5_likely_31 : decode cX5_likely 31 = .ok (.ifCond .ne 6, 3) := by decide +kernel
theorem dX5_likely_34 : decode cX5_likely 34 = .ok (.bipush (-103), 2) := by decide +kernel
theorem dX5_likely_36 : decode cX5_likely 36 = .ok (.ireturn, 1) := by decide +kernel
theorem dX5_likely_37 : decode cX5_likely 37 = .ok (.aload_n 0, 1) := by decide +kernel
theorem dX5_likely_38 : decode cX5_likely 38 = .ok (.invokevirtual 268, 3) := by decide +kernel
theorem dX5_likely_41 : decode cX5_likely 41 = .ok (.aload_n 0, 1) := by decide +kernel
theorem dX5_likely_42 : decode cX5_likely 42 = .ok (.iload_n 1, 1) := by decide +kernel
theorem dX5_likely_43 : decode cX5_likely 43 = .ok (.iload_n 2, 1) := by decide +kernel
theorem dX5_likely_44 : decode cX5_likely 44 = .ok (.invokevirtual 271, 3) := by decide +kernel
theorem dX5_likely_47 : decode cX5_likely 47 = .ok (.ireturn, 1) := by decide +kernel
theorem dX5_see_0 : decode cX5_see 0 = .ok (.aload_n 0, 1) := by decide +kernel
theorem dX5_see_1 : decode cX5_see 1 = .ok (.iload_n 1, 1) := by decide +kernel
theorem dX5_see_2 : decode cX5_see 2 = .ok (.invokevirtual 197, 3) := by decide +kernel
theorem dX5_see_5 : decode cX5_see 5 = .ok (.ifCond .eq 11, 3) := by decide +kernel
theorem dX5_see_8 : decode cX5_see 8 = .ok (.aload_n 0, 1) := by decide +kernel
theorem dX5_see_9 : decode cX5_see 9 = .ok (.iload_n 2, 1) := by decide +kernel
theorem dX5_see_10 : decode cX5_see 10 = .ok (.invokevirtual 197, 3) := by decide +kernel
theorem dX5_see_13 : decode cX5_see 13 = .ok (.ifCond .ne 6, 3) := by decide +kernel
theorem dX5_see_16 : decode cX5_see 16 = .ok (.bipush (-101), 2) := by decide +kernel
theorem dX5_see_18 : decode cX5_see 18 = .ok (.ireturn, 1) := by decide +kernel
theorem dX5_see_19 : decode cX5_see 19 = .ok (.aload_n 0, 1) := by decide +kernel
theorem dX5_see_20 : decode cX5_see 20 = .ok (.getfield 137, 3) := by decide +kernel
theorem dX5_see_23 : decode cX5_see 23 = .ok (.bipush 6, 2) := by decide +kernel
theorem dX5_see_25 : decode cX5_see 25 = .ok (.if_icmp .ne 6, 3) := by decide +kernel
theorem dX5_see_28 : decode cX5_see 28 = .ok (.bipush (-104), 2) := by decide +kernel
theorem dX5_see_30 : decode cX5_see 30 = .ok (.ireturn, 1) := by decide +kernel
theorem dX5_see_31 : decode cX5_see 31 = .ok (.aload_n 0, 1) := by decide +kernel
theorem dX5_see_32 : decode cX5_see 32 = .ok (.getfield 16, 3) := by decide +kernel
theorem dX5_see_35 : decode cX5_see 35 = .ok (.aload_n 0, 1) := by decide +kernel
theorem dX5_see_36 : decode cX5_see 36 = .ok (.getfield 137, 3) := by decide +kernel
theorem dX5_see_39 : decode cX5_see 39 = .ok (.iload_n 1, 1) := by decide +kernel
theorem dX5_see_40 : decode cX5_see 40 = .ok (.iastore, 1) := by decide +kernel
theorem dX5_see_41 : decode cX5_see 41 = .ok (.aload_n 0, 1) := by decide +kernel
theorem dX5_see_42 : decode cX5_see 42 = .ok (.getfield 19, 3) := by decide +kernel
theorem dX5_see_45 : decode cX5_see 45 = .ok (.aload_n 0, 1) := by decide +kernel
theorem dX5_see_46 : decode cX5_see 46 = .ok (.getfield 137, 3) := by decide +kernel
theorem dX5_see_49 : decode cX5_see 49 = .ok (.iload_n 2, 1) := by decide +kernel
theorem dX5_see_50 : decode cX5_see 50 = .ok (.iastore, 1) := by decide +kernel
theorem dX5_see_51 : decode cX5_see 51 = .ok (.aload_n 0, 1) := by decide +kernel
theorem dX5_see_52 : decode cX5_see 52 = .ok (.dup, 1) := by decide +kernel
theorem dX5_see_53 : decode cX5_see 53 = .ok (.getfield 137, 3) := by decide +kernel
theorem dX5_see_56 : decode cX5_see 56 = .ok (.iconst 1, 1) := by decide +kernel
theorem dX5_see_57 : decode cX5_see 57 = .ok (.iadd, 1) := by decide +kernel
theorem dX5_see_58 : decode cX5_see 58 = .ok (.putfield 137, 3) := by decide +kernel
theorem dX5_see_61 : decode cX5_see 61 = .ok (.aload_n 0, 1) := by decide +kernel
theorem dX5_see_62 : decode cX5_see 62 = .ok (.getfield 137, 3) := by decide +kernel
theorem dX5_see_65 : decode cX5_see 65 = .ok (.ireturn, 1) := by decide +kernel
theorem dX5_forget_0 : decode cX5_forget 0 = .ok (.aload_n 0, 1) := by decide +kernel
theorem dX5_forget_1 : decode cX5_forget 1 = .ok (.getfield 137, 3) := by decide +kernel
theorem dX5_forget_4 : decode cX5_forget 4 = .ok (.istore_n 1, 1) := by decide +kernel
theorem dX5_forget_5 : decode cX5_forget 5 = .ok (.aload_n 0, 1) := by decide +kernel
theorem dX5_forget_6 : decode cX5_forget 6 = .ok (.iconst 0, 1) := by decide +kernel
theorem dX5_forget_7 : decode cX5_forget 7 = .ok (.putfield 137, 3) := by decide +kernel
theorem dX5_forget_10 : decode cX5_forget 10 = .ok (.iload_n 1, 1) := by decide +kernel
theorem dX5_forget_11 : decode cX5_forget 11 = .ok (.ireturn, 1) := by decide +kernel
theorem dX5_lengthsNow_0 : decode cX5_lengthsNow 0 = .ok (.iconst 0, 1) := by decide +kernel
theorem dX5_lengthsNow_1 : decode cX5_lengthsNow 1 = .ok (.istore_n 1, 1) := by decide +kernel
theorem dX5_lengthsNow_2 : decode cX5_lengthsNow 2 = .ok (.iconst 1, 1) := by decide +kernel
theorem dX5_lengthsNow_3 : decode cX5_lengthsNow 3 = .ok (.istore_n 2, 1) := by decide +kernel
theorem dX5_lengthsNow_4 : decode cX5_lengthsNow 4 = .ok (.iload_n 2, 1) := by decide +kernel
theorem dX5_lengthsNow_5 : decode cX5_lengthsNow 5 = .ok (.bipush 24, 2) := by decide +kernel
theorem dX5_lengthsNow_7 : decode cX5_lengthsNow 7 = .ok (.if_icmp .gt 77, 3) := by decide +kernel
theorem dX5_lengthsNow_10 : decode cX5_lengthsNow 10 = .ok (.iconst 1, 1) := by decide +kernel
theorem dX5_lengthsNow_11 : decode cX5_lengthsNow 11 = .ok (.istore_n 3, 1) := by decide +kernel
theorem dX5_lengthsNow_12 : decode cX5_lengthsNow 12 = .ok (.iconst 0, 1) := by decide +kernel
theorem dX5_lengthsNow_13 : decode cX5_lengthsNow 13 = .ok (.istore 4, 2) := by decide +kernel
theorem dX5_lengthsNow_15 : decode cX5_lengthsNow 15 = .ok (.iload 4, 2) := by decide +kernel
theorem dX5_lengthsNow_17 : decode cX5_lengthsNow 17 = .ok (.aload_n 0, 1) := by decide +kernel
theorem dX5_lengthsNow_18 : decode cX5_lengthsNow 18 = .ok (.getfield 137, 3) := by decide +kernel
theorem dX5_lengthsNow_21 : decode cX5_lengthsNow 21 = .ok (.if_icmp .ge 41, 3) := by decide +kernel
theorem dX5_lengthsNow_24 : decode cX5_lengthsNow 24 = .ok (.iload_n 3, 1) := by decide +kernel
theorem dX5_lengthsNow_25 : decode cX5_lengthsNow 25 = .ok (.ifCond .eq 29, 3) := by decide +kernel
theorem dX5_lengthsNow_28 : decode cX5_lengthsNow 28 = .ok (.aload_n 0, 1) := by decide +kernel
theorem dX5_lengthsNow_29 : decode cX5_lengthsNow 29 = .ok (.aload_n 0, 1) := by decide +kernel
theorem dX5_lengthsNow_30 : decode cX5_lengthsNow 30 = .ok (.getfield 16, 3) := by decide +kernel
theorem dX5_lengthsNow_33 : decode cX5_lengthsNow 33 = .ok (.iload 4, 2) := by decide +kernel
theorem dX5_lengthsNow_35 : decode cX5_lengthsNow 35 = .ok (.iaload, 1) := by decide +kernel
theorem dX5_lengthsNow_36 : decode cX5_lengthsNow 36 = .ok (.iload_n 2, 1) := by decide +kernel
theorem dX5_lengthsNow_37 : decode cX5_lengthsNow 37 = .ok (.invokevirtual 204, 3) := by decide +kernel
theorem dX5_lengthsNow_40 : decode cX5_lengthsNow 40 = .ok (.aload_n 0, 1) := by decide +kernel
theorem dX5_lengthsNow_41 : decode cX5_lengthsNow 41 = .ok (.getfield 19, 3) := by decide +kernel
theorem dX5_lengthsNow_44 : decode cX5_lengthsNow 44 = .ok (.iload 4, 2) := by decide +kernel
theorem dX5_lengthsNow_46 : decode cX5_lengthsNow 46 = .ok (.iaload, 1) := by decide +kernel
theorem dX5_lengthsNow_47 : decode cX5_lengthsNow 47 = .ok (.if_icmp .ne 7, 3) := by decide +kernel
theorem dX5_lengthsNow_50 : decode cX5_lengthsNow 50 = .ok (.iconst 1, 1) := by decide +kernel
theorem dX5_lengthsNow_51 : decode cX5_lengthsNow 51 = .ok (.goto 4, 3) := by decide +kernel
theorem dX5_lengthsNow_54 : decode cX5_lengthsNow 54 = .ok (.iconst 0, 1) := by decide +kernel
theorem dX5_lengthsNow_55 : decode cX5_lengthsNow 55 = .ok (.istore_n 3, 1) := by decide +kernel
theorem dX5_lengthsNow_56 : decode cX5_lengthsNow 56 = .ok (.iinc 4 1, 3) := by decide +kernel
theorem dX5_lengthsNow_59 : decode cX5_lengthsNow 59 = .ok (.goto (-44), 3) := by decide +kernel
theorem dX5_lengthsNow_62 : decode cX5_lengthsNow 62 = .ok (.iload_n 1, 1) := by decide +kernel
theorem dX5_lengthsNow_63 : decode cX5_lengthsNow 63 = .ok (.iload_n 3, 1) := by decide +kernel
theorem dX5_lengthsNow_64 : decode cX5_lengthsNow 64 = .ok (.ifCond .eq 11, 3) := by decide +kernel
theorem dX5_lengthsNow_67 : decode cX5_lengthsNow 67 = .ok (.iconst 1, 1) := by decide +kernel
theorem dX5_lengthsNow_68 : decode cX5_lengthsNow 68 = .ok (.iload_n 2, 1) := by decide +kernel
theorem dX5_lengthsNow_69 : decode cX5_lengthsNow 69 = .ok (.iconst 1, 1) := by decide +kernel
theorem dX5_lengthsNow_70 : decode cX5_lengthsNow 70 = .ok (.isub, 1) := by decide +kernel
theorem dX5_lengthsNow_71 : decode cX5_lengthsNow 71 = .ok (.ishl, 1) := by decide +kernel
theorem dX5_lengthsNow_72 : decode cX5_lengthsNow 72 = .ok (.goto 4, 3) := by decide +kernel
theorem dX5_lengthsNow_75 : decode cX5_lengthsNow 75 = .ok (.iconst 0, 1) := by decide +kernel
theorem dX5_lengthsNow_76 : decode cX5_lengthsNow 76 = .ok (.ior, 1) := by decide +kernel
theorem dX5_lengthsNow_77 : decode cX5_lengthsNow 77 = .ok (.istore_n 1, 1) := by decide +kernel
theorem dX5_lengthsNow_78 : decode cX5_lengthsNow 78 = .ok (.iinc 2 1, 3) := by decide +kernel
theorem dX5_lengthsNow_81 : decode cX5_lengthsNow 81 = .ok (.goto (-77), 3) := by decide +kernel
theorem dX5_lengthsNow_84 : decode cX5_lengthsNow 84 = .ok (.iload_n 1, 1) := by decide +kernel
theorem dX5_lengthsNow_85 : decode cX5_lengthsNow 85 = .ok (.ireturn, 1) := by decide +kernel
theorem dX5_lengths_0 : decode cX5_lengths 0 = .ok (.aload_n 0, 1) := by decide +kernel
theorem dX5_lengths_1 : decode cX5_lengths 1 = .ok (.getfield 116, 3) := by decide +kernel
theorem dX5_lengths_4 : decode cX5_lengths 4 = .ok (.ifCond .ne 8, 3) := by decide +kernel
theorem dX5_lengths_7 : decode cX5_lengths 7 = .ok (.bipush (-103), 2) := by decide +kernel
theorem dX5_lengths_9 : decode cX5_lengths 9 = .ok (.goto 7, 3) := by decide +kernel
theorem dX5_lengths_12 : decode cX5_lengths 12 = .ok (.aload_n 0, 1) := by decide +kernel
theorem dX5_lengths_13 : decode cX5_lengths 13 = .ok (.invokevirtual 274, 3) := by decide +kernel
theorem dX5_lengths_16 : decode cX5_lengths 16 = .ok (.ireturn, 1) := by decide +kernel
theorem dX5_worstFrom_0 : decode cX5_worstFrom 0 = .ok (.iconst 0, 1) := by decide +kernel
theorem dX5_worstFrom_1 : decode cX5_worstFrom 1 = .ok (.istore_n 3, 1) := by decide +kernel
theorem dX5_worstFrom_2 : decode cX5_worstFrom 2 = .ok (.iload_n 3, 1) := by decide +kernel
theorem dX5_worstFrom_3 : decode cX5_worstFrom 3 = .ok (.bipush 8, 2) := by decide +kernel
theorem dX5_worstFrom_5 : decode cX5_worstFrom 5 = .ok (.if_icmp .ge 16, 3) := by decide +kernel
theorem dX5_worstFrom_8 : decode cX5_worstFrom 8 = .ok (.aload_n 0, 1) := by decide +kernel
theorem dX5_worstFrom_9 : decode cX5_worstFrom 9 = .ok (.getfield 62, 3) := by decide +kernel
theorem dX5_worstFrom_12 : decode cX5_worstFrom 12 = .ok (.iload_n 3, 1) := by decide +kernel
theorem dX5_worstFrom_13 : decode cX5_worstFrom 13 = .ok (.iconst 0, 1) := by decide +kernel
theorem dX5_worstFrom_14 : decode cX5_worstFrom 14 = .ok (.iastore, 1) := by decide +kernel
theorem dX5_worstFrom_15 : decode cX5_worstFrom 15 = .ok (.iinc 3 1, 3) := by decide +kernel
theorem dX5_worstFrom_18 : decode cX5_worstFrom 18 = .ok (.goto (-16), 3) := by decide +kernel
theorem dX5_worstFrom_21 : decode cX5_worstFrom 21 = .ok (.iconst 0, 1) := by decide +kernel
theorem dX5_worstFrom_22 : decode cX5_worstFrom 22 = .ok (.istore_n 3, 1) := by decide +kernel
theorem dX5_worstFrom_23 : decode cX5_worstFrom 23 = .ok (.iconst 1, 1) := by decide +kernel
theorem dX5_worstFrom_24 : decode cX5_worstFrom 24 = .ok (.istore 4, 2) := by decide +kernel
theorem dX5_worstFrom_26 : decode cX5_worstFrom 26 = .ok (.iload 4, 2) := by decide +kernel
theorem dX5_worstFrom_28 : decode cX5_worstFrom 28 = .ok (.bipush 24, 2) := by decide +kernel
theorem dX5_worstFrom_30 : decode cX5_worstFrom 30 = .ok (.if_icmp .gt 63, 3) := by decide +kernel
theorem dX5_worstFrom_33 : decode cX5_worstFrom 33 = .ok (.iload_n 2, 1) := by decide +kernel
theorem dX5_worstFrom_34 : decode cX5_worstFrom 34 = .ok (.iload 4, 2) := by decide +kernel
theorem dX5_worstFrom_36 : decode cX5_worstFrom 36 = .ok (.iconst 1, 1) := by decide +kernel
theorem dX5_worstFrom_37 : decode cX5_worstFrom 37 = .ok (.isub, 1) := by decide +kernel
theorem dX5_worstFrom_38 : decode cX5_worstFrom 38 = .ok (.invokestatic 140, 3) := by decide +kernel
theorem dX5_worstFrom_41 : decode cX5_worstFrom 41 = .ok (.ifCond .eq 46, 3) := by decide +kernel
theorem dX5_worstFrom_44 : decode cX5_worstFrom 44 = .ok (.aload_n 0, 1) := by decide +kernel
theorem dX5_worstFrom_45 : decode cX5_worstFrom 45 = .ok (.iload_n 1, 1) := by decide +kernel
theorem dX5_worstFrom_46 : decode cX5_worstFrom 46 = .ok (.iload 4, 2) := by decide +kernel
theorem dX5_worstFrom_48 : decode cX5_worstFrom 48 = .ok (.invokevirtual 204, 3) := by decide +kernel
theorem dX5_worstFrom_51 : decode cX5_worstFrom 51 = .ok (.istore 5, 2) := by decide +kernel
theorem dX5_worstFrom_53 : decode cX5_worstFrom 53 = .ok (.aload_n 0, 1) := by decide +kernel
theorem dX5_worstFrom_54 : decode cX5_worstFrom 54 = .ok (.getfield 62, 3) := by decide +kernel
theorem dX5_worstFrom_57 : decode cX5_worstFrom 57 = .ok (.iload 5, 2) := by decide +kernel
theorem dX5_worstFrom_59 : decode cX5_worstFrom 59 = .ok (.dup2, 1) := by decide +kernel
theorem dX5_worstFrom_60 : decode cX5_worstFrom 60 = .ok (.iaload, 1) := by decide +kernel
theorem dX5_worstFrom_61 : decode cX5_worstFrom 61 = .ok (.iconst 1, 1) := by decide +kernel
theorem dX5_worstFrom_62 : decode cX5_worstFrom 62 = .ok (.iadd, 1) := by decide +kernel
theorem dX5_worstFrom_63 : decode cX5_worstFrom 63 = .ok (.iastore, 1) := by decide +kernel
theorem dX5_worstFrom_64 : decode cX5_worstFrom 64 = .ok (.aload_n 0, 1) := by decide +kernel
theorem dX5_worstFrom_65 : decode cX5_worstFrom 65 = .ok (.getfield 62, 3) := by decide +kernel
theorem dX5_worstFrom_68 : decode cX5_worstFrom 68 = .ok (.iload 5, 2) := by decide +kernel
theorem dX5_worstFrom_70 : decode cX5_worstFrom 70 = .ok (.iaload, 1) := by decide +kernel
theorem dX5_worstFrom_71 : decode cX5_worstFrom 71 = .ok (.iload_n 3, 1) := by decide +kernel
theorem dX5_worstFrom_72 : decode cX5_worstFrom 72 = .ok (.if_icmp .le 13, 3) := by decide +kernel
theorem dX5_worstFrom_75 : decode cX5_worstFrom 75 = .ok (.aload_n 0, 1) := by decide +kernel
theorem dX5_worstFrom_76 : decode cX5_worstFrom 76 = .ok (.getfield 62, 3) := by decide +kernel
theorem dX5_worstFrom_79 : decode cX5_worstFrom 79 = .ok (.iload 5, 2) := by decide +kernel
theorem dX5_worstFrom_81 : decode cX5_worstFrom 81 = .ok (.iaload, 1) := by decide +kernel
theorem dX5_worstFrom_82 : decode cX5_worstFrom 82 = .ok (.goto 4, 3) := by decide +kernel
theorem dX5_worstFrom_85 : decode cX5_worstFrom 85 = .ok (.iload_n 3, 1) := by decide +kernel
theorem dX5_worstFrom_86 : decode cX5_worstFrom 86 = .ok (.istore_n 3, 1) := by decide +kernel
theorem dX5_worstFrom_87 : decode cX5_worstFrom 87 = .ok (.iinc 4 1, 3) := by decide +kernel
theorem dX5_worstFrom_90 : decode cX5_worstFrom 90 = .ok (.goto (-64), 3) := by decide +kernel
theorem dX5_worstFrom_93 : decode cX5_worstFrom 93 = .ok (.iload_n 3, 1) := by decide +kernel
theorem dX5_worstFrom_94 : decode cX5_worstFrom 94 = .ok (.ireturn, 1) := by decide +kernel
theorem dX5_fromNow_0 : decode cX5_fromNow 0 = .ok (.aload_n 0, 1) := by decide +kernel
theorem dX5_fromNow_1 : decode cX5_fromNow 1 = .ok (.invokevirtual 274, 3) := by decide +kernel
theorem dX5_fromNow_4 : decode cX5_fromNow 4 = .ok (.istore_n 1, 1) := by decide +kernel
theorem dX5_fromNow_5 : decode cX5_fromNow 5 = .ok (.iconst (-1), 1) := by decide +kernel
theorem dX5_fromNow_6 : decode cX5_fromNow 6 = .ok (.istore_n 2, 1) := by decide +kernel
theorem dX5_fromNow_7 : decode cX5_fromNow 7 = .ok (.ldc_w 277, 3) := by decide +kernel
theorem dX5_fromNow_10 : decode cX5_fromNow 10 = .ok (.istore_n 3, 1) := by decide +kernel
theorem dX5_fromNow_11 : decode cX5_fromNow 11 = .ok (.iconst 0, 1) := by decide +kernel
theorem dX5_fromNow_12 : decode cX5_fromNow 12 = .ok (.istore 4, 2) := by decide +kernel
theorem dX5_fromNow_14 : decode cX5_fromNow 14 = .ok (.iload 4, 2) := by decide +kernel
theorem dX5_fromNow_16 : decode cX5_fromNow 16 = .ok (.aload_n 0, 1) := by decide +kernel
theorem dX5_fromNow_17 : decode cX5_fromNow 17 = .ok (.getfield 116, 3) := by decide +kernel
theorem dX5_fromNow_20 : decode cX5_fromNow 20 = .ok (.if_icmp .ge 55, 3) := by decide +kernel
theorem dX5_fromNow_23 : decode cX5_fromNow 23 = .ok (.iload_n 1, 1) := by decide +kernel
theorem dX5_fromNow_24 : decode cX5_fromNow 24 = .ok (.ifCond .eq 51, 3) := by decide +kernel
theorem dX5_fromNow_27 : decode cX5_fromNow 27 = .ok (.aload_n 0, 1) := by decide +kernel
theorem dX5_fromNow_28 : decode cX5_fromNow 28 = .ok (.invokevirtual 175, 3) := by decide +kernel
theorem dX5_fromNow_31 : decode cX5_fromNow 31 = .ok (.ifCond .eq 44, 3) := by decide +kernel
theorem dX5_fromNow_34 : decode cX5_fromNow 34 = .ok (.aload_n 0, 1) := by decide +kernel
theorem dX5_fromNow_35 : decode cX5_fromNow 35 = .ok (.iload 4, 2) := by decide +kernel
theorem dX5_fromNow_37 : decode cX5_fromNow 37 = .ok (.iload_n 1, 1) := by decide +kernel
theorem dX5_fromNow_38 : decode cX5_fromNow 38 = .ok (.invokevirtual 278, 3) := by decide +kernel
theorem dX5_fromNow_41 : decode cX5_fromNow 41 = .ok (.istore 5, 2) := by decide +kernel
theorem dX5_fromNow_43 : decode cX5_fromNow 43 = .ok (.iload 5, 2) := by decide +kernel
theorem dX5_fromNow_45 : decode cX5_fromNow 45 = .ok (.iload_n 3, 1) := by decide +kernel
theorem dX5_fromNow_46 : decode cX5_fromNow 46 = .ok (.if_icmp .ge 8, 3) := by decide +kernel
theorem dX5_fromNow_49 : decode cX5_fromNow 49 = .ok (.iload 4, 2) := by decide +kernel
theorem dX5_fromNow_51 : decode cX5_fromNow 51 = .ok (.goto 4, 3) := by decide +kernel
theorem dX5_fromNow_54 : decode cX5_fromNow 54 = .ok (.iload_n 2, 1) := by decide +kernel
theorem dX5_fromNow_55 : decode cX5_fromNow 55 = .ok (.istore_n 2, 1) := by decide +kernel
theorem dX5_fromNow_56 : decode cX5_fromNow 56 = .ok (.iload 5, 2) := by decide +kernel
theorem dX5_fromNow_58 : decode cX5_fromNow 58 = .ok (.iload_n 3, 1) := by decide +kernel
theorem dX5_fromNow_59 : decode cX5_fromNow 59 = .ok (.if_icmp .ge 8, 3) := by decide +kernel
theorem dX5_fromNow_62 : decode cX5_fromNow 62 = .ok (.iload 5, 2) := by decide +kernel
theorem dX5_fromNow_64 : decode cX5_fromNow 64 = .ok (.goto 4, 3) := by decide +kernel
theorem dX5_fromNow_67 : decode cX5_fromNow 67 = .ok (.iload_n 3, 1) := by decide +kernel
theorem dX5_fromNow_68 : decode cX5_fromNow 68 = .ok (.istore_n 3, 1) := by decide +kernel
theorem dX5_fromNow_69 : decode cX5_fromNow 69 = .ok (.iinc 4 1, 3) := by decide +kernel
theorem dX5_fromNow_72 : decode cX5_fromNow 72 = .ok (.goto (-58), 3) := by decide +kernel
theorem dX5_fromNow_75 : decode cX5_fromNow 75 = .ok (.iload_n 2, 1) := by decide +kernel
theorem dX5_fromNow_76 : decode cX5_fromNow 76 = .ok (.ireturn, 1) := by decide +kernel
theorem dX5_from_0 : decode cX5_from 0 = .ok (.aload_n 0, 1) := by decide +kernel
theorem dX5_from_1 : decode cX5_from 1 = .ok (.getfield 116, 3) := by decide +kernel
theorem dX5_from_4 : decode cX5_from 4 = .ok (.ifCond .ne 8, 3) := by decide +kernel
theorem dX5_from_7 : decode cX5_from 7 = .ok (.bipush (-103), 2) := by decide +kernel
theorem dX5_from_9 : decode cX5_from 9 = .ok (.goto 7, 3) := by decide +kernel
theorem dX5_from_12 : decode cX5_from 12 = .ok (.aload_n 0, 1) := by decide +kernel
theorem dX5_from_13 : decode cX5_from 13 = .ok (.invokevirtual 281, 3) := by decide +kernel
theorem dX5_from_16 : decode cX5_from 16 = .ok (.ireturn, 1) := by decide +kernel
theorem dX5_draw_0 : decode cX5_draw 0 = .ok (.aload_n 0, 1) := by decide +kernel
theorem dX5_draw_1 : decode cX5_draw 1 = .ok (.ldc2_w 284, 3) := by decide +kernel
theorem dX5_draw_4 : decode cX5_draw 4 = .ok (.aload_n 0, 1) := by decide +kernel
theorem dX5_draw_5 : decode cX5_draw 5 = .ok (.getfield 286, 3) := by decide +kernel
theorem dX5_draw_8 : decode cX5_draw 8 = .ok (.lmul, 1) := by decide +kernel
theorem dX5_draw_9 : decode cX5_draw 9 = .ok (.ldc2_w 290, 3) := by decide +kernel
theorem dX5_draw_12 : decode cX5_draw 12 = .ok (.ladd, 1) := by decide +kernel
theorem dX5_draw_13 : decode cX5_draw 13 = .ok (.ldc2_w 292, 3) := by decide +kernel
theorem dX5_draw_16 : decode cX5_draw 16 = .ok (.land, 1) := by decide +kernel
theorem dX5_draw_17 : decode cX5_draw 17 = .ok (.putfield 286, 3) := by decide +kernel
theorem dX5_draw_20 : decode cX5_draw 20 = .ok (.aload_n 0, 1) := by decide +kernel
theorem dX5_draw_21 : decode cX5_draw 21 = .ok (.getfield 286, 3) := by decide +kernel
theorem dX5_draw_24 : decode cX5_draw 24 = .ok (.ldc2_w 294, 3) := by decide +kernel
theorem dX5_draw_27 : decode cX5_draw 27 = .ok (.ldiv, 1) := by decide +kernel
theorem dX5_draw_28 : decode cX5_draw 28 = .ok (.iload_n 1, 1) := by decide +kernel
theorem dX5_draw_29 : decode cX5_draw 29 = .ok (.i2l, 1) := by decide +kernel
theorem dX5_draw_30 : decode cX5_draw 30 = .ok (.lrem, 1) := by decide +kernel
theorem dX5_draw_31 : decode cX5_draw 31 = .ok (.l2i, 1) := by decide +kernel
theorem dX5_draw_32 : decode cX5_draw 32 = .ok (.ireturn, 1) := by decide +kernel
theorem dX5_roundsNow_0 : decode cX5_roundsNow 0 = .ok (.aload_n 0, 1) := by decide +kernel
theorem dX5_roundsNow_1 : decode cX5_roundsNow 1 = .ok (.invokevirtual 182, 3) := by decide +kernel
theorem dX5_roundsNow_4 : decode cX5_roundsNow 4 = .ok (.aload_n 0, 1) := by decide +kernel
theorem dX5_roundsNow_5 : decode cX5_roundsNow 5 = .ok (.iload_n 2, 1) := by decide +kernel
theorem dX5_roundsNow_6 : decode cX5_roundsNow 6 = .ok (.i2l, 1) := by decide +kernel
theorem dX5_roundsNow_7 : decode cX5_roundsNow 7 = .ok (.putfield 286, 3) := by decide +kernel
theorem dX5_roundsNow_10 : decode cX5_roundsNow 10 = .ok (.iconst 0, 1) := by decide +kernel
theorem dX5_roundsNow_11 : decode cX5_roundsNow 11 = .ok (.istore 4, 2) := by decide +kernel
theorem dX5_roundsNow_13 : decode cX5_roundsNow 13 = .ok (.iconst 0, 1) := by decide +kernel
theorem dX5_roundsNow_14 : decode cX5_roundsNow 14 = .ok (.istore 5, 2) := by decide +kernel
theorem dX5_roundsNow_16 : decode cX5_roundsNow 16 = .ok (.iload 5, 2) := by decide +kernel
theorem dX5_roundsNow_18 : decode cX5_roundsNow 18 = .ok (.iload_n 1, 1) := by decide +kernel
theorem dX5_roundsNow_19 : decode cX5_roundsNow 19 = .ok (.if_icmp .ge 57, 3) := by decide +kernel
theorem dX5_roundsNow_22 : decode cX5_roundsNow 22 = .ok (.aload_n 0, 1) := by decide +kernel
theorem dX5_roundsNow_23 : decode cX5_roundsNow 23 = .ok (.invokevirtual 175, 3) := by decide +kernel
theorem dX5_roundsNow_26 : decode cX5_roundsNow 26 = .ok (.ifCond .eq 24, 3) := by decide +kernel
theorem dX5_roundsNow_29 : decode cX5_roundsNow 29 = .ok (.aload_n 0, 1) := by decide +kernel
theorem dX5_roundsNow_30 : decode cX5_roundsNow 30 = .ok (.aload_n 0, 1) := by decide +kernel
theorem dX5_roundsNow_31 : decode cX5_roundsNow 31 = .ok (.getfield 7, 3) := by decide +kernel
theorem dX5_roundsNow_34 : decode cX5_roundsNow 34 = .ok (.aload_n 0, 1) := by decide +kernel
theorem dX5_roundsNow_35 : decode cX5_roundsNow 35 = .ok (.aload_n 0, 1) := by decide +kernel
theorem dX5_roundsNow_36 : decode cX5_roundsNow 36 = .ok (.getfield 113, 3) := by decide +kernel
theorem dX5_roundsNow_39 : decode cX5_roundsNow 39 = .ok (.invokevirtual 296, 3) := by decide +kernel
theorem dX5_roundsNow_42 : decode cX5_roundsNow 42 = .ok (.iaload, 1) := by decide +kernel
theorem dX5_roundsNow_43 : decode cX5_roundsNow 43 = .ok (.invokevirtual 179, 3) := by decide +kernel
theorem dX5_roundsNow_46 : decode cX5_roundsNow 46 = .ok (.pop, 1) := by decide +kernel
theorem dX5_roundsNow_47 : decode cX5_roundsNow 47 = .ok (.goto 23, 3) := by decide +kernel
theorem dX5_roundsNow_50 : decode cX5_roundsNow 50 = .ok (.aload_n 0, 1) := by decide +kernel
theorem dX5_roundsNow_51 : decode cX5_roundsNow 51 = .ok (.iconst 1, 1) := by decide +kernel
theorem dX5_roundsNow_52 : decode cX5_roundsNow 52 = .ok (.aload_n 0, 1) := by decide +kernel
theorem dX5_roundsNow_53 : decode cX5_roundsNow 53 = .ok (.getfield 116, 3) := by decide +kernel
theorem dX5_roundsNow_56 : decode cX5_roundsNow 56 = .ok (.ishl, 1) := by decide +kernel
theorem dX5_roundsNow_57 : decode cX5_roundsNow 57 = .ok (.iconst 1, 1) := by decide +kernel
theorem dX5_roundsNow_58 : decode cX5_roundsNow 58 = .ok (.isub, 1) := by decide +kernel
theorem dX5_roundsNow_59 : decode cX5_roundsNow 59 = .ok (.putfield 119, 3) := by decide +kernel
theorem dX5_roundsNow_62 : decode cX5_roundsNow 62 = .ok (.aload_n 0, 1) := by decide +kernel
theorem dX5_roundsNow_63 : decode cX5_roundsNow 63 = .ok (.iconst 0, 1) := by decide +kernel
theorem dX5_roundsNow_64 : decode cX5_roundsNow 64 = .ok (.putfield 122, 3) := by decide +kernel
theorem dX5_roundsNow_67 : decode cX5_roundsNow 67 = .ok (.iinc 4 1, 3) := by decide +kernel
theorem dX5_roundsNow_70 : decode cX5_roundsNow 70 = .ok (.iinc 5 1, 3) := by decide +kernel
theorem dX5_roundsNow_73 : decode cX5_roundsNow 73 = .ok (.goto (-57), 3) := by decide +kernel
theorem dX5_roundsNow_76 : decode cX5_roundsNow 76 = .ok (.iload_n 3, 1) := by decide +kernel
theorem dX5_roundsNow_77 : decode cX5_roundsNow 77 = .ok (.ifCond .ne 8, 3) := by decide +kernel
theorem dX5_roundsNow_80 : decode cX5_roundsNow 80 = .ok (.iload 4, 2) := by decide +kernel
theorem dX5_roundsNow_82 : decode cX5_roundsNow 82 = .ok (.goto 20, 3) := by decide +kernel
theorem dX5_roundsNow_85 : decode cX5_roundsNow 85 = .ok (.iload_n 3, 1) := by decide +kernel
theorem dX5_roundsNow_86 : decode cX5_roundsNow 86 = .ok (.iconst 1, 1) := by decide +kernel
theorem dX5_roundsNow_87 : decode cX5_roundsNow 87 = .ok (.if_icmp .ne 10, 3) := by decide +kernel
theorem dX5_roundsNow_90 : decode cX5_roundsNow 90 = .ok (.aload_n 0, 1) := by decide +kernel
theorem dX5_roundsNow_91 : decode cX5_roundsNow 91 = .ok (.getfield 125, 3) := by decide +kernel
theorem dX5_roundsNow_94 : decode cX5_roundsNow 94 = .ok (.goto 8, 3) := by decide +kernel
theorem dX5_roundsNow_97 : decode cX5_roundsNow 97 = .ok (.aload_n 0, 1) := by decide +kernel
theorem dX5_roundsNow_98 : decode cX5_roundsNow 98 = .ok (.getfield 286, 3) := by decide +kernel
theorem dX5_roundsNow_101 : decode cX5_roundsNow 101 = .ok (.l2i, 1) := by decide +kernel
theorem dX5_roundsNow_102 : decode cX5_roundsNow 102 = .ok (.istore 5, 2) := by decide +kernel
theorem dX5_roundsNow_104 : decode cX5_roundsNow 104 = .ok (.aload_n 0, 1) := by decide +kernel
theorem dX5_roundsNow_105 : decode cX5_roundsNow 105 = .ok (.invokevirtual 188, 3) := by decide +kernel
theorem dX5_roundsNow_108 : decode cX5_roundsNow 108 = .ok (.iload 5, 2) := by decide +kernel
theorem dX5_roundsNow_110 : decode cX5_roundsNow 110 = .ok (.ireturn, 1) := by decide +kernel
theorem dX5_rounds_0 : decode cX5_rounds 0 = .ok (.iload_n 1, 1) := by decide +kernel
theorem dX5_rounds_1 : decode cX5_rounds 1 = .ok (.iconst 1, 1) := by decide +kernel
theorem dX5_rounds_2 : decode cX5_rounds 2 = .ok (.bipush 60, 2) := by decide +kernel
theorem dX5_rounds_4 : decode cX5_rounds 4 = .ok (.invokestatic 77, 3) := by decide +kernel
theorem dX5_rounds_7 : decode cX5_rounds 7 = .ok (.ifCond .eq 16, 3) := by decide +kernel
theorem dX5_rounds_10 : decode cX5_rounds 10 = .ok (.iload_n 2, 1) := by decide +kernel
theorem dX5_rounds_11 : decode cX5_rounds 11 = .ok (.ifCond .lt 12, 3) := by decide +kernel
theorem dX5_rounds_14 : decode cX5_rounds 14 = .ok (.iload_n 3, 1) := by decide +kernel
theorem dX5_rounds_15 : decode cX5_rounds 15 = .ok (.iconst 0, 1) := by decide +kernel
theorem dX5_rounds_16 : decode cX5_rounds 16 = .ok (.iconst 2, 1) := by decide +kernel
theorem dX5_rounds_17 : decode cX5_rounds 17 = .ok (.invokestatic 77, 3) := by decide +kernel
theorem dX5_rounds_20 : decode cX5_rounds 20 = .ok (.ifCond .ne 6, 3) := by decide +kernel
theorem dX5_rounds_23 : decode cX5_rounds 23 = .ok (.bipush (-102), 2) := by decide +kernel
theorem dX5_rounds_25 : decode cX5_rounds 25 = .ok (.ireturn, 1) := by decide +kernel
theorem dX5_rounds_26 : decode cX5_rounds 26 = .ok (.aload_n 0, 1) := by decide +kernel
theorem dX5_rounds_27 : decode cX5_rounds 27 = .ok (.getfield 116, 3) := by decide +kernel
theorem dX5_rounds_30 : decode cX5_rounds 30 = .ok (.ifCond .ne 8, 3) := by decide +kernel
theorem dX5_rounds_33 : decode cX5_rounds 33 = .ok (.bipush (-103), 2) := by decide +kernel
theorem dX5_rounds_35 : decode cX5_rounds 35 = .ok (.goto 10, 3) := by decide +kernel
theorem dX5_rounds_38 : decode cX5_rounds 38 = .ok (.aload_n 0, 1) := by decide +kernel
theorem dX5_rounds_39 : decode cX5_rounds 39 = .ok (.iload_n 1, 1) := by decide +kernel
theorem dX5_rounds_40 : decode cX5_rounds 40 = .ok (.iload_n 2, 1) := by decide +kernel
theorem dX5_rounds_41 : decode cX5_rounds 41 = .ok (.iload_n 3, 1) := by decide +kernel
theorem dX5_rounds_42 : decode cX5_rounds 42 = .ok (.invokevirtual 299, 3) := by decide +kernel
theorem dX5_rounds_45 : decode cX5_rounds 45 = .ok (.ireturn, 1) := by decide +kernel
theorem dX5_image_0 : decode cX5_image 0 = .ok (.aload_n 0, 1) := by decide +kernel
theorem dX5_image_1 : decode cX5_image 1 = .ok (.getfield 116, 3) := by decide +kernel
theorem dX5_image_4 : decode cX5_image 4 = .ok (.ifCond .ne 6, 3) := by decide +kernel
theorem dX5_image_7 : decode cX5_image 7 = .ok (.bipush (-103), 2) := by decide +kernel
theorem dX5_image_9 : decode cX5_image 9 = .ok (.ireturn, 1) := by decide +kernel
theorem dX5_image_10 : decode cX5_image 10 = .ok (.aload_n 0, 1) := by decide +kernel
theorem dX5_image_11 : decode cX5_image 11 = .ok (.iconst 1, 1) := by decide +kernel
theorem dX5_image_12 : decode cX5_image 12 = .ok (.putfield 302, 3) := by decide +kernel
theorem dX5_image_15 : decode cX5_image 15 = .ok (.aload_n 0, 1) := by decide +kernel
theorem dX5_image_16 : decode cX5_image 16 = .ok (.aload_n 0, 1) := by decide +kernel
theorem dX5_image_17 : decode cX5_image 17 = .ok (.getfield 134, 3) := by decide +kernel
theorem dX5_image_20 : decode cX5_image 20 = .ok (.putfield 305, 3) := by decide +kernel
theorem dX5_image_23 : decode cX5_image 23 = .ok (.aload_n 0, 1) := by decide +kernel
theorem dX5_image_24 : decode cX5_image 24 = .ok (.aload_n 0, 1) := by decide +kernel
theorem dX5_image_25 : decode cX5_image 25 = .ok (.getfield 119, 3) := by decide +kernel
theorem dX5_image_28 : decode cX5_image 28 = .ok (.putfield 308, 3) := by decide +kernel
theorem dX5_image_31 : decode cX5_image 31 = .ok (.aload_n 0, 1) := by decide +kernel
theorem dX5_image_32 : decode cX5_image 32 = .ok (.aload_n 0, 1) := by decide +kernel
theorem dX5_image_33 : decode cX5_image 33 = .ok (.getfield 122, 3) := by decide +kernel
theorem dX5_image_36 : decode cX5_image 36 = .ok (.putfield 311, 3) := by decide +kernel
theorem dX5_image_39 : decode cX5_image 39 = .ok (.aload_n 0, 1) := by decide +kernel
theorem dX5_image_40 : decode cX5_image 40 = .ok (.aload_n 0, 1) := by decide +kernel
theorem dX5_image_41 : decode cX5_image 41 = .ok (.getfield 125, 3) := by decide +kernel
theorem dX5_image_44 : decode cX5_image 44 = .ok (.putfield 314, 3) := by decide +kernel
theorem dX5_image_47 : decode cX5_image 47 = .ok (.aload_n 0, 1) := by decide +kernel
theorem dX5_image_48 : decode cX5_image 48 = .ok (.aload_n 0, 1) := by decide +kernel
theorem dX5_image_49 : decode cX5_image 49 = .ok (.getfield 128, 3) := by decide +kernel
theorem dX5_image_52 : decode cX5_image 52 = .ok (.putfield 317, 3) := by decide +kernel
theorem dX5_image_55 : decode cX5_image 55 = .ok (.aload_n 0, 1) := by decide +kernel
theorem dX5_image_56 : decode cX5_image 56 = .ok (.aload_n 0, 1) := by decide +kernel
theorem dX5_image_57 : decode cX5_image 57 = .ok (.getfield 131, 3) := by decide +kernel
theorem dX5_image_60 : decode cX5_image 60 = .ok (.putfield 320, 3) := by decide +kernel
theorem dX5_image_63 : decode cX5_image 63 = .ok (.aload_n 0, 1) := by decide +kernel
theorem dX5_image_64 : decode cX5_image 64 = .ok (.aload_n 0, 1) := by decide +kernel
theorem dX5_image_65 : decode cX5_image 65 = .ok (.getfield 137, 3) := by decide +kernel
theorem dX5_image_68 : decode cX5_image 68 = .ok (.putfield 323, 3) := by decide +kernel
theorem dX5_image_71 : decode cX5_image 71 = .ok (.iconst 0, 1) := by decide +kernel
theorem dX5_image_72 : decode cX5_image 72 = .ok (.istore_n 1, 1) := by decide +kernel
theorem dX5_image_73 : decode cX5_image 73 = .ok (.iload_n 1, 1) := by decide +kernel
theorem dX5_image_74 : decode cX5_image 74 = .ok (.bipush 8, 2) := by decide +kernel
theorem dX5_image_76 : decode cX5_image 76 = .ok (.if_icmp .ge 21, 3) := by decide +kernel
theorem dX5_image_79 : decode cX5_image 79 = .ok (.aload_n 0, 1) := by decide +kernel
theorem dX5_image_80 : decode cX5_image 80 = .ok (.getfield 65, 3) := by decide +kernel
theorem dX5_image_83 : decode cX5_image 83 = .ok (.iload_n 1, 1) := by decide +kernel
theorem dX5_image_84 : decode cX5_image 84 = .ok (.aload_n 0, 1) := by decide +kernel
theorem dX5_image_85 : decode cX5_image 85 = .ok (.getfield 13, 3) := by decide +kernel
theorem dX5_image_88 : decode cX5_image 88 = .ok (.iload_n 1, 1) := by decide +kernel
theorem dX5_image_89 : decode cX5_image 89 = .ok (.iaload, 1) := by decide +kernel
theorem dX5_image_90 : decode cX5_image 90 = .ok (.iastore, 1) := by decide +kernel
theorem dX5_image_91 : decode cX5_image 91 = .ok (.iinc 1 1, 3) := by decide +kernel
theorem dX5_image_94 : decode cX5_image 94 = .ok (.goto (-21), 3) := by decide +kernel
theorem dX5_image_97 : decode cX5_image 97 = .ok (.iconst 0, 1) := by decide +kernel
theorem dX5_image_98 : decode cX5_image 98 = .ok (.istore_n 1, 1) := by decide +kernel
theorem dX5_image_99 : decode cX5_image 99 = .ok (.iload_n 1, 1) := by decide +kernel
theorem dX5_image_100 : decode cX5_image 100 = .ok (.iconst 3, 1) := by decide +kernel
theorem dX5_image_101 : decode cX5_image 101 = .ok (.if_icmp .ge 21, 3) := by decide +kernel
theorem dX5_image_104 : decode cX5_image 104 = .ok (.aload_n 0, 1) := by decide +kernel
theorem dX5_image_105 : decode cX5_image 105 = .ok (.getfield 68, 3) := by decide +kernel
theorem dX5_image_108 : decode cX5_image 108 = .ok (.iload_n 1, 1) := by decide +kernel
theorem dX5_image_109 : decode cX5_image 109 = .ok (.aload_n 0, 1) := by decide +kernel
theorem dX5_image_110 : decode cX5_image 110 = .ok (.getfield 7, 3) := by decide +kernel
theorem dX5_image_113 : decode cX5_image 113 = .ok (.iload_n 1, 1) := by decide +kernel
theorem dX5_image_114 : decode cX5_image 114 = .ok (.iaload, 1) := by decide +kernel
theorem dX5_image_115 : decode cX5_image 115 = .ok (.iastore, 1) := by decide +kernel
theorem dX5_image_116 : decode cX5_image 116 = .ok (.iinc 1 1, 3) := by decide +kernel
theorem dX5_image_119 : decode cX5_image 119 = .ok (.goto (-20), 3) := by decide +kernel
theorem dX5_image_122 : decode cX5_image 122 = .ok (.iconst 0, 1) := by decide +kernel
theorem dX5_image_123 : decode cX5_image 123 = .ok (.istore_n 1, 1) := by decide +kernel
theorem dX5_image_124 : decode cX5_image 124 = .ok (.iload_n 1, 1) := by decide +kernel
theorem dX5_image_125 : decode cX5_image 125 = .ok (.bipush 6, 2) := by decide +kernel
theorem dX5_image_127 : decode cX5_image 127 = .ok (.if_icmp .ge 33, 3) := by decide +kernel
theorem dX5_image_130 : decode cX5_image 130 = .ok (.aload_n 0, 1) := by decide +kernel
theorem dX5_image_131 : decode cX5_image 131 = .ok (.getfield 71, 3) := by decide +kernel
theorem dX5_image_134 : decode cX5_image 134 = .ok (.iload_n 1, 1) := by decide +kernel
theorem dX5_image_135 : decode cX5_image 135 = .ok (.aload_n 0, 1) := by decide +kernel
theorem dX5_image_136 : decode cX5_image 136 = .ok (.getfield 16, 3) := by decide +kernel
theorem dX5_image_139 : decode cX5_image 139 = .ok (.iload_n 1, 1) := by decide +kernel
theorem dX5_image_140 : decode cX5_image 140 = .ok (.iaload, 1) := by decide +kernel
theorem dX5_image_141 : decode cX5_image 141 = .ok (.iastore, 1) := by decide +kernel
theorem dX5_image_142 : decode cX5_image 142 = .ok (.aload_n 0, 1) := by decide +kernel
theorem dX5_image_143 : decode cX5_image 143 = .ok (.getfield 74, 3) := by decide +kernel
theorem dX5_image_146 : decode cX5_image 146 = .ok (.iload_n 1, 1) := by decide +kernel
theorem dX5_image_147 : decode cX5_image 147 = .ok (.aload_n 0, 1) := by decide +kernel
theorem dX5_image_148 : decode cX5_image 148 = .ok (.getfield 19, 3) := by decide +kernel
theorem dX5_image_151 : decode cX5_image 151 = .ok (.iload_n 1, 1) := by decide +kernel
theorem dX5_image_152 : decode cX5_image 152 = .ok (.iaload, 1) := by decide +kernel
theorem dX5_image_153 : decode cX5_image 153 = .ok (.iastore, 1) := by decide +kernel
theorem dX5_image_154 : decode cX5_image 154 = .ok (.iinc 1 1, 3) := by decide +kernel
theorem dX5_image_157 : decode cX5_image 157 = .ok (.goto (-33), 3) := by decide +kernel
theorem dX5_image_160 : decode cX5_image 160 = .ok (.aload_n 0, 1) := by decide +kernel
theorem dX5_image_161 : decode cX5_image 161 = .ok (.getfield 131, 3) := by decide +kernel
theorem dX5_image_164 : decode cX5_image 164 = .ok (.ireturn, 1) := by decide +kernel
theorem dX5_restore_0 : decode cX5_restore 0 = .ok (.aload_n 0, 1) := by decide +kernel
theorem dX5_restore_1 : decode cX5_restore 1 = .ok (.getfield 302, 3) := by decide +kernel
theorem dX5_restore_4 : decode cX5_restore 4 = .ok (.ifCond .eq 14, 3) := by decide +kernel
theorem dX5_restore_7 : decode cX5_restore 7 = .ok (.aload_n 0, 1) := by decide +kernel
theorem dX5_restore_8 : decode cX5_restore 8 = .ok (.getfield 305, 3) := by decide +kernel
theorem dX5_restore_11 : decode cX5_restore 11 = .ok (.aload_n 0, 1) := by decide +kernel
theorem dX5_restore_12 : decode cX5_restore 12 = .ok (.getfield 134, 3) := by decide +kernel
theorem dX5_restore_15 : decode cX5_restore 15 = .ok (.if_icmp .eq 6, 3) := by decide +kernel
theorem dX5_restore_18 : decode cX5_restore 18 = .ok (.bipush (-103), 2) := by decide +kernel
theorem dX5_restore_20 : decode cX5_restore 20 = .ok (.ireturn, 1) := by decide +kernel
theorem dX5_restore_21 : decode cX5_restore 21 = .ok (.aload_n 0, 1) := by decide +kernel
theorem dX5_restore_22 : decode cX5_restore 22 = .ok (.aload_n 0, 1) := by decide +kernel
theorem dX5_restore_23 : decode cX5_restore 23 = .ok (.getfield 308, 3) := by decide +kernel
theorem dX5_restore_26 : decode cX5_restore 26 = .ok (.putfield 119, 3) := by decide +kernel
theorem dX5_restore_29 : decode cX5_restore 29 = .ok (.aload_n 0, 1) := by decide +kernel
theorem dX5_restore_30 : decode cX5_restore 30 = .ok (.aload_n 0, 1) := by decide +kernel
theorem dX5_restore_31 : decode cX5_restore 31 = .ok (.getfield 311, 3) := by decide +kernel
theorem dX5_restore_34 : decode cX5_restore 34 = .ok (.putfield 122, 3) := by decide +kernel
theorem dX5_restore_37 : decode cX5_restore 37 = .ok (.aload_n 0, 1) := by decide +kernel
theorem dX5_restore_38 : decode cX5_restore 38 = .ok (.aload_n 0, 1) := by decide +kernel
theorem dX5_restore_39 : decode cX5_restore 39 = .ok (.getfield 314, 3) := by decide +kernel
theorem dX5_restore_42 : decode cX5_restore 42 = .ok (.putfield 125, 3) := by decide +kernel
theorem dX5_restore_45 : decode cX5_restore 45 = .ok (.aload_n 0, 1) := by decide +kernel
theorem dX5_restore_46 : decode cX5_restore 46 = .ok (.aload_n 0, 1) := by decide +kernel
theorem dX5_restore_47 : decode cX5_restore 47 = .ok (.getfield 317, 3) := by decide +kernel
theorem dX5_restore_50 : decode cX5_restore 50 = .ok (.putfield 128, 3) := by decide +kernel
theorem dX5_restore_53 : decode cX5_restore 53 = .ok (.aload_n 0, 1) := by decide +kernel
theorem dX5_restore_54 : decode cX5_restore 54 = .ok (.aload_n 0, 1) := by decide +kernel
theorem dX5_restore_55 : decode cX5_restore 55 = .ok (.getfield 320, 3) := by decide +kernel
theorem dX5_restore_58 : decode cX5_restore 58 = .ok (.putfield 131, 3) := by decide +kernel
theorem dX5_restore_61 : decode cX5_restore 61 = .ok (.aload_n 0, 1) := by decide +kernel
theorem dX5_restore_62 : decode cX5_restore 62 = .ok (.aload_n 0, 1) := by decide +kernel
theorem dX5_restore_63 : decode cX5_restore 63 = .ok (.getfield 323, 3) := by decide +kernel
theorem dX5_restore_66 : decode cX5_restore 66 = .ok (.putfield 137, 3) := by decide +kernel
theorem dX5_restore_69 : decode cX5_restore 69 = .ok (.iconst 0, 1) := by decide +kernel
theorem dX5_restore_70 : decode cX5_restore 70 = .ok (.istore_n 1, 1) := by decide +kernel
theorem dX5_restore_71 : decode cX5_restore 71 = .ok (.iload_n 1, 1) := by decide +kernel
theorem dX5_restore_72 : decode cX5_restore 72 = .ok (.bipush 8, 2) := by decide +kernel
theorem dX5_restore_74 : decode cX5_restore 74 = .ok (.if_icmp .ge 21, 3) := by decide +kernel
theorem dX5_restore_77 : decode cX5_restore 77 = .ok (.aload_n 0, 1) := by decide +kernel
theorem dX5_restore_78 : decode cX5_restore 78 = .ok (.getfield 13, 3) := by decide +kernel
theorem dX5_restore_81 : decode cX5_restore 81 = .ok (.iload_n 1, 1) := by decide +kernel
theorem dX5_restore_82 : decode cX5_restore 82 = .ok (.aload_n 0, 1) := by decide +kernel
theorem dX5_restore_83 : decode cX5_restore 83 = .ok (.getfield 65, 3) := by decide +kernel
theorem dX5_restore_86 : decode cX5_restore 86 = .ok (.iload_n 1, 1) := by decide +kernel
theorem dX5_restore_87 : decode cX5_restore 87 = .ok (.iaload, 1) := by decide +kernel
theorem dX5_restore_88 : decode cX5_restore 88 = .ok (.iastore, 1) := by decide +kernel
theorem dX5_restore_89 : decode cX5_restore 89 = .ok (.iinc 1 1, 3) := by decide +kernel
theorem dX5_restore_92 : decode cX5_restore 92 = .ok (.goto (-21), 3) := by decide +kernel
theorem dX5_restore_95 : decode cX5_restore 95 = .ok (.iconst 0, 1) := by decide +kernel
theorem dX5_restore_96 : decode cX5_restore 96 = .ok (.istore_n 1, 1) := by decide +kernel
theorem dX5_restore_97 : decode cX5_restore 97 = .ok (.iload_n 1, 1) := by decide +kernel
theorem dX5_restore_98 : decode cX5_restore 98 = .ok (.iconst 3, 1) := by decide +kernel
theorem dX5_restore_99 : decode cX5_restore 99 = .ok (.if_icmp .ge 21, 3) := by decide +kernel
theorem dX5_restore_102 : decode cX5_restore 102 = .ok (.aload_n 0, 1) := by decide +kernel
theorem dX5_restore_103 : decode cX5_restore 103 = .ok (.getfield 7, 3) := by decide +kernel
theorem dX5_restore_106 : decode cX5_restore 106 = .ok (.iload_n 1, 1) := by decide +kernel
theorem dX5_restore_107 : decode cX5_restore 107 = .ok (.aload_n 0, 1) := by decide +kernel
theorem dX5_restore_108 : decode cX5_restore 108 = .ok (.getfield 68, 3) := by decide +kernel
theorem dX5_restore_111 : decode cX5_restore 111 = .ok (.iload_n 1, 1) := by decide +kernel
theorem dX5_restore_112 : decode cX5_restore 112 = .ok (.iaload, 1) := by decide +kernel
theorem dX5_restore_113 : decode cX5_restore 113 = .ok (.iastore, 1) := by decide +kernel
theorem dX5_restore_114 : decode cX5_restore 114 = .ok (.iinc 1 1, 3) := by decide +kernel
theorem dX5_restore_117 : decode cX5_restore 117 = .ok (.goto (-20), 3) := by decide +kernel
theorem dX5_restore_120 : decode cX5_restore 120 = .ok (.iconst 0, 1) := by decide +kernel
theorem dX5_restore_121 : decode cX5_restore 121 = .ok (.istore_n 1, 1) := by decide +kernel
theorem dX5_restore_122 : decode cX5_restore 122 = .ok (.iload_n 1, 1) := by decide +kernel
theorem dX5_restore_123 : decode cX5_restore 123 = .ok (.bipush 6, 2) := by decide +kernel
theorem dX5_restore_125 : decode cX5_restore 125 = .ok (.if_icmp .ge 33, 3) := by decide +kernel
theorem dX5_restore_128 : decode cX5_restore 128 = .ok (.aload_n 0, 1) := by decide +kernel
theorem dX5_restore_129 : decode cX5_restore 129 = .ok (.getfield 16, 3) := by decide +kernel
theorem dX5_restore_132 : decode cX5_restore 132 = .ok (.iload_n 1, 1) := by decide +kernel
theorem dX5_restore_133 : decode cX5_restore 133 = .ok (.aload_n 0, 1) := by decide +kernel
theorem dX5_restore_134 : decode cX5_restore 134 = .ok (.getfield 71, 3) := by decide +kernel
theorem dX5_restore_137 : decode cX5_restore 137 = .ok (.iload_n 1, 1) := by decide +kernel
theorem dX5_restore_138 : decode cX5_restore 138 = .ok (.iaload, 1) := by decide +kernel
theorem dX5_restore_139 : decode cX5_restore 139 = .ok (.iastore, 1) := by decide +kernel
theorem dX5_restore_140 : decode cX5_restore 140 = .ok (.aload_n 0, 1) := by decide +kernel
theorem dX5_restore_141 : decode cX5_restore 141 = .ok (.getfield 19, 3) := by decide +kernel
theorem dX5_restore_144 : decode cX5_restore 144 = .ok (.iload_n 1, 1) := by decide +kernel
theorem dX5_restore_145 : decode cX5_restore 145 = .ok (.aload_n 0, 1) := by decide +kernel
theorem dX5_restore_146 : decode cX5_restore 146 = .ok (.getfield 74, 3) := by decide +kernel
theorem dX5_restore_149 : decode cX5_restore 149 = .ok (.iload_n 1, 1) := by decide +kernel
theorem dX5_restore_150 : decode cX5_restore 150 = .ok (.iaload, 1) := by decide +kernel
theorem dX5_restore_151 : decode cX5_restore 151 = .ok (.iastore, 1) := by decide +kernel
theorem dX5_restore_152 : decode cX5_restore 152 = .ok (.iinc 1 1, 3) := by decide +kernel
theorem dX5_restore_155 : decode cX5_restore 155 = .ok (.goto (-33), 3) := by decide +kernel
theorem dX5_restore_158 : decode cX5_restore 158 = .ok (.aload_n 0, 1) := by decide +kernel
theorem dX5_restore_159 : decode cX5_restore 159 = .ok (.getfield 131, 3) := by decide +kernel
theorem dX5_restore_162 : decode cX5_restore 162 = .ok (.ireturn, 1) := by decide +kernel
theorem dX5_howMany_0 : decode cX5_howMany 0 = .ok (.iload_n 1, 1) := by decide +kernel
theorem dX5_howMany_1 : decode cX5_howMany 1 = .ok (.tableswitch 128 0 10 #[59, 64, 72, 77, 85, 90, 103, 108, 113, 118, 123], 59) := by decide +kernel
theorem dX5_howMany_60 : decode cX5_howMany 60 = .ok (.aload_n 0, 1) := by decide +kernel
theorem dX5_howMany_61 : decode cX5_howMany 61 = .ok (.getfield 116, 3) := by decide +kernel
theorem dX5_howMany_64 : decode cX5_howMany 64 = .ok (.ireturn, 1) := by decide +kernel
theorem dX5_howMany_65 : decode cX5_howMany 65 = .ok (.aload_n 0, 1) := by decide +kernel
theorem dX5_howMany_66 : decode cX5_howMany 66 = .ok (.getfield 119, 3) := by decide +kernel
theorem dX5_howMany_69 : decode cX5_howMany 69 = .ok (.invokestatic 146, 3) := by decide +kernel
theorem dX5_howMany_72 : decode cX5_howMany 72 = .ok (.ireturn, 1) := by decide +kernel
theorem dX5_howMany_73 : decode cX5_howMany 73 = .ok (.aload_n 0, 1) := by decide +kernel
theorem dX5_howMany_74 : decode cX5_howMany 74 = .ok (.getfield 113, 3) := by decide +kernel
theorem dX5_howMany_77 : decode cX5_howMany 77 = .ok (.ireturn, 1) := by decide +kernel
theorem dX5_howMany_78 : decode cX5_howMany 78 = .ok (.aload_n 0, 1) := by decide +kernel
theorem dX5_howMany_79 : decode cX5_howMany 79 = .ok (.getfield 122, 3) := by decide +kernel
theorem dX5_howMany_82 : decode cX5_howMany 82 = .ok (.invokestatic 146, 3) := by decide +kernel
theorem dX5_howMany_85 : decode cX5_howMany 85 = .ok (.ireturn, 1) := by decide +kernel
theorem dX5_howMany_86 : decode cX5_howMany 86 = .ok (.aload_n 0, 1) := by decide +kernel
theorem dX5_howMany_87 : decode cX5_howMany 87 = .ok (.getfield 125, 3) := by decide +kernel
theorem dX5_howMany_90 : decode cX5_howMany 90 = .ok (.ireturn, 1) := by decide +kernel
theorem dX5_howMany_91 : decode cX5_howMany 91 = .ok (.aload_n 0, 1) := by decide +kernel
theorem dX5_howMany_92 : decode cX5_howMany 92 = .ok (.getfield 128, 3) := by decide +kernel
theorem dX5_howMany_95 : decode cX5_howMany 95 = .ok (.ifCond .eq 7, 3) := by decide +kernel
theorem dX5_howMany_98 : decode cX5_howMany 98 = .ok (.iconst 1, 1) := by decide +kernel
theorem dX5_howMany_99 : decode cX5_howMany 99 = .ok (.goto 4, 3) := by decide +kernel
theorem dX5_howMany_102 : decode cX5_howMany 102 = .ok (.iconst 0, 1) := by decide +kernel
theorem dX5_howMany_103 : decode cX5_howMany 103 = .ok (.ireturn, 1) := by decide +kernel
theorem dX5_howMany_104 : decode cX5_howMany 104 = .ok (.aload_n 0, 1) := by decide +kernel
theorem dX5_howMany_105 : decode cX5_howMany 105 = .ok (.getfield 131, 3) := by decide +kernel
theorem dX5_howMany_108 : decode cX5_howMany 108 = .ok (.ireturn, 1) := by decide +kernel
theorem dX5_howMany_109 : decode cX5_howMany 109 = .ok (.aload_n 0, 1) := by decide +kernel
theorem dX5_howMany_110 : decode cX5_howMany 110 = .ok (.invokevirtual 149, 3) := by decide +kernel
theorem dX5_howMany_113 : decode cX5_howMany 113 = .ok (.ireturn, 1) := by decide +kernel
theorem dX5_howMany_114 : decode cX5_howMany 114 = .ok (.aload_n 0, 1) := by decide +kernel
theorem dX5_howMany_115 : decode cX5_howMany 115 = .ok (.getfield 137, 3) := by decide +kernel
theorem dX5_howMany_118 : decode cX5_howMany 118 = .ok (.ireturn, 1) := by decide +kernel
theorem dX5_howMany_119 : decode cX5_howMany 119 = .ok (.aload_n 0, 1) := by decide +kernel
theorem dX5_howMany_120 : decode cX5_howMany 120 = .ok (.getfield 81, 3) := by decide +kernel
theorem dX5_howMany_123 : decode cX5_howMany 123 = .ok (.ireturn, 1) := by decide +kernel
theorem dX5_howMany_124 : decode cX5_howMany 124 = .ok (.aload_n 0, 1) := by decide +kernel
theorem dX5_howMany_125 : decode cX5_howMany 125 = .ok (.getfield 134, 3) := by decide +kernel
theorem dX5_howMany_128 : decode cX5_howMany 128 = .ok (.ireturn, 1) := by decide +kernel
theorem dX5_howMany_129 : decode cX5_howMany 129 = .ok (.bipush (-102), 2) := by decide +kernel
theorem dX5_howMany_131 : decode cX5_howMany 131 = .ok (.ireturn, 1) := by decide +kernel
theorem dX5_count_0 : decode cX5_count 0 = .ok (.aload_n 0, 1) := by decide +kernel
theorem dX5_count_1 : decode cX5_count 1 = .ok (.iload_n 1, 1) := by decide +kernel
theorem dX5_count_2 : decode cX5_count 2 = .ok (.invokevirtual 326, 3) := by decide +kernel
theorem dX5_count_5 : decode cX5_count 5 = .ok (.ireturn, 1) := by decide +kernel
theorem dX5_mix_0 : decode cX5_mix 0 = .ok (.aload_n 0, 1) := by decide +kernel
theorem dX5_mix_1 : decode cX5_mix 1 = .ok (.ldc2_w 329, 3) := by decide +kernel
theorem dX5_mix_4 : decode cX5_mix 4 = .ok (.aload_n 0, 1) := by decide +kernel
theorem dX5_mix_5 : decode cX5_mix 5 = .ok (.getfield 331, 3) := by decide +kernel
theorem dX5_mix_8 : decode cX5_mix 8 = .ok (.lmul, 1) := by decide +kernel
theorem dX5_mix_9 : decode cX5_mix 9 = .ok (.lload_n 1, 1) := by decide +kernel
theorem dX5_mix_10 : decode cX5_mix 10 = .ok (.ladd, 1) := by decide +kernel
theorem dX5_mix_11 : decode cX5_mix 11 = .ok (.putfield 331, 3) := by decide +kernel
theorem dX5_mix_14 : decode cX5_mix 14 = .ok (.return_, 1) := by decide +kernel
theorem dX5_mixRing_0 : decode cX5_mixRing 0 = .ok (.aload_n 0, 1) := by decide +kernel
theorem dX5_mixRing_1 : decode cX5_mixRing 1 = .ok (.aload_n 0, 1) := by decide +kernel
theorem dX5_mixRing_2 : decode cX5_mixRing 2 = .ok (.iconst 3, 1) := by decide +kernel
theorem dX5_mixRing_3 : decode cX5_mixRing 3 = .ok (.invokevirtual 191, 3) := by decide +kernel
theorem dX5_mixRing_6 : decode cX5_mixRing 6 = .ok (.i2l, 1) := by decide +kernel
theorem dX5_mixRing_7 : decode cX5_mixRing 7 = .ok (.invokevirtual 334, 3) := by decide +kernel
theorem dX5_mixRing_10 : decode cX5_mixRing 10 = .ok (.aload_n 0, 1) := by decide +kernel
theorem dX5_mixRing_11 : decode cX5_mixRing 11 = .ok (.aload_n 0, 1) := by decide +kernel
theorem dX5_mixRing_12 : decode cX5_mixRing 12 = .ok (.iconst 0, 1) := by decide +kernel
theorem dX5_mixRing_13 : decode cX5_mixRing 13 = .ok (.iconst 5, 1) := by decide +kernel
theorem dX5_mixRing_14 : decode cX5_mixRing 14 = .ok (.invokevirtual 222, 3) := by decide +kernel
theorem dX5_mixRing_17 : decode cX5_mixRing 17 = .ok (.i2l, 1) := by decide +kernel
theorem dX5_mixRing_18 : decode cX5_mixRing 18 = .ok (.invokevirtual 334, 3) := by decide +kernel
theorem dX5_mixRing_21 : decode cX5_mixRing 21 = .ok (.aload_n 0, 1) := by decide +kernel
theorem dX5_mixRing_22 : decode cX5_mixRing 22 = .ok (.aload_n 0, 1) := by decide +kernel
theorem dX5_mixRing_23 : decode cX5_mixRing 23 = .ok (.invokevirtual 274, 3) := by decide +kernel
theorem dX5_mixRing_26 : decode cX5_mixRing 26 = .ok (.i2l, 1) := by decide +kernel
theorem dX5_mixRing_27 : decode cX5_mixRing 27 = .ok (.invokevirtual 334, 3) := by decide +kernel
theorem dX5_mixRing_30 : decode cX5_mixRing 30 = .ok (.aload_n 0, 1) := by decide +kernel
theorem dX5_mixRing_31 : decode cX5_mixRing 31 = .ok (.aload_n 0, 1) := by decide +kernel
theorem dX5_mixRing_32 : decode cX5_mixRing 32 = .ok (.invokevirtual 281, 3) := by decide +kernel
theorem dX5_mixRing_35 : decode cX5_mixRing 35 = .ok (.i2l, 1) := by decide +kernel
theorem dX5_mixRing_36 : decode cX5_mixRing 36 = .ok (.invokevirtual 334, 3) := by decide +kernel
theorem dX5_mixRing_39 : decode cX5_mixRing 39 = .ok (.aload_n 0, 1) := by decide +kernel
theorem dX5_mixRing_40 : decode cX5_mixRing 40 = .ok (.getfield 119, 3) := by decide +kernel
theorem dX5_mixRing_43 : decode cX5_mixRing 43 = .ok (.iconst 0, 1) := by decide +kernel
theorem dX5_mixRing_44 : decode cX5_mixRing 44 = .ok (.invokestatic 140, 3) := by decide +kernel
theorem dX5_mixRing_47 : decode cX5_mixRing 47 = .ok (.ifCond .eq 38, 3) := by decide +kernel
theorem dX5_mixRing_50 : decode cX5_mixRing 50 = .ok (.aload_n 0, 1) := by decide +kernel
theorem dX5_mixRing_51 : decode cX5_mixRing 51 = .ok (.getfield 119, 3) := by decide +kernel
theorem dX5_mixRing_54 : decode cX5_mixRing 54 = .ok (.iconst 1, 1) := by decide +kernel
theorem dX5_mixRing_55 : decode cX5_mixRing 55 = .ok (.invokestatic 140, 3) := by decide +kernel
theorem dX5_mixRing_58 : decode cX5_mixRing 58 = .ok (.ifCond .eq 27, 3) := by decide +kernel
theorem dX5_mixRing_61 : decode cX5_mixRing 61 = .ok (.aload_n 0, 1) := by decide +kernel
theorem dX5_mixRing_62 : decode cX5_mixRing 62 = .ok (.aload_n 0, 1) := by decide +kernel
theorem dX5_mixRing_63 : decode cX5_mixRing 63 = .ok (.iconst 0, 1) := by decide +kernel
theorem dX5_mixRing_64 : decode cX5_mixRing 64 = .ok (.iconst 1, 1) := by decide +kernel
theorem dX5_mixRing_65 : decode cX5_mixRing 65 = .ok (.iconst 0, 1) := by decide +kernel
theorem dX5_mixRing_66 : decode cX5_mixRing 66 = .ok (.invokevirtual 239, 3) := by decide +kernel
theorem dX5_mixRing_69 : decode cX5_mixRing 69 = .ok (.i2l, 1) := by decide +kernel
theorem dX5_mixRing_70 : decode cX5_mixRing 70 = .ok (.invokevirtual 334, 3) := by decide +kernel
theorem dX5_mixRing_73 : decode cX5_mixRing 73 = .ok (.aload_n 0, 1) := by decide +kernel
theorem dX5_mixRing_74 : decode cX5_mixRing 74 = .ok (.aload_n 0, 1) := by decide +kernel
theorem dX5_mixRing_75 : decode cX5_mixRing 75 = .ok (.iconst 0, 1) := by decide +kernel
theorem dX5_mixRing_76 : decode cX5_mixRing 76 = .ok (.iconst 1, 1) := by decide +kernel
theorem dX5_mixRing_77 : decode cX5_mixRing 77 = .ok (.iconst 1, 1) := by decide +kernel
theorem dX5_mixRing_78 : decode cX5_mixRing 78 = .ok (.invokevirtual 239, 3) := by decide +kernel
theorem dX5_mixRing_81 : decode cX5_mixRing 81 = .ok (.i2l, 1) := by decide +kernel
theorem dX5_mixRing_82 : decode cX5_mixRing 82 = .ok (.invokevirtual 334, 3) := by decide +kernel
theorem dX5_mixRing_85 : decode cX5_mixRing 85 = .ok (.aload_n 0, 1) := by decide +kernel
theorem dX5_mixRing_86 : decode cX5_mixRing 86 = .ok (.invokevirtual 268, 3) := by decide +kernel
theorem dX5_mixRing_89 : decode cX5_mixRing 89 = .ok (.iconst 0, 1) := by decide +kernel
theorem dX5_mixRing_90 : decode cX5_mixRing 90 = .ok (.istore_n 1, 1) := by decide +kernel
theorem dX5_mixRing_91 : decode cX5_mixRing 91 = .ok (.iload_n 1, 1) := by decide +kernel
theorem dX5_mixRing_92 : decode cX5_mixRing 92 = .ok (.aload_n 0, 1) := by decide +kernel
theorem dX5_mixRing_93 : decode cX5_mixRing 93 = .ok (.getfield 116, 3) := by decide +kernel
theorem dX5_mixRing_96 : decode cX5_mixRing 96 = .ok (.if_icmp .ge 42, 3) := by decide +kernel
theorem dX5_mixRing_99 : decode cX5_mixRing 99 = .ok (.aload_n 0, 1) := by decide +kernel
theorem dX5_mixRing_100 : decode cX5_mixRing 100 = .ok (.getfield 119, 3) := by decide +kernel
theorem dX5_mixRing_103 : decode cX5_mixRing 103 = .ok (.iload_n 1, 1) := by decide +kernel
theorem dX5_mixRing_104 : decode cX5_mixRing 104 = .ok (.invokestatic 140, 3) := by decide +kernel
theorem dX5_mixRing_107 : decode cX5_mixRing 107 = .ok (.ifCond .eq 25, 3) := by decide +kernel
theorem dX5_mixRing_110 : decode cX5_mixRing 110 = .ok (.aload_n 0, 1) := by decide +kernel
theorem dX5_mixRing_111 : decode cX5_mixRing 111 = .ok (.aload_n 0, 1) := by decide +kernel
theorem dX5_mixRing_112 : decode cX5_mixRing 112 = .ok (.iload_n 1, 1) := by decide +kernel
theorem dX5_mixRing_113 : decode cX5_mixRing 113 = .ok (.iconst 0, 1) := by decide +kernel
theorem dX5_mixRing_114 : decode cX5_mixRing 114 = .ok (.invokevirtual 271, 3) := by decide +kernel
theorem dX5_mixRing_117 : decode cX5_mixRing 117 = .ok (.i2l, 1) := by decide +kernel
theorem dX5_mixRing_118 : decode cX5_mixRing 118 = .ok (.invokevirtual 334, 3) := by decide +kernel
theorem dX5_mixRing_121 : decode cX5_mixRing 121 = .ok (.aload_n 0, 1) := by decide +kernel
theorem dX5_mixRing_122 : decode cX5_mixRing 122 = .ok (.aload_n 0, 1) := by decide +kernel
theorem dX5_mixRing_123 : decode cX5_mixRing 123 = .ok (.iload_n 1, 1) := by decide +kernel
theorem dX5_mixRing_124 : decode cX5_mixRing 124 = .ok (.iconst 1, 1) := by decide +kernel
theorem dX5_mixRing_125 : decode cX5_mixRing 125 = .ok (.invokevirtual 271, 3) := by decide +kernel
theorem dX5_mixRing_128 : decode cX5_mixRing 128 = .ok (.i2l, 1) := by decide +kernel
theorem dX5_mixRing_129 : decode cX5_mixRing 129 = .ok (.invokevirtual 334, 3) := by decide +kernel
theorem dX5_mixRing_132 : decode cX5_mixRing 132 = .ok (.iinc 1 1, 3) := by decide +kernel
theorem dX5_mixRing_135 : decode cX5_mixRing 135 = .ok (.goto (-44), 3) := by decide +kernel
theorem dX5_mixRing_138 : decode cX5_mixRing 138 = .ok (.return_, 1) := by decide +kernel
theorem dX5_digest_0 : decode cX5_digest 0 = .ok (.aload_n 0, 1) := by decide +kernel
theorem dX5_digest_1 : decode cX5_digest 1 = .ok (.ldc2_w 338, 3) := by decide +kernel
theorem dX5_digest_4 : decode cX5_digest 4 = .ok (.putfield 331, 3) := by decide +kernel
theorem dX5_digest_7 : decode cX5_digest 7 = .ok (.iconst 0, 1) := by decide +kernel
theorem dX5_digest_8 : decode cX5_digest 8 = .ok (.istore_n 1, 1) := by decide +kernel
theorem dX5_digest_9 : decode cX5_digest 9 = .ok (.iload_n 1, 1) := by decide +kernel
theorem dX5_digest_10 : decode cX5_digest 10 = .ok (.aload_n 0, 1) := by decide +kernel
theorem dX5_digest_11 : decode cX5_digest 11 = .ok (.getfield 116, 3) := by decide +kernel
theorem dX5_digest_14 : decode cX5_digest 14 = .ok (.if_icmp .ge 46, 3) := by decide +kernel
theorem dX5_digest_17 : decode cX5_digest 17 = .ok (.iconst 0, 1) := by decide +kernel
theorem dX5_digest_18 : decode cX5_digest 18 = .ok (.istore_n 2, 1) := by decide +kernel
theorem dX5_digest_19 : decode cX5_digest 19 = .ok (.iload_n 2, 1) := by decide +kernel
theorem dX5_digest_20 : decode cX5_digest 20 = .ok (.bipush 6, 2) := by decide +kernel
theorem dX5_digest_22 : decode cX5_digest 22 = .ok (.if_icmp .ge 20, 3) := by decide +kernel
theorem dX5_digest_25 : decode cX5_digest 25 = .ok (.aload_n 0, 1) := by decide +kernel
theorem dX5_digest_26 : decode cX5_digest 26 = .ok (.aload_n 0, 1) := by decide +kernel
theorem dX5_digest_27 : decode cX5_digest 27 = .ok (.iload_n 1, 1) := by decide +kernel
theorem dX5_digest_28 : decode cX5_digest 28 = .ok (.iload_n 2, 1) := by decide +kernel
theorem dX5_digest_29 : decode cX5_digest 29 = .ok (.invokevirtual 200, 3) := by decide +kernel
theorem dX5_digest_32 : decode cX5_digest 32 = .ok (.i2l, 1) := by decide +kernel
theorem dX5_digest_33 : decode cX5_digest 33 = .ok (.invokevirtual 334, 3) := by decide +kernel
theorem dX5_digest_36 : decode cX5_digest 36 = .ok (.iinc 2 1, 3) := by decide +kernel
theorem dX5_digest_39 : decode cX5_digest 39 = .ok (.goto (-20), 3) := by decide +kernel
theorem dX5_digest_42 : decode cX5_digest 42 = .ok (.aload_n 0, 1) := by decide +kernel
theorem dX5_digest_43 : decode cX5_digest 43 = .ok (.aload_n 0, 1) := by decide +kernel
theorem dX5_digest_44 : decode cX5_digest 44 = .ok (.iload_n 1, 1) := by decide +kernel
theorem dX5_digest_45 : decode cX5_digest 45 = .ok (.bipush 7, 2) := by decide +kernel
theorem dX5_digest_47 : decode cX5_digest 47 = .ok (.invokevirtual 216, 3) := by decide +kernel
theorem dX5_digest_50 : decode cX5_digest 50 = .ok (.i2l, 1) := by decide +kernel
theorem dX5_digest_51 : decode cX5_digest 51 = .ok (.invokevirtual 334, 3) := by decide +kernel
theorem dX5_digest_54 : decode cX5_digest 54 = .ok (.iinc 1 1, 3) := by decide +kernel
theorem dX5_digest_57 : decode cX5_digest 57 = .ok (.goto (-48), 3) := by decide +kernel
theorem dX5_digest_60 : decode cX5_digest 60 = .ok (.iconst 0, 1) := by decide +kernel
theorem dX5_digest_61 : decode cX5_digest 61 = .ok (.istore_n 1, 1) := by decide +kernel
theorem dX5_digest_62 : decode cX5_digest 62 = .ok (.iload_n 1, 1) := by decide +kernel
theorem dX5_digest_63 : decode cX5_digest 63 = .ok (.aload_n 0, 1) := by decide +kernel
theorem dX5_digest_64 : decode cX5_digest 64 = .ok (.getfield 113, 3) := by decide +kernel
theorem dX5_digest_67 : decode cX5_digest 67 = .ok (.if_icmp .ge 33, 3) := by decide +kernel
theorem dX5_digest_70 : decode cX5_digest 70 = .ok (.iconst 0, 1) := by decide +kernel
theorem dX5_digest_71 : decode cX5_digest 71 = .ok (.istore_n 2, 1) := by decide +kernel
theorem dX5_digest_72 : decode cX5_digest 72 = .ok (.iload_n 2, 1) := by decide +kernel
theorem dX5_digest_73 : decode cX5_digest 73 = .ok (.iconst 3, 1) := by decide +kernel
theorem dX5_digest_74 : decode cX5_digest 74 = .ok (.if_icmp .ge 20, 3) := by decide +kernel
theorem dX5_digest_77 : decode cX5_digest 77 = .ok (.aload_n 0, 1) := by decide +kernel
theorem dX5_digest_78 : decode cX5_digest 78 = .ok (.aload_n 0, 1) := by decide +kernel
theorem dX5_digest_79 : decode cX5_digest 79 = .ok (.iload_n 1, 1) := by decide +kernel
theorem dX5_digest_80 : decode cX5_digest 80 = .ok (.iload_n 2, 1) := by decide +kernel
theorem dX5_digest_81 : decode cX5_digest 81 = .ok (.invokevirtual 210, 3) := by decide +kernel
theorem dX5_digest_84 : decode cX5_digest 84 = .ok (.i2l, 1) := by decide +kernel
theorem dX5_digest_85 : decode cX5_digest 85 = .ok (.invokevirtual 334, 3) := by decide +kernel
theorem dX5_digest_88 : decode cX5_digest 88 = .ok (.iinc 2 1, 3) := by decide +kernel
theorem dX5_digest_91 : decode cX5_digest 91 = .ok (.goto (-19), 3) := by decide +kernel
theorem dX5_digest_94 : decode cX5_digest 94 = .ok (.iinc 1 1, 3) := by decide +kernel
theorem dX5_digest_97 : decode cX5_digest 97 = .ok (.goto (-35), 3) := by decide +kernel
theorem dX5_digest_100 : decode cX5_digest 100 = .ok (.aload_n 0, 1) := by decide +kernel
theorem dX5_digest_101 : decode cX5_digest 101 = .ok (.getfield 116, 3) := by decide +kernel
theorem dX5_digest_104 : decode cX5_digest 104 = .ok (.ifCond .le 7, 3) := by decide +kernel
theorem dX5_digest_107 : decode cX5_digest 107 = .ok (.aload_n 0, 1) := by decide +kernel
theorem dX5_digest_108 : decode cX5_digest 108 = .ok (.invokevirtual 340, 3) := by decide +kernel
theorem dX5_digest_111 : decode cX5_digest 111 = .ok (.iconst 0, 1) := by decide +kernel
theorem dX5_digest_112 : decode cX5_digest 112 = .ok (.istore_n 1, 1) := by decide +kernel
theorem dX5_digest_113 : decode cX5_digest 113 = .ok (.iload_n 1, 1) := by decide +kernel
theorem dX5_digest_114 : decode cX5_digest 114 = .ok (.aload_n 0, 1) := by decide +kernel
theorem dX5_digest_115 : decode cX5_digest 115 = .ok (.getfield 81, 3) := by decide +kernel
theorem dX5_digest_118 : decode cX5_digest 118 = .ok (.if_icmp .ge 20, 3) := by decide +kernel
theorem dX5_digest_121 : decode cX5_digest 121 = .ok (.aload_n 0, 1) := by decide +kernel
theorem dX5_digest_122 : decode cX5_digest 122 = .ok (.aload_n 0, 1) := by decide +kernel
theorem dX5_digest_123 : decode cX5_digest 123 = .ok (.getfield 22, 3) := by decide +kernel
theorem dX5_digest_126 : decode cX5_digest 126 = .ok (.iload_n 1, 1) := by decide +kernel
theorem dX5_digest_127 : decode cX5_digest 127 = .ok (.baload, 1) := by decide +kernel
theorem dX5_digest_128 : decode cX5_digest 128 = .ok (.i2l, 1) := by decide +kernel
theorem dX5_digest_129 : decode cX5_digest 129 = .ok (.invokevirtual 334, 3) := by decide +kernel
theorem dX5_digest_132 : decode cX5_digest 132 = .ok (.iinc 1 1, 3) := by decide +kernel
theorem dX5_digest_135 : decode cX5_digest 135 = .ok (.goto (-22), 3) := by decide +kernel
theorem dX5_digest_138 : decode cX5_digest 138 = .ok (.iconst 0, 1) := by decide +kernel
theorem dX5_digest_139 : decode cX5_digest 139 = .ok (.istore_n 1, 1) := by decide +kernel
theorem dX5_digest_140 : decode cX5_digest 140 = .ok (.iload_n 1, 1) := by decide +kernel
theorem dX5_digest_141 : decode cX5_digest 141 = .ok (.bipush 11, 2) := by decide +kernel
theorem dX5_digest_143 : decode cX5_digest 143 = .ok (.if_icmp .ge 19, 3) := by decide +kernel
theorem dX5_digest_146 : decode cX5_digest 146 = .ok (.aload_n 0, 1) := by decide +kernel
theorem dX5_digest_147 : decode cX5_digest 147 = .ok (.aload_n 0, 1) := by decide +kernel
theorem dX5_digest_148 : decode cX5_digest 148 = .ok (.iload_n 1, 1) := by decide +kernel
theorem dX5_digest_149 : decode cX5_digest 149 = .ok (.invokevirtual 326, 3) := by decide +kernel
theorem dX5_digest_152 : decode cX5_digest 152 = .ok (.i2l, 1) := by decide +kernel
theorem dX5_digest_153 : decode cX5_digest 153 = .ok (.invokevirtual 334, 3) := by decide +kernel
theorem dX5_digest_156 : decode cX5_digest 156 = .ok (.iinc 1 1, 3) := by decide +kernel
theorem dX5_digest_159 : decode cX5_digest 159 = .ok (.goto (-19), 3) := by decide +kernel
theorem dX5_digest_162 : decode cX5_digest 162 = .ok (.aload_n 0, 1) := by decide +kernel
theorem dX5_digest_163 : decode cX5_digest 163 = .ok (.getfield 331, 3) := by decide +kernel
theorem dX5_digest_166 : decode cX5_digest 166 = .ok (.lreturn, 1) := by decide +kernel
theorem dJ6_numberOfTrailingZeros_0f7a4_0 : decode cJ6_numberOfTrailingZeros_0f7a4 0 = .ok (.iload_n 0, 1) := by decide +kernel
theorem dJ6_numberOfTrailingZeros_0f7a4_1 : decode cJ6_numberOfTrailingZeros_0f7a4 1 = .ok (.iconst (-1), 1) := by decide +kernel
theorem dJ6_numberOfTrailingZeros_0f7a4_2 : decode cJ6_numberOfTrailingZeros_0f7a4 2 = .ok (.ixor, 1) := by decide +kernel
theorem dJ6_numberOfTrailingZeros_0f7a4_3 : decode cJ6_numberOfTrailingZeros_0f7a4 3 = .ok (.iload_n 0, 1) := by decide +kernel
theorem dJ6_numberOfTrailingZeros_0f7a4_4 : decode cJ6_numberOfTrailingZeros_0f7a4 4 = .ok (.iconst 1, 1) := by decide +kernel
theorem dJ6_numberOfTrailingZeros_0f7a4_5 : decode cJ6_numberOfTrailingZeros_0f7a4 5 = .ok (.isub, 1) := by decide +kernel
theorem dJ6_numberOfTrailingZeros_0f7a4_6 : decode cJ6_numberOfTrailingZeros_0f7a4 6 = .ok (.iand, 1) := by decide +kernel
theorem dJ6_numberOfTrailingZeros_0f7a4_7 : decode cJ6_numberOfTrailingZeros_0f7a4 7 = .ok (.istore_n 0, 1) := by decide +kernel
theorem dJ6_numberOfTrailingZeros_0f7a4_8 : decode cJ6_numberOfTrailingZeros_0f7a4 8 = .ok (.iload_n 0, 1) := by decide +kernel
theorem dJ6_numberOfTrailingZeros_0f7a4_9 : decode cJ6_numberOfTrailingZeros_0f7a4 9 = .ok (.ifCond .gt 8, 3) := by decide +kernel
theorem dJ6_numberOfTrailingZeros_0f7a4_12 : decode cJ6_numberOfTrailingZeros_0f7a4 12 = .ok (.iload_n 0, 1) := by decide +kernel
theorem dJ6_numberOfTrailingZeros_0f7a4_13 : decode cJ6_numberOfTrailingZeros_0f7a4 13 = .ok (.bipush 32, 2) := by decide +kernel
theorem dJ6_numberOfTrailingZeros_0f7a4_15 : decode cJ6_numberOfTrailingZeros_0f7a4 15 = .ok (.iand, 1) := by decide +kernel
theorem dJ6_numberOfTrailingZeros_0f7a4_16 : decode cJ6_numberOfTrailingZeros_0f7a4 16 = .ok (.ireturn, 1) := by decide +kernel
theorem dJ6_numberOfTrailingZeros_0f7a4_17 : decode cJ6_numberOfTrailingZeros_0f7a4 17 = .ok (.iconst 1, 1) := by decide +kernel
theorem dJ6_numberOfTrailingZeros_0f7a4_18 : decode cJ6_numberOfTrailingZeros_0f7a4 18 = .ok (.istore_n 1, 1) := by decide +kernel
theorem dJ6_numberOfTrailingZeros_0f7a4_19 : decode cJ6_numberOfTrailingZeros_0f7a4 19 = .ok (.iload_n 0, 1) := by decide +kernel
theorem dJ6_numberOfTrailingZeros_0f7a4_20 : decode cJ6_numberOfTrailingZeros_0f7a4 20 = .ok (.ldc_w 264, 3) := by decide +kernel
theorem dJ6_numberOfTrailingZeros_0f7a4_23 : decode cJ6_numberOfTrailingZeros_0f7a4 23 = .ok (.if_icmp .le 11, 3) := by decide +kernel
theorem dJ6_numberOfTrailingZeros_0f7a4_26 : decode cJ6_numberOfTrailingZeros_0f7a4 26 = .ok (.iinc 1 16, 3) := by decide +kernel
theorem dJ6_numberOfTrailingZeros_0f7a4_29 : decode cJ6_numberOfTrailingZeros_0f7a4 29 = .ok (.iload_n 0, 1) := by decide +kernel
theorem dJ6_numberOfTrailingZeros_0f7a4_30 : decode cJ6_numberOfTrailingZeros_0f7a4 30 = .ok (.bipush 16, 2) := by decide +kernel
theorem dJ6_numberOfTrailingZeros_0f7a4_32 : decode cJ6_numberOfTrailingZeros_0f7a4 32 = .ok (.iushr, 1) := by decide +kernel
theorem dJ6_numberOfTrailingZeros_0f7a4_33 : decode cJ6_numberOfTrailingZeros_0f7a4 33 = .ok (.istore_n 0, 1) := by decide +kernel
theorem dJ6_numberOfTrailingZeros_0f7a4_34 : decode cJ6_numberOfTrailingZeros_0f7a4 34 = .ok (.iload_n 0, 1) := by decide +kernel
theorem dJ6_numberOfTrailingZeros_0f7a4_35 : decode cJ6_numberOfTrailingZeros_0f7a4 35 = .ok (.sipush 256, 3) := by decide +kernel
theorem dJ6_numberOfTrailingZeros_0f7a4_38 : decode cJ6_numberOfTrailingZeros_0f7a4 38 = .ok (.if_icmp .le 11, 3) := by decide +kernel
theorem dJ6_numberOfTrailingZeros_0f7a4_41 : decode cJ6_numberOfTrailingZeros_0f7a4 41 = .ok (.iinc 1 8, 3) := by decide +kernel
theorem dJ6_numberOfTrailingZeros_0f7a4_44 : decode cJ6_numberOfTrailingZeros_0f7a4 44 = .ok (.iload_n 0, 1) := by decide +kernel
theorem dJ6_numberOfTrailingZeros_0f7a4_45 : decode cJ6_numberOfTrailingZeros_0f7a4 45 = .ok (.bipush 8, 2) := by decide +kernel
theorem dJ6_numberOfTrailingZeros_0f7a4_47 : decode cJ6_numberOfTrailingZeros_0f7a4 47 = .ok (.iushr, 1) := by decide +kernel
theorem dJ6_numberOfTrailingZeros_0f7a4_48 : decode cJ6_numberOfTrailingZeros_0f7a4 48 = .ok (.istore_n 0, 1) := by decide +kernel
theorem dJ6_numberOfTrailingZeros_0f7a4_49 : decode cJ6_numberOfTrailingZeros_0f7a4 49 = .ok (.iload_n 0, 1) := by decide +kernel
theorem dJ6_numberOfTrailingZeros_0f7a4_50 : decode cJ6_numberOfTrailingZeros_0f7a4 50 = .ok (.bipush 16, 2) := by decide +kernel
theorem dJ6_numberOfTrailingZeros_0f7a4_52 : decode cJ6_numberOfTrailingZeros_0f7a4 52 = .ok (.if_icmp .le 10, 3) := by decide +kernel
theorem dJ6_numberOfTrailingZeros_0f7a4_55 : decode cJ6_numberOfTrailingZeros_0f7a4 55 = .ok (.iinc 1 4, 3) := by decide +kernel
theorem dJ6_numberOfTrailingZeros_0f7a4_58 : decode cJ6_numberOfTrailingZeros_0f7a4 58 = .ok (.iload_n 0, 1) := by decide +kernel
theorem dJ6_numberOfTrailingZeros_0f7a4_59 : decode cJ6_numberOfTrailingZeros_0f7a4 59 = .ok (.iconst 4, 1) := by decide +kernel
theorem dJ6_numberOfTrailingZeros_0f7a4_60 : decode cJ6_numberOfTrailingZeros_0f7a4 60 = .ok (.iushr, 1) := by decide +kernel
theorem dJ6_numberOfTrailingZeros_0f7a4_61 : decode cJ6_numberOfTrailingZeros_0f7a4 61 = .ok (.istore_n 0, 1) := by decide +kernel
theorem dJ6_numberOfTrailingZeros_0f7a4_62 : decode cJ6_numberOfTrailingZeros_0f7a4 62 = .ok (.iload_n 0, 1) := by decide +kernel
theorem dJ6_numberOfTrailingZeros_0f7a4_63 : decode cJ6_numberOfTrailingZeros_0f7a4 63 = .ok (.iconst 4, 1) := by decide +kernel
theorem dJ6_numberOfTrailingZeros_0f7a4_64 : decode cJ6_numberOfTrailingZeros_0f7a4 64 = .ok (.if_icmp .le 10, 3) := by decide +kernel
theorem dJ6_numberOfTrailingZeros_0f7a4_67 : decode cJ6_numberOfTrailingZeros_0f7a4 67 = .ok (.iinc 1 2, 3) := by decide +kernel
theorem dJ6_numberOfTrailingZeros_0f7a4_70 : decode cJ6_numberOfTrailingZeros_0f7a4 70 = .ok (.iload_n 0, 1) := by decide +kernel
theorem dJ6_numberOfTrailingZeros_0f7a4_71 : decode cJ6_numberOfTrailingZeros_0f7a4 71 = .ok (.iconst 2, 1) := by decide +kernel
theorem dJ6_numberOfTrailingZeros_0f7a4_72 : decode cJ6_numberOfTrailingZeros_0f7a4 72 = .ok (.iushr, 1) := by decide +kernel
theorem dJ6_numberOfTrailingZeros_0f7a4_73 : decode cJ6_numberOfTrailingZeros_0f7a4 73 = .ok (.istore_n 0, 1) := by decide +kernel
theorem dJ6_numberOfTrailingZeros_0f7a4_74 : decode cJ6_numberOfTrailingZeros_0f7a4 74 = .ok (.iload_n 1, 1) := by decide +kernel
theorem dJ6_numberOfTrailingZeros_0f7a4_75 : decode cJ6_numberOfTrailingZeros_0f7a4 75 = .ok (.iload_n 0, 1) := by decide +kernel
theorem dJ6_numberOfTrailingZeros_0f7a4_76 : decode cJ6_numberOfTrailingZeros_0f7a4 76 = .ok (.iconst 1, 1) := by decide +kernel
theorem dJ6_numberOfTrailingZeros_0f7a4_77 : decode cJ6_numberOfTrailingZeros_0f7a4 77 = .ok (.iushr, 1) := by decide +kernel
theorem dJ6_numberOfTrailingZeros_0f7a4_78 : decode cJ6_numberOfTrailingZeros_0f7a4 78 = .ok (.iadd, 1) := by decide +kernel
theorem dJ6_numberOfTrailingZeros_0f7a4_79 : decode cJ6_numberOfTrailingZeros_0f7a4 79 = .ok (.ireturn, 1) := by decide +kernel
theorem dJ6_bitCount_0f7a4_0 : decode cJ6_bitCount_0f7a4 0 = .ok (.iload_n 0, 1) := by decide +kernel
theorem dJ6_bitCount_0f7a4_1 : decode cJ6_bitCount_0f7a4 1 = .ok (.iload_n 0, 1) := by decide +kernel
theorem dJ6_bitCount_0f7a4_2 : decode cJ6_bitCount_0f7a4 2 = .ok (.iconst 1, 1) := by decide +kernel
theorem dJ6_bitCount_0f7a4_3 : decode cJ6_bitCount_0f7a4 3 = .ok (.iushr, 1) := by decide +kernel
theorem dJ6_bitCount_0f7a4_4 : decode cJ6_bitCount_0f7a4 4 = .ok (.ldc_w 265, 3) := by decide +kernel
theorem dJ6_bitCount_0f7a4_7 : decode cJ6_bitCount_0f7a4 7 = .ok (.iand, 1) := by decide +kernel
theorem dJ6_bitCount_0f7a4_8 : decode cJ6_bitCount_0f7a4 8 = .ok (.isub, 1) := by decide +kernel
theorem dJ6_bitCount_0f7a4_9 : decode cJ6_bitCount_0f7a4 9 = .ok (.istore_n 0, 1) := by decide +kernel
theorem dJ6_bitCount_0f7a4_10 : decode cJ6_bitCount_0f7a4 10 = .ok (.iload_n 0, 1) := by decide +kernel
theorem dJ6_bitCount_0f7a4_11 : decode cJ6_bitCount_0f7a4 11 = .ok (.ldc_w 266, 3) := by decide +kernel
theorem dJ6_bitCount_0f7a4_14 : decode cJ6_bitCount_0f7a4 14 = .ok (.iand, 1) := by decide +kernel
theorem dJ6_bitCount_0f7a4_15 : decode cJ6_bitCount_0f7a4 15 = .ok (.iload_n 0, 1) := by decide +kernel
theorem dJ6_bitCount_0f7a4_16 : decode cJ6_bitCount_0f7a4 16 = .ok (.iconst 2, 1) := by decide +kernel
theorem dJ6_bitCount_0f7a4_17 : decode cJ6_bitCount_0f7a4 17 = .ok (.iushr, 1) := by decide +kernel
theorem dJ6_bitCount_0f7a4_18 : decode cJ6_bitCount_0f7a4 18 = .ok (.ldc_w 266, 3) := by decide +kernel
theorem dJ6_bitCount_0f7a4_21 : decode cJ6_bitCount_0f7a4 21 = .ok (.iand, 1) := by decide +kernel
theorem dJ6_bitCount_0f7a4_22 : decode cJ6_bitCount_0f7a4 22 = .ok (.iadd, 1) := by decide +kernel
theorem dJ6_bitCount_0f7a4_23 : decode cJ6_bitCount_0f7a4 23 = .ok (.istore_n 0, 1) := by decide +kernel
theorem dJ6_bitCount_0f7a4_24 : decode cJ6_bitCount_0f7a4 24 = .ok (.iload_n 0, 1) := by decide +kernel
theorem dJ6_bitCount_0f7a4_25 : decode cJ6_bitCount_0f7a4 25 = .ok (.iload_n 0, 1) := by decide +kernel
theorem dJ6_bitCount_0f7a4_26 : decode cJ6_bitCount_0f7a4 26 = .ok (.iconst 4, 1) := by decide +kernel
theorem dJ6_bitCount_0f7a4_27 : decode cJ6_bitCount_0f7a4 27 = .ok (.iushr, 1) := by decide +kernel
theorem dJ6_bitCount_0f7a4_28 : decode cJ6_bitCount_0f7a4 28 = .ok (.iadd, 1) := by decide +kernel
theorem dJ6_bitCount_0f7a4_29 : decode cJ6_bitCount_0f7a4 29 = .ok (.ldc_w 267, 3) := by decide +kernel
theorem dJ6_bitCount_0f7a4_32 : decode cJ6_bitCount_0f7a4 32 = .ok (.iand, 1) := by decide +kernel
theorem dJ6_bitCount_0f7a4_33 : decode cJ6_bitCount_0f7a4 33 = .ok (.istore_n 0, 1) := by decide +kernel
theorem dJ6_bitCount_0f7a4_34 : decode cJ6_bitCount_0f7a4 34 = .ok (.iload_n 0, 1) := by decide +kernel
theorem dJ6_bitCount_0f7a4_35 : decode cJ6_bitCount_0f7a4 35 = .ok (.iload_n 0, 1) := by decide +kernel
theorem dJ6_bitCount_0f7a4_36 : decode cJ6_bitCount_0f7a4 36 = .ok (.bipush 8, 2) := by decide +kernel
theorem dJ6_bitCount_0f7a4_38 : decode cJ6_bitCount_0f7a4 38 = .ok (.iushr, 1) := by decide +kernel
theorem dJ6_bitCount_0f7a4_39 : decode cJ6_bitCount_0f7a4 39 = .ok (.iadd, 1) := by decide +kernel
theorem dJ6_bitCount_0f7a4_40 : decode cJ6_bitCount_0f7a4 40 = .ok (.istore_n 0, 1) := by decide +kernel
theorem dJ6_bitCount_0f7a4_41 : decode cJ6_bitCount_0f7a4 41 = .ok (.iload_n 0, 1) := by decide +kernel
theorem dJ6_bitCount_0f7a4_42 : decode cJ6_bitCount_0f7a4 42 = .ok (.iload_n 0, 1) := by decide +kernel
theorem dJ6_bitCount_0f7a4_43 : decode cJ6_bitCount_0f7a4 43 = .ok (.bipush 16, 2) := by decide +kernel
theorem dJ6_bitCount_0f7a4_45 : decode cJ6_bitCount_0f7a4 45 = .ok (.iushr, 1) := by decide +kernel
theorem dJ6_bitCount_0f7a4_46 : decode cJ6_bitCount_0f7a4 46 = .ok (.iadd, 1) := by decide +kernel
theorem dJ6_bitCount_0f7a4_47 : decode cJ6_bitCount_0f7a4 47 = .ok (.istore_n 0, 1) := by decide +kernel
theorem dJ6_bitCount_0f7a4_48 : decode cJ6_bitCount_0f7a4 48 = .ok (.iload_n 0, 1) := by decide +kernel
theorem dJ6_bitCount_0f7a4_49 : decode cJ6_bitCount_0f7a4 49 = .ok (.bipush 63, 2) := by decide +kernel
theorem dJ6_bitCount_0f7a4_51 : decode cJ6_bitCount_0f7a4 51 = .ok (.iand, 1) := by decide +kernel
theorem dJ6_bitCount_0f7a4_52 : decode cJ6_bitCount_0f7a4 52 = .ok (.ireturn, 1) := by decide +kernel
theorem dJ9_max_7cf53_0 : decode cJ9_max_7cf53 0 = .ok (.iload_n 0, 1) := by decide +kernel
theorem dJ9_max_7cf53_1 : decode cJ9_max_7cf53 1 = .ok (.iload_n 1, 1) := by decide +kernel
theorem dJ9_max_7cf53_2 : decode cJ9_max_7cf53 2 = .ok (.if_icmp .lt 7, 3) := by decide +kernel
theorem dJ9_max_7cf53_5 : decode cJ9_max_7cf53 5 = .ok (.iload_n 0, 1) := by decide +kernel
theorem dJ9_max_7cf53_6 : decode cJ9_max_7cf53 6 = .ok (.goto 4, 3) := by decide +kernel
theorem dJ9_max_7cf53_9 : decode cJ9_max_7cf53 9 = .ok (.iload_n 1, 1) := by decide +kernel
theorem dJ9_max_7cf53_10 : decode cJ9_max_7cf53 10 = .ok (.ireturn, 1) := by decide +kernel
theorem dJ9_min_7cf53_0 : decode cJ9_min_7cf53 0 = .ok (.iload_n 0, 1) := by decide +kernel
theorem dJ9_min_7cf53_1 : decode cJ9_min_7cf53 1 = .ok (.iload_n 1, 1) := by decide +kernel
theorem dJ9_min_7cf53_2 : decode cJ9_min_7cf53 2 = .ok (.if_icmp .gt 7, 3) := by decide +kernel
theorem dJ9_min_7cf53_5 : decode cJ9_min_7cf53 5 = .ok (.iload_n 0, 1) := by decide +kernel
theorem dJ9_min_7cf53_6 : decode cJ9_min_7cf53 6 = .ok (.goto 4, 3) := by decide +kernel
theorem dJ9_min_7cf53_9 : decode cJ9_min_7cf53 9 = .ok (.iload_n 1, 1) := by decide +kernel
theorem dJ9_min_7cf53_10 : decode cJ9_min_7cf53 10 = .ok (.ireturn, 1) := by decide +kernel
theorem dJ0_length_8abf5_0 : decode cJ0_length_8abf5 0 = .ok (.aload_n 0, 1) := by decide +kernel
theorem dJ0_length_8abf5_1 : decode cJ0_length_8abf5 1 = .ok (.getfield 9, 3) := by decide +kernel
theorem dJ0_length_8abf5_4 : decode cJ0_length_8abf5 4 = .ok (.arraylength, 1) := by decide +kernel
theorem dJ0_length_8abf5_5 : decode cJ0_length_8abf5 5 = .ok (.aload_n 0, 1) := by decide +kernel
theorem dJ0_length_8abf5_6 : decode cJ0_length_8abf5 6 = .ok (.invokevirtual 335, 3) := by decide +kernel
theorem dJ0_length_8abf5_9 : decode cJ0_length_8abf5 9 = .ok (.ishr, 1) := by decide +kernel
theorem dJ0_length_8abf5_10 : decode cJ0_length_8abf5 10 = .ok (.ireturn, 1) := by decide +kernel
theorem dJ0_indexOf_0f7a4_0 : decode cJ0_indexOf_0f7a4 0 = .ok (.aload_n 0, 1) := by decide +kernel
theorem dJ0_indexOf_0f7a4_1 : decode cJ0_indexOf_0f7a4 1 = .ok (.iload_n 1, 1) := by decide +kernel
theorem dJ0_indexOf_0f7a4_2 : decode cJ0_indexOf_0f7a4 2 = .ok (.iconst 0, 1) := by decide +kernel
theorem dJ0_indexOf_0f7a4_3 : decode cJ0_indexOf_0f7a4 3 = .ok (.invokevirtual 633, 3) := by decide +kernel
theorem dJ0_indexOf_0f7a4_6 : decode cJ0_indexOf_0f7a4 6 = .ok (.ireturn, 1) := by decide +kernel
theorem dJ0_indexOf_7cf53_0 : decode cJ0_indexOf_7cf53 0 = .ok (.aload_n 0, 1) := by decide +kernel
theorem dJ0_indexOf_7cf53_1 : decode cJ0_indexOf_7cf53 1 = .ok (.invokevirtual 492, 3) := by decide +kernel
theorem dJ0_indexOf_7cf53_4 : decode cJ0_indexOf_7cf53 4 = .ok (.ifCond .eq 19, 3) := by decide +kernel
theorem dJ0_indexOf_7cf53_7 : decode cJ0_indexOf_7cf53 7 = .ok (.aload_n 0, 1) := by decide +kernel
theorem dJ0_indexOf_7cf53_8 : decode cJ0_indexOf_7cf53 8 = .ok (.getfield 9, 3) := by decide +kernel
theorem dJ0_indexOf_7cf53_11 : decode cJ0_indexOf_7cf53 11 = .ok (.iload_n 1, 1) := by decide +kernel
theorem dJ0_indexOf_7cf53_12 : decode cJ0_indexOf_7cf53 12 = .ok (.iload_n 2, 1) := by decide +kernel
theorem dJ0_indexOf_7cf53_13 : decode cJ0_indexOf_7cf53 13 = .ok (.aload_n 0, 1) := by decide +kernel
theorem dJ0_indexOf_7cf53_14 : decode cJ0_indexOf_7cf53 14 = .ok (.invokevirtual 505, 3) := by decide +kernel
theorem dJ0_indexOf_7cf53_17 : decode cJ0_indexOf_7cf53 17 = .ok (.invokestatic 637, 3) := by decide +kernel
theorem dJ0_indexOf_7cf53_20 : decode cJ0_indexOf_7cf53 20 = .ok (.goto 16, 3) := by decide +kernel
theorem dJ0_indexOf_7cf53_23 : decode cJ0_indexOf_7cf53 23 = .ok (.aload_n 0, 1) := by decide +kernel
theorem dJ0_indexOf_7cf53_24 : decode cJ0_indexOf_7cf53 24 = .ok (.getfield 9, 3) := by decide +kernel
theorem dJ0_indexOf_7cf53_27 : decode cJ0_indexOf_7cf53 27 = .ok (.iload_n 1, 1) := by decide +kernel
theorem dJ0_indexOf_7cf53_28 : decode cJ0_indexOf_7cf53 28 = .ok (.iload_n 2, 1) := by decide +kernel
theorem dJ0_indexOf_7cf53_29 : decode cJ0_indexOf_7cf53 29 = .ok (.aload_n 0, 1) := by decide +kernel
theorem dJ0_indexOf_7cf53_30 : decode cJ0_indexOf_7cf53 30 = .ok (.invokevirtual 505, 3) := by decide +kernel
theorem dJ0_indexOf_7cf53_33 : decode cJ0_indexOf_7cf53 33 = .ok (.invokestatic 640, 3) := by decide +kernel
theorem dJ0_indexOf_7cf53_36 : decode cJ0_indexOf_7cf53 36 = .ok (.ireturn, 1) := by decide +kernel
theorem dJ0_coder_7d493_0 : decode cJ0_coder_7d493 0 = .ok (.getstatic 38, 3) := by decide +kernel
theorem dJ0_coder_7d493_3 : decode cJ0_coder_7d493 3 = .ok (.ifCond .eq 10, 3) := by decide +kernel
theorem dJ0_coder_7d493_6 : decode cJ0_coder_7d493 6 = .ok (.aload_n 0, 1) := by decide +kernel
theorem dJ0_coder_7d493_7 : decode cJ0_coder_7d493 7 = .ok (.getfield 15, 3) := by decide +kernel
theorem dJ0_coder_7d493_10 : decode cJ0_coder_7d493 10 = .ok (.goto 4, 3) := by decide +kernel
theorem dJ0_coder_7d493_13 : decode cJ0_coder_7d493 13 = .ok (.iconst 1, 1) := by decide +kernel
theorem dJ0_coder_7d493_14 : decode cJ0_coder_7d493 14 = .ok (.ireturn, 1) := by decide +kernel
theorem dJ0_isLatin1_aae02_0 : decode cJ0_isLatin1_aae02 0 = .ok (.getstatic 38, 3) := by decide +kernel
theorem dJ0_isLatin1_aae02_3 : decode cJ0_isLatin1_aae02 3 = .ok (.ifCond .eq 14, 3) := by decide +kernel
theorem dJ0_isLatin1_aae02_6 : decode cJ0_isLatin1_aae02 6 = .ok (.aload_n 0, 1) := by decide +kernel
theorem dJ0_isLatin1_aae02_7 : decode cJ0_isLatin1_aae02 7 = .ok (.getfield 15, 3) := by decide +kernel
theorem dJ0_isLatin1_aae02_10 : decode cJ0_isLatin1_aae02 10 = .ok (.ifCond .ne 7, 3) := by decide +kernel
theorem dJ0_isLatin1_aae02_13 : decode cJ0_isLatin1_aae02 13 = .ok (.iconst 1, 1) := by decide +kernel
theorem dJ0_isLatin1_aae02_14 : decode cJ0_isLatin1_aae02 14 = .ok (.goto 4, 3) := by decide +kernel
theorem dJ0_isLatin1_aae02_17 : decode cJ0_isLatin1_aae02 17 = .ok (.iconst 0, 1) := by decide +kernel
theorem dJ0_isLatin1_aae02_18 : decode cJ0_isLatin1_aae02 18 = .ok (.ireturn, 1) := by decide +kernel
theorem dJ1_canEncode_9a6ad_0 : decode cJ1_canEncode_9a6ad 0 = .ok (.iload_n 0, 1) := by decide +kernel
theorem dJ1_canEncode_9a6ad_1 : decode cJ1_canEncode_9a6ad 1 = .ok (.ifCond .lt 14, 3) := by decide +kernel
theorem dJ1_canEncode_9a6ad_4 : decode cJ1_canEncode_9a6ad 4 = .ok (.iload_n 0, 1) := by decide +kernel
theorem dJ1_canEncode_9a6ad_5 : decode cJ1_canEncode_9a6ad 5 = .ok (.sipush 255, 3) := by decide +kernel
theorem dJ1_canEncode_9a6ad_8 : decode cJ1_canEncode_9a6ad 8 = .ok (.if_icmp .gt 7, 3) := by decide +kernel
theorem dJ1_canEncode_9a6ad_11 : decode cJ1_canEncode_9a6ad 11 = .ok (.iconst 1, 1) := by decide +kernel
theorem dJ1_canEncode_9a6ad_12 : decode cJ1_canEncode_9a6ad 12 = .ok (.goto 4, 3) := by decide +kernel
theorem dJ1_canEncode_9a6ad_15 : decode cJ1_canEncode_9a6ad 15 = .ok (.iconst 0, 1) := by decide +kernel
theorem dJ1_canEncode_9a6ad_16 : decode cJ1_canEncode_9a6ad 16 = .ok (.ireturn, 1) := by decide +kernel
theorem dJ1_indexOf_4cfef_0 : decode cJ1_indexOf_4cfef 0 = .ok (.iload_n 1, 1) := by decide +kernel
theorem dJ1_indexOf_4cfef_1 : decode cJ1_indexOf_4cfef 1 = .ok (.invokestatic 88, 3) := by decide +kernel
theorem dJ1_indexOf_4cfef_4 : decode cJ1_indexOf_4cfef 4 = .ok (.ifCond .ne 5, 3) := by decide +kernel
theorem dJ1_indexOf_4cfef_7 : decode cJ1_indexOf_4cfef 7 = .ok (.iconst (-1), 1) := by decide +kernel
theorem dJ1_indexOf_4cfef_8 : decode cJ1_indexOf_4cfef 8 = .ok (.ireturn, 1) := by decide +kernel
theorem dJ1_indexOf_4cfef_9 : decode cJ1_indexOf_4cfef 9 = .ok (.iload_n 2, 1) := by decide +kernel
theorem dJ1_indexOf_4cfef_10 : decode cJ1_indexOf_4cfef 10 = .ok (.iconst 0, 1) := by decide +kernel
theorem dJ1_indexOf_4cfef_11 : decode cJ1_indexOf_4cfef 11 = .ok (.invokestatic 92, 3) := by decide +kernel
theorem dJ1_indexOf_4cfef_14 : decode cJ1_indexOf_4cfef 14 = .ok (.istore_n 2, 1) := by decide +kernel
theorem dJ1_indexOf_4cfef_15 : decode cJ1_indexOf_4cfef 15 = .ok (.iload_n 3, 1) := by decide +kernel
theorem dJ1_indexOf_4cfef_16 : decode cJ1_indexOf_4cfef 16 = .ok (.aload_n 0, 1) := by decide +kernel
theorem dJ1_indexOf_4cfef_17 : decode cJ1_indexOf_4cfef 17 = .ok (.arraylength, 1) := by decide +kernel
theorem dJ1_indexOf_4cfef_18 : decode cJ1_indexOf_4cfef 18 = .ok (.invokestatic 38, 3) := by decide +kernel
theorem dJ1_indexOf_4cfef_21 : decode cJ1_indexOf_4cfef 21 = .ok (.istore_n 3, 1) := by decide +kernel
theorem dJ1_indexOf_4cfef_22 : decode cJ1_indexOf_4cfef 22 = .ok (.iload_n 2, 1) := by decide +kernel
theorem dJ1_indexOf_4cfef_23 : decode cJ1_indexOf_4cfef 23 = .ok (.iload_n 3, 1) := by decide +kernel
theorem dJ1_indexOf_4cfef_24 : decode cJ1_indexOf_4cfef 24 = .ok (.if_icmp .lt 5, 3) := by decide +kernel
theorem dJ1_indexOf_4cfef_27 : decode cJ1_indexOf_4cfef 27 = .ok (.iconst (-1), 1) := by decide +kernel
theorem dJ1_indexOf_4cfef_28 : decode cJ1_indexOf_4cfef 28 = .ok (.ireturn, 1) := by decide +kernel
theorem dJ1_indexOf_4cfef_29 : decode cJ1_indexOf_4cfef 29 = .ok (.aload_n 0, 1) := by decide +kernel
theorem dJ1_indexOf_4cfef_30 : decode cJ1_indexOf_4cfef 30 = .ok (.iload_n 1, 1) := by decide +kernel
theorem dJ1_indexOf_4cfef_31 : decode cJ1_indexOf_4cfef 31 = .ok (.iload_n 2, 1) := by decide +kernel
theorem dJ1_indexOf_4cfef_32 : decode cJ1_indexOf_4cfef 32 = .ok (.iload_n 3, 1) := by decide +kernel
theorem dJ1_indexOf_4cfef_33 : decode cJ1_indexOf_4cfef 33 = .ok (.invokestatic 95, 3) := by decide +kernel
theorem dJ1_indexOf_4cfef_36 : decode cJ1_indexOf_4cfef 36 = .ok (.ireturn, 1) := by decide +kernel
theorem dJ1_indexOfChar_4cfef_0 : decode cJ1_indexOfChar_4cfef 0 = .ok (.iload_n 1, 1) := by decide +kernel
theorem dJ1_indexOfChar_4cfef_1 : decode cJ1_indexOfChar_4cfef 1 = .ok (.i2b, 1) := by decide +kernel
theorem dJ1_indexOfChar_4cfef_2 : decode cJ1_indexOfChar_4cfef 2 = .ok (.istore 4, 2) := by decide +kernel
theorem dJ1_indexOfChar_4cfef_4 : decode cJ1_indexOfChar_4cfef 4 = .ok (.iload_n 2, 1) := by decide +kernel
theorem dJ1_indexOfChar_4cfef_5 : decode cJ1_indexOfChar_4cfef 5 = .ok (.istore 5, 2) := by decide +kernel
theorem dJ1_indexOfChar_4cfef_7 : decode cJ1_indexOfChar_4cfef 7 = .ok (.iload 5, 2) := by decide +kernel
theorem dJ1_indexOfChar_4cfef_9 : decode cJ1_indexOfChar_4cfef 9 = .ok (.iload_n 3, 1) := by decide +kernel
theorem dJ1_indexOfChar_4cfef_10 : decode cJ1_indexOfChar_4cfef 10 = .ok (.if_icmp .ge 21, 3) := by decide +kernel
theorem dJ1_indexOfChar_4cfef_13 : decode cJ1_indexOfChar_4cfef 13 = .ok (.aload_n 0, 1) := by decide +kernel
theorem dJ1_indexOfChar_4cfef_14 : decode cJ1_indexOfChar_4cfef 14 = .ok (.iload 5, 2) := by decide +kernel
theorem dJ1_indexOfChar_4cfef_16 : decode cJ1_indexOfChar_4cfef 16 = .ok (.baload, 1) := by decide +kernel
theorem dJ1_indexOfChar_4cfef_17 : decode cJ1_indexOfChar_4cfef 17 = .ok (.iload 4, 2) := by decide +kernel
theorem dJ1_indexOfChar_4cfef_19 : decode cJ1_indexOfChar_4cfef 19 = .ok (.if_icmp .ne 6, 3) := by decide +kernel
theorem dJ1_indexOfChar_4cfef_22 : decode cJ1_indexOfChar_4cfef 22 = .ok (.iload 5, 2) := by decide +kernel
theorem dJ1_indexOfChar_4cfef_24 : decode cJ1_indexOfChar_4cfef 24 = .ok (.ireturn, 1) := by decide +kernel
theorem dJ1_indexOfChar_4cfef_25 : decode cJ1_indexOfChar_4cfef 25 = .ok (.iinc 5 1, 3) := by decide +kernel
theorem dJ1_indexOfChar_4cfef_28 : decode cJ1_indexOfChar_4cfef 28 = .ok (.goto (-21), 3) := by decide +kernel
theorem dJ1_indexOfChar_4cfef_31 : decode cJ1_indexOfChar_4cfef 31 = .ok (.iconst (-1), 1) := by decide +kernel
theorem dJ1_indexOfChar_4cfef_32 : decode cJ1_indexOfChar_4cfef 32 = .ok (.ireturn, 1) := by decide +kernel
theorem dL_law_0 : decode cL_law 0 = .ok (.new 7, 3) := by decide +kernel
theorem dL_law_3 : decode cL_law 3 = .ok (.dup, 1) := by decide +kernel
theorem dL_law_4 : decode cL_law 4 = .ok (.invokespecial 9, 3) := by decide +kernel
theorem dL_law_7 : decode cL_law 7 = .ok (.astore_n 1, 1) := by decide +kernel
theorem dL_law_8 : decode cL_law 8 = .ok (.new 10, 3) := by decide +kernel
theorem dL_law_11 : decode cL_law 11 = .ok (.dup, 1) := by decide +kernel
theorem dL_law_12 : decode cL_law 12 = .ok (.invokespecial 12, 3) := by decide +kernel
theorem dL_law_15 : decode cL_law 15 = .ok (.astore_n 2, 1) := by decide +kernel
theorem dL_law_16 : decode cL_law 16 = .ok (.iconst 0, 1) := by decide +kernel
theorem dL_law_17 : decode cL_law 17 = .ok (.istore_n 3, 1) := by decide +kernel
theorem dL_law_18 : decode cL_law 18 = .ok (.iload_n 3, 1) := by decide +kernel
theorem dL_law_19 : decode cL_law 19 = .ok (.aload_n 0, 1) := by decide +kernel
theorem dL_law_20 : decode cL_law 20 = .ok (.arraylength, 1) := by decide +kernel
theorem dL_law_21 : decode cL_law 21 = .ok (.iconst 4, 1) := by decide +kernel
theorem dL_law_22 : decode cL_law 22 = .ok (.isub, 1) := by decide +kernel
theorem dL_law_23 : decode cL_law 23 = .ok (.if_icmp .gt 791, 3) := by decide +kernel
theorem dL_law_26 : decode cL_law 26 = .ok (.aload_n 0, 1) := by decide +kernel
theorem dL_law_27 : decode cL_law 27 = .ok (.iload_n 3, 1) := by decide +kernel
theorem dL_law_28 : decode cL_law 28 = .ok (.iaload, 1) := by decide +kernel
theorem dL_law_29 : decode cL_law 29 = .ok (.bipush 31, 2) := by decide +kernel
theorem dL_law_31 : decode cL_law 31 = .ok (.iand, 1) := by decide +kernel
theorem dL_law_32 : decode cL_law 32 = .ok (.tableswitch 776 0 26 #[124, 147, 160, 173, 186, 219, 252, 285, 308, 331, 354, 367, 400, 433, 456, 489, 522, 565, 598, 631, 644, 657, 670, 713, 726, 739, 762], 124) := by decide +kernel
theorem dL_law_156 : decode cL_law 156 = .ok (.aload_n 1, 1) := by decide +kernel
theorem dL_law_157 : decode cL_law 157 = .ok (.aload_n 0, 1) := by decide +kernel
theorem dL_law_158 : decode cL_law 158 = .ok (.iload_n 3, 1) := by decide +kernel
theorem dL_law_159 : decode cL_law 159 = .ok (.iconst 1, 1) := by decide +kernel
theorem dL_law_160 : decode cL_law 160 = .ok (.iadd, 1) := by decide +kernel
theorem dL_law_161 : decode cL_law 161 = .ok (.iaload, 1) := by decide +kernel
theorem dL_law_162 : decode cL_law 162 = .ok (.invokevirtual 13, 3) := by decide +kernel
theorem dL_law_165 : decode cL_law 165 = .ok (.aload_n 2, 1) := by decide +kernel
theorem dL_law_166 : decode cL_law 166 = .ok (.aload_n 0, 1) := by decide +kernel
theorem dL_law_167 : decode cL_law 167 = .ok (.iload_n 3, 1) := by decide +kernel
theorem dL_law_168 : decode cL_law 168 = .ok (.iconst 1, 1) := by decide +kernel
theorem dL_law_169 : decode cL_law 169 = .ok (.iadd, 1) := by decide +kernel
theorem dL_law_170 : decode cL_law 170 = .ok (.iaload, 1) := by decide +kernel
theorem dL_law_171 : decode cL_law 171 = .ok (.invokevirtual 17, 3) := by decide +kernel
theorem dL_law_174 : decode cL_law 174 = .ok (.if_icmp .eq 634, 3) := by decide +kernel
theorem dL_law_177 : decode cL_law 177 = .ok (.iconst 0, 1) := by decide +kernel
theorem dL_law_178 : decode cL_law 178 = .ok (.ireturn, 1) := by decide +kernel
theorem dL_law_179 : decode cL_law 179 = .ok (.aload_n 1, 1) := by decide +kernel
theorem dL_law_180 : decode cL_law 180 = .ok (.invokevirtual 18, 3) := by decide +kernel
theorem dL_law_183 : decode cL_law 183 = .ok (.aload_n 2, 1) := by decide +kernel
theorem dL_law_184 : decode cL_law 184 = .ok (.invokevirtual 22, 3) := by decide +kernel
theorem dL_law_187 : decode cL_law 187 = .ok (.if_icmp .eq 621, 3) := by decide +kernel
theorem dL_law_190 : decode cL_law 190 = .ok (.iconst 0, 1) := by decide +kernel
theorem dL_law_191 : decode cL_law 191 = .ok (.ireturn, 1) := by decide +kernel
theorem dL_law_192 : decode cL_law 192 = .ok (.aload_n 1, 1) := by decide +kernel
theorem dL_law_193 : decode cL_law 193 = .ok (.invokevirtual 23, 3) := by decide +kernel
theorem dL_law_196 : decode cL_law 196 = .ok (.aload_n 2, 1) := by decide +kernel
theorem dL_law_197 : decode cL_law 197 = .ok (.invokevirtual 26, 3) := by decide +kernel
theorem dL_law_200 : decode cL_law 200 = .ok (.if_icmp .eq 608, 3) := by decide +kernel
theorem dL_law_203 : decode cL_law 203 = .ok (.iconst 0, 1) := by decide +kernel
theorem dL_law_204 : decode cL_law 204 = .ok (.ireturn, 1) := by decide +kernel
theorem dL_law_205 : decode cL_law 205 = .ok (.aload_n 1, 1) := by decide +kernel
theorem dL_law_206 : decode cL_law 206 = .ok (.invokevirtual 27, 3) := by decide +kernel
theorem dL_law_209 : decode cL_law 209 = .ok (.aload_n 2, 1) := by decide +kernel
theorem dL_law_210 : decode cL_law 210 = .ok (.invokevirtual 30, 3) := by decide +kernel
theorem dL_law_213 : decode cL_law 213 = .ok (.if_icmp .eq 595, 3) := by decide +kernel
theorem dL_law_216 : decode cL_law 216 = .ok (.iconst 0, 1) := by decide +kernel
theorem dL_law_217 : decode cL_law 217 = .ok (.ireturn, 1) := by decide +kernel
theorem dL_law_218 : decode cL_law 218 = .ok (.aload_n 1, 1) := by decide +kernel
theorem dL_law_219 : decode cL_law 219 = .ok (.aload_n 0, 1) := by decide +kernel
theorem dL_law_220 : decode cL_law 220 = .ok (.iload_n 3, 1) := by decide +kernel
theorem dL_law_221 : decode cL_law 221 = .ok (.iconst 1, 1) := by decide +kernel
theorem dL_law_222 : decode cL_law 222 = .ok (.iadd, 1) := by decide +kernel
theorem dL_law_223 : decode cL_law 223 = .ok (.iaload, 1) := by decide +kernel
theorem dL_law_224 : decode cL_law 224 = .ok (.aload_n 0, 1) := by decide +kernel
theorem dL_law_225 : decode cL_law 225 = .ok (.iload_n 3, 1) := by decide +kernel
theorem dL_law_226 : decode cL_law 226 = .ok (.iconst 2, 1) := by decide +kernel
theorem dL_law_227 : decode cL_law 227 = .ok (.iadd, 1) := by decide +kernel
theorem dL_law_228 : decode cL_law 228 = .ok (.iaload, 1) := by decide +kernel
theorem dL_law_229 : decode cL_law 229 = .ok (.invokevirtual 31, 3) := by decide +kernel
theorem dL_law_232 : decode cL_law 232 = .ok (.aload_n 2, 1) := by decide +kernel
theorem dL_law_233 : decode cL_law 233 = .ok (.aload_n 0, 1) := by decide +kernel
theorem dL_law_234 : decode cL_law 234 = .ok (.iload_n 3, 1) := by decide +kernel
theorem dL_law_235 : decode cL_law 235 = .ok (.iconst 1, 1) := by decide +kernel
theorem dL_law_236 : decode cL_law 236 = .ok (.iadd, 1) := by decide +kernel
theorem dL_law_237 : decode cL_law 237 = .ok (.iaload, 1) := by decide +kernel
theorem dL_law_238 : decode cL_law 238 = .ok (.aload_n 0, 1) := by decide +kernel
theorem dL_law_239 : decode cL_law 239 = .ok (.iload_n 3, 1) := by decide +kernel
theorem dL_law_240 : decode cL_law 240 = .ok (.iconst 2, 1) := by decide +kernel
theorem dL_law_241 : decode cL_law 241 = .ok (.iadd, 1) := by decide +kernel
theorem dL_law_242 : decode cL_law 242 = .ok (.iaload, 1) := by decide +kernel
theorem dL_law_243 : decode cL_law 243 = .ok (.invokevirtual 35, 3) := by decide +kernel
theorem dL_law_246 : decode cL_law 246 = .ok (.if_icmp .eq 562, 3) := by decide +kernel
theorem dL_law_249 : decode cL_law 249 = .ok (.iconst 0, 1) := by decide +kernel
theorem dL_law_250 : decode cL_law 250 = .ok (.ireturn, 1) := by decide +kernel
theorem dL_law_251 : decode cL_law 251 = .ok (.aload_n 1, 1) := by decide +kernel
theorem dL_law_252 : decode cL_law 252 = .ok (.aload_n 0, 1) := by decide +kernel
theorem dL_law_253 : decode cL_law 253 = .ok (.iload_n 3, 1) := by decide +kernel
theorem dL_law_254 : decode cL_law 254 = .ok (.iconst 1, 1) := by decide +kernel
theorem dL_law_255 : decode cL_law 255 = .ok (.iadd, 1) := by decide +kernel
theorem dL_law_256 : decode cL_law 256 = .ok (.iaload, 1) := by decide +kernel
theorem dL_law_257 : decode cL_law 257 = .ok (.aload_n 0, 1) := by decide +kernel
theorem dL_law_258 : decode cL_law 258 = .ok (.iload_n 3, 1) := by decide +kernel
theorem dL_law_259 : decode cL_law 259 = .ok (.iconst 2, 1) := by decide +kernel
theorem dL_law_260 : decode cL_law 260 = .ok (.iadd, 1) := by decide +kernel
theorem dL_law_261 : decode cL_law 261 = .ok (.iaload, 1) := by decide +kernel
theorem dL_law_262 : decode cL_law 262 = .ok (.invokevirtual 36, 3) := by decide +kernel
theorem dL_law_265 : decode cL_law 265 = .ok (.aload_n 2, 1) := by decide +kernel
theorem dL_law_266 : decode cL_law 266 = .ok (.aload_n 0, 1) := by decide +kernel
theorem dL_law_267 : decode cL_law 267 = .ok (.iload_n 3, 1) := by decide +kernel
theorem dL_law_268 : decode cL_law 268 = .ok (.iconst 1, 1) := by decide +kernel
theorem dL_law_269 : decode cL_law 269 = .ok (.iadd, 1) := by decide +kernel
theorem dL_law_270 : decode cL_law 270 = .ok (.iaload, 1) := by decide +kernel
theorem dL_law_271 : decode cL_law 271 = .ok (.aload_n 0, 1) := by decide +kernel
theorem dL_law_272 : decode cL_law 272 = .ok (.iload_n 3, 1) := by decide +kernel
theorem dL_law_273 : decode cL_law 273 = .ok (.iconst 2, 1) := by decide +kernel
theorem dL_law_274 : decode cL_law 274 = .ok (.iadd, 1) := by decide +kernel
theorem dL_law_275 : decode cL_law 275 = .ok (.iaload, 1) := by decide +kernel
theorem dL_law_276 : decode cL_law 276 = .ok (.invokevirtual 39, 3) := by decide +kernel
theorem dL_law_279 : decode cL_law 279 = .ok (.if_icmp .eq 529, 3) := by decide +kernel
theorem dL_law_282 : decode cL_law 282 = .ok (.iconst 0, 1) := by decide +kernel
theorem dL_law_283 : decode cL_law 283 = .ok (.ireturn, 1) := by decide +kernel
theorem dL_law_284 : decode cL_law 284 = .ok (.aload_n 1, 1) := by decide +kernel
theorem dL_law_285 : decode cL_law 285 = .ok (.aload_n 0, 1) := by decide +kernel
theorem dL_law_286 : decode cL_law 286 = .ok (.iload_n 3, 1) := by decide +kernel
theorem dL_law_287 : decode cL_law 287 = .ok (.iconst 1, 1) := by decide +kernel
theorem dL_law_288 : decode cL_law 288 = .ok (.iadd, 1) := by decide +kernel
theorem dL_law_289 : decode cL_law 289 = .ok (.iaload, 1) := by decide +kernel
theorem dL_law_290 : decode cL_law 290 = .ok (.aload_n 0, 1) := by decide +kernel
theorem dL_law_291 : decode cL_law 291 = .ok (.iload_n 3, 1) := by decide +kernel
theorem dL_law_292 : decode cL_law 292 = .ok (.iconst 2, 1) := by decide +kernel
theorem dL_law_293 : decode cL_law 293 = .ok (.iadd, 1) := by decide +kernel
theorem dL_law_294 : decode cL_law 294 = .ok (.iaload, 1) := by decide +kernel
theorem dL_law_295 : decode cL_law 295 = .ok (.invokevirtual 40, 3) := by decide +kernel
theorem dL_law_298 : decode cL_law 298 = .ok (.aload_n 2, 1) := by decide +kernel
theorem dL_law_299 : decode cL_law 299 = .ok (.aload_n 0, 1) := by decide +kernel
theorem dL_law_300 : decode cL_law 300 = .ok (.iload_n 3, 1) := by decide +kernel
theorem dL_law_301 : decode cL_law 301 = .ok (.iconst 1, 1) := by decide +kernel
theorem dL_law_302 : decode cL_law 302 = .ok (.iadd, 1) := by decide +kernel
theorem dL_law_303 : decode cL_law 303 = .ok (.iaload, 1) := by decide +kernel
theorem dL_law_304 : decode cL_law 304 = .ok (.aload_n 0, 1) := by decide +kernel
theorem dL_law_305 : decode cL_law 305 = .ok (.iload_n 3, 1) := by decide +kernel
theorem dL_law_306 : decode cL_law 306 = .ok (.iconst 2, 1) := by decide +kernel
theorem dL_law_307 : decode cL_law 307 = .ok (.iadd, 1) := by decide +kernel
theorem dL_law_308 : decode cL_law 308 = .ok (.iaload, 1) := by decide +kernel
theorem dL_law_309 : decode cL_law 309 = .ok (.invokevirtual 43, 3) := by decide +kernel
theorem dL_law_312 : decode cL_law 312 = .ok (.if_icmp .eq 496, 3) := by decide +kernel
theorem dL_law_315 : decode cL_law 315 = .ok (.iconst 0, 1) := by decide +kernel
theorem dL_law_316 : decode cL_law 316 = .ok (.ireturn, 1) := by decide +kernel
theorem dL_law_317 : decode cL_law 317 = .ok (.aload_n 1, 1) := by decide +kernel
theorem dL_law_318 : decode cL_law 318 = .ok (.aload_n 0, 1) := by decide +kernel
theorem dL_law_319 : decode cL_law 319 = .ok (.iload_n 3, 1) := by decide +kernel
theorem dL_law_320 : decode cL_law 320 = .ok (.iconst 1, 1) := by decide +kernel
theorem dL_law_321 : decode cL_law 321 = .ok (.iadd, 1) := by decide +kernel
theorem dL_law_322 : decode cL_law 322 = .ok (.iaload, 1) := by decide +kernel
theorem dL_law_323 : decode cL_law 323 = .ok (.invokevirtual 44, 3) := by decide +kernel
theorem dL_law_326 : decode cL_law 326 = .ok (.aload_n 2, 1) := by decide +kernel
theorem dL_law_327 : decode cL_law 327 = .ok (.aload_n 0, 1) := by decide +kernel
theorem dL_law_328 : decode cL_law 328 = .ok (.iload_n 3, 1) := by decide +kernel
theorem dL_law_329 : decode cL_law 329 = .ok (.iconst 1, 1) := by decide +kernel
theorem dL_law_330 : decode cL_law 330 = .ok (.iadd, 1) := by decide +kernel
theorem dL_law_331 : decode cL_law 331 = .ok (.iaload, 1) := by decide +kernel
theorem dL_law_332 : decode cL_law 332 = .ok (.invokevirtual 47, 3) := by decide +kernel
theorem dL_law_335 : decode cL_law 335 = .ok (.if_icmp .eq 473, 3) := by decide +kernel
theorem dL_law_338 : decode cL_law 338 = .ok (.iconst 0, 1) := by decide +kernel
theorem dL_law_339 : decode cL_law 339 = .ok (.ireturn, 1) := by decide +kernel
theorem dL_law_340 : decode cL_law 340 = .ok (.aload_n 1, 1) := by decide +kernel
theorem dL_law_341 : decode cL_law 341 = .ok (.aload_n 0, 1) := by decide +kernel
theorem dL_law_342 : decode cL_law 342 = .ok (.iload_n 3, 1) := by decide +kernel
theorem dL_law_343 : decode cL_law 343 = .ok (.iconst 1, 1) := by decide +kernel
theorem dL_law_344 : decode cL_law 344 = .ok (.iadd, 1) := by decide +kernel
theorem dL_law_345 : decode cL_law 345 = .ok (.iaload, 1) := by decide +kernel
theorem dL_law_346 : decode cL_law 346 = .ok (.invokevirtual 48, 3) := by decide +kernel
theorem dL_law_349 : decode cL_law 349 = .ok (.aload_n 2, 1) := by decide +kernel
theorem dL_law_350 : decode cL_law 350 = .ok (.aload_n 0, 1) := by decide +kernel
theorem dL_law_351 : decode cL_law 351 = .ok (.iload_n 3, 1) := by decide +kernel
theorem dL_law_352 : decode cL_law 352 = .ok (.iconst 1, 1) := by decide +kernel
theorem dL_law_353 : decode cL_law 353 = .ok (.iadd, 1) := by decide +kernel
theorem dL_law_354 : decode cL_law 354 = .ok (.iaload, 1) := by decide +kernel
theorem dL_law_355 : decode cL_law 355 = .ok (.invokevirtual 51, 3) := by decide +kernel
theorem dL_law_358 : decode cL_law 358 = .ok (.if_icmp .eq 450, 3) := by decide +kernel
theorem dL_law_361 : decode cL_law 361 = .ok (.iconst 0, 1) := by decide +kernel
theorem dL_law_362 : decode cL_law 362 = .ok (.ireturn, 1) := by decide +kernel
theorem dL_law_363 : decode cL_law 363 = .ok (.aload_n 1, 1) := by decide +kernel
theorem dL_law_364 : decode cL_law 364 = .ok (.aload_n 0, 1) := by decide +kernel
theorem dL_law_365 : decode cL_law 365 = .ok (.iload_n 3, 1) := by decide +kernel
theorem dL_law_366 : decode cL_law 366 = .ok (.iconst 1, 1) := by decide +kernel
theorem dL_law_367 : decode cL_law 367 = .ok (.iadd, 1) := by decide +kernel
theorem dL_law_368 : decode cL_law 368 = .ok (.iaload, 1) := by decide +kernel
theorem dL_law_369 : decode cL_law 369 = .ok (.invokevirtual 52, 3) := by decide +kernel
theorem dL_law_372 : decode cL_law 372 = .ok (.aload_n 2, 1) := by decide +kernel
theorem dL_law_373 : decode cL_law 373 = .ok (.aload_n 0, 1) := by decide +kernel
theorem dL_law_374 : decode cL_law 374 = .ok (.iload_n 3, 1) := by decide +kernel
theorem dL_law_375 : decode cL_law 375 = .ok (.iconst 1, 1) := by decide +kernel
theorem dL_law_376 : decode cL_law 376 = .ok (.iadd, 1) := by decide +kernel
theorem dL_law_377 : decode cL_law 377 = .ok (.iaload, 1) := by decide +kernel
theorem dL_law_378 : decode cL_law 378 = .ok (.invokevirtual 55, 3) := by decide +kernel
theorem dL_law_381 : decode cL_law 381 = .ok (.if_icmp .eq 427, 3) := by decide +kernel
theorem dL_law_384 : decode cL_law 384 = .ok (.iconst 0, 1) := by decide +kernel
theorem dL_law_385 : decode cL_law 385 = .ok (.ireturn, 1) := by decide +kernel
theorem dL_law_386 : decode cL_law 386 = .ok (.aload_n 1, 1) := by decide +kernel
theorem dL_law_387 : decode cL_law 387 = .ok (.invokevirtual 56, 3) := by decide +kernel
theorem dL_law_390 : decode cL_law 390 = .ok (.aload_n 2, 1) := by decide +kernel
theorem dL_law_391 : decode cL_law 391 = .ok (.invokevirtual 59, 3) := by decide +kernel
theorem dL_law_394 : decode cL_law 394 = .ok (.if_icmp .eq 414, 3) := by decide +kernel
theorem dL_law_397 : decode cL_law 397 = .ok (.iconst 0, 1) := by decide +kernel
theorem dL_law_398 : decode cL_law 398 = .ok (.ireturn, 1) := by decide +kernel
theorem dL_law_399 : decode cL_law 399 = .ok (.aload_n 1, 1) := by decide +kernel
theorem dL_law_400 : decode cL_law 400 = .ok (.aload_n 0, 1) := by decide +kernel
theorem dL_law_401 : decode cL_law 401 = .ok (.iload_n 3, 1) := by decide +kernel
theorem dL_law_402 : decode cL_law 402 = .ok (.iconst 1, 1) := by decide +kernel
theorem dL_law_403 : decode cL_law 403 = .ok (.iadd, 1) := by decide +kernel
theorem dL_law_404 : decode cL_law 404 = .ok (.iaload, 1) := by decide +kernel
theorem dL_law_405 : decode cL_law 405 = .ok (.aload_n 0, 1) := by decide +kernel
theorem dL_law_406 : decode cL_law 406 = .ok (.iload_n 3, 1) := by decide +kernel
theorem dL_law_407 : decode cL_law 407 = .ok (.iconst 2, 1) := by decide +kernel
theorem dL_law_408 : decode cL_law 408 = .ok (.iadd, 1) := by decide +kernel
theorem dL_law_409 : decode cL_law 409 = .ok (.iaload, 1) := by decide +kernel
theorem dL_law_410 : decode cL_law 410 = .ok (.invokevirtual 60, 3) := by decide +kernel
theorem dL_law_413 : decode cL_law 413 = .ok (.aload_n 2, 1) := by decide +kernel
theorem dL_law_414 : decode cL_law 414 = .ok (.aload_n 0, 1) := by decide +kernel
theorem dL_law_415 : decode cL_law 415 = .ok (.iload_n 3, 1) := by decide +kernel
theorem dL_law_416 : decode cL_law 416 = .ok (.iconst 1, 1) := by decide +kernel
theorem dL_law_417 : decode cL_law 417 = .ok (.iadd, 1) := by decide +kernel
theorem dL_law_418 : decode cL_law 418 = .ok (.iaload, 1) := by decide +kernel
theorem dL_law_419 : decode cL_law 419 = .ok (.aload_n 0, 1) := by decide +kernel
theorem dL_law_420 : decode cL_law 420 = .ok (.iload_n 3, 1) := by decide +kernel
theorem dL_law_421 : decode cL_law 421 = .ok (.iconst 2, 1) := by decide +kernel
theorem dL_law_422 : decode cL_law 422 = .ok (.iadd, 1) := by decide +kernel
theorem dL_law_423 : decode cL_law 423 = .ok (.iaload, 1) := by decide +kernel
theorem dL_law_424 : decode cL_law 424 = .ok (.invokevirtual 63, 3) := by decide +kernel
theorem dL_law_427 : decode cL_law 427 = .ok (.if_icmp .eq 381, 3) := by decide +kernel
theorem dL_law_430 : decode cL_law 430 = .ok (.iconst 0, 1) := by decide +kernel
theorem dL_law_431 : decode cL_law 431 = .ok (.ireturn, 1) := by decide +kernel
theorem dL_law_432 : decode cL_law 432 = .ok (.aload_n 1, 1) := by decide +kernel
theorem dL_law_433 : decode cL_law 433 = .ok (.aload_n 0, 1) := by decide +kernel
theorem dL_law_434 : decode cL_law 434 = .ok (.iload_n 3, 1) := by decide +kernel
theorem dL_law_435 : decode cL_law 435 = .ok (.iconst 1, 1) := by decide +kernel
theorem dL_law_436 : decode cL_law 436 = .ok (.iadd, 1) := by decide +kernel
theorem dL_law_437 : decode cL_law 437 = .ok (.iaload, 1) := by decide +kernel
theorem dL_law_438 : decode cL_law 438 = .ok (.aload_n 0, 1) := by decide +kernel
theorem dL_law_439 : decode cL_law 439 = .ok (.iload_n 3, 1) := by decide +kernel
theorem dL_law_440 : decode cL_law 440 = .ok (.iconst 2, 1) := by decide +kernel
theorem dL_law_441 : decode cL_law 441 = .ok (.iadd, 1) := by decide +kernel
theorem dL_law_442 : decode cL_law 442 = .ok (.iaload, 1) := by decide +kernel
theorem dL_law_443 : decode cL_law 443 = .ok (.invokevirtual 64, 3) := by decide +kernel
theorem dL_law_446 : decode cL_law 446 = .ok (.aload_n 2, 1) := by decide +kernel
theorem dL_law_447 : decode cL_law 447 = .ok (.aload_n 0, 1) := by decide +kernel
theorem dL_law_448 : decode cL_law 448 = .ok (.iload_n 3, 1) := by decide +kernel
theorem dL_law_449 : decode cL_law 449 = .ok (.iconst 1, 1) := by decide +kernel
theorem dL_law_450 : decode cL_law 450 = .ok (.iadd, 1) := by decide +kernel
theorem dL_law_451 : decode cL_law 451 = .ok (.iaload, 1) := by decide +kernel
theorem dL_law_452 : decode cL_law 452 = .ok (.aload_n 0, 1) := by decide +kernel
theorem dL_law_453 : decode cL_law 453 = .ok (.iload_n 3, 1) := by decide +kernel
theorem dL_law_454 : decode cL_law 454 = .ok (.iconst 2, 1) := by decide +kernel
theorem dL_law_455 : decode cL_law 455 = .ok (.iadd, 1) := by decide +kernel
theorem dL_law_456 : decode cL_law 456 = .ok (.iaload, 1) := by decide +kernel
theorem dL_law_457 : decode cL_law 457 = .ok (.invokevirtual 67, 3) := by decide +kernel
theorem dL_law_460 : decode cL_law 460 = .ok (.if_icmp .eq 348, 3) := by decide +kernel
theorem dL_law_463 : decode cL_law 463 = .ok (.iconst 0, 1) := by decide +kernel
theorem dL_law_464 : decode cL_law 464 = .ok (.ireturn, 1) := by decide +kernel
theorem dL_law_465 : decode cL_law 465 = .ok (.aload_n 1, 1) := by decide +kernel
theorem dL_law_466 : decode cL_law 466 = .ok (.aload_n 0, 1) := by decide +kernel
theorem dL_law_467 : decode cL_law 467 = .ok (.iload_n 3, 1) := by decide +kernel
theorem dL_law_468 : decode cL_law 468 = .ok (.iconst 1, 1) := by decide +kernel
theorem dL_law_469 : decode cL_law 469 = .ok (.iadd, 1) := by decide +kernel
theorem dL_law_470 : decode cL_law 470 = .ok (.iaload, 1) := by decide +kernel
theorem dL_law_471 : decode cL_law 471 = .ok (.invokevirtual 68, 3) := by decide +kernel
theorem dL_law_474 : decode cL_law 474 = .ok (.aload_n 2, 1) := by decide +kernel
theorem dL_law_475 : decode cL_law 475 = .ok (.aload_n 0, 1) := by decide +kernel
theorem dL_law_476 : decode cL_law 476 = .ok (.iload_n 3, 1) := by decide +kernel
theorem dL_law_477 : decode cL_law 477 = .ok (.iconst 1, 1) := by decide +kernel
theorem dL_law_478 : decode cL_law 478 = .ok (.iadd, 1) := by decide +kernel
theorem dL_law_479 : decode cL_law 479 = .ok (.iaload, 1) := by decide +kernel
theorem dL_law_480 : decode cL_law 480 = .ok (.invokevirtual 71, 3) := by decide +kernel
theorem dL_law_483 : decode cL_law 483 = .ok (.if_icmp .eq 325, 3) := by decide +kernel
theorem dL_law_486 : decode cL_law 486 = .ok (.iconst 0, 1) := by decide +kernel
theorem dL_law_487 : decode cL_law 487 = .ok (.ireturn, 1) := by decide +kernel
theorem dL_law_488 : decode cL_law 488 = .ok (.aload_n 1, 1) := by decide +kernel
theorem dL_law_489 : decode cL_law 489 = .ok (.aload_n 0, 1) := by decide +kernel
theorem dL_law_490 : decode cL_law 490 = .ok (.iload_n 3, 1) := by decide +kernel
theorem dL_law_491 : decode cL_law 491 = .ok (.iconst 1, 1) := by decide +kernel
theorem dL_law_492 : decode cL_law 492 = .ok (.iadd, 1) := by decide +kernel
theorem dL_law_493 : decode cL_law 493 = .ok (.iaload, 1) := by decide +kernel
theorem dL_law_494 : decode cL_law 494 = .ok (.aload_n 0, 1) := by decide +kernel
theorem dL_law_495 : decode cL_law 495 = .ok (.iload_n 3, 1) := by decide +kernel
theorem dL_law_496 : decode cL_law 496 = .ok (.iconst 2, 1) := by decide +kernel
theorem dL_law_497 : decode cL_law 497 = .ok (.iadd, 1) := by decide +kernel
theorem dL_law_498 : decode cL_law 498 = .ok (.iaload, 1) := by decide +kernel
theorem dL_law_499 : decode cL_law 499 = .ok (.invokevirtual 72, 3) := by decide +kernel
theorem dL_law_502 : decode cL_law 502 = .ok (.aload_n 2, 1) := by decide +kernel
theorem dL_law_503 : decode cL_law 503 = .ok (.aload_n 0, 1) := by decide +kernel
theorem dL_law_504 : decode cL_law 504 = .ok (.iload_n 3, 1) := by decide +kernel
theorem dL_law_505 : decode cL_law 505 = .ok (.iconst 1, 1) := by decide +kernel
theorem dL_law_506 : decode cL_law 506 = .ok (.iadd, 1) := by decide +kernel
theorem dL_law_507 : decode cL_law 507 = .ok (.iaload, 1) := by decide +kernel
theorem dL_law_508 : decode cL_law 508 = .ok (.aload_n 0, 1) := by decide +kernel
theorem dL_law_509 : decode cL_law 509 = .ok (.iload_n 3, 1) := by decide +kernel
theorem dL_law_510 : decode cL_law 510 = .ok (.iconst 2, 1) := by decide +kernel
theorem dL_law_511 : decode cL_law 511 = .ok (.iadd, 1) := by decide +kernel
theorem dL_law_512 : decode cL_law 512 = .ok (.iaload, 1) := by decide +kernel
theorem dL_law_513 : decode cL_law 513 = .ok (.invokevirtual 75, 3) := by decide +kernel
theorem dL_law_516 : decode cL_law 516 = .ok (.if_icmp .eq 292, 3) := by decide +kernel
theorem dL_law_519 : decode cL_law 519 = .ok (.iconst 0, 1) := by decide +kernel
theorem dL_law_520 : decode cL_law 520 = .ok (.ireturn, 1) := by decide +kernel
theorem dL_law_521 : decode cL_law 521 = .ok (.aload_n 1, 1) := by decide +kernel
theorem dL_law_522 : decode cL_law 522 = .ok (.aload_n 0, 1) := by decide +kernel
theorem dL_law_523 : decode cL_law 523 = .ok (.iload_n 3, 1) := by decide +kernel
theorem dL_law_524 : decode cL_law 524 = .ok (.iconst 1, 1) := by decide +kernel
theorem dL_law_525 : decode cL_law 525 = .ok (.iadd, 1) := by decide +kernel
theorem dL_law_526 : decode cL_law 526 = .ok (.iaload, 1) := by decide +kernel
theorem dL_law_527 : decode cL_law 527 = .ok (.aload_n 0, 1) := by decide +kernel
theorem dL_law_528 : decode cL_law 528 = .ok (.iload_n 3, 1) := by decide +kernel
theorem dL_law_529 : decode cL_law 529 = .ok (.iconst 2, 1) := by decide +kernel
theorem dL_law_530 : decode cL_law 530 = .ok (.iadd, 1) := by decide +kernel
theorem dL_law_531 : decode cL_law 531 = .ok (.iaload, 1) := by decide +kernel
theorem dL_law_532 : decode cL_law 532 = .ok (.invokevirtual 76, 3) := by decide +kernel
theorem dL_law_535 : decode cL_law 535 = .ok (.aload_n 2, 1) := by decide +kernel
theorem dL_law_536 : decode cL_law 536 = .ok (.aload_n 0, 1) := by decide +kernel
theorem dL_law_537 : decode cL_law 537 = .ok (.iload_n 3, 1) := by decide +kernel
theorem dL_law_538 : decode cL_law 538 = .ok (.iconst 1, 1) := by decide +kernel
theorem dL_law_539 : decode cL_law 539 = .ok (.iadd, 1) := by decide +kernel
theorem dL_law_540 : decode cL_law 540 = .ok (.iaload, 1) := by decide +kernel
theorem dL_law_541 : decode cL_law 541 = .ok (.aload_n 0, 1) := by decide +kernel
theorem dL_law_542 : decode cL_law 542 = .ok (.iload_n 3, 1) := by decide +kernel
theorem dL_law_543 : decode cL_law 543 = .ok (.iconst 2, 1) := by decide +kernel
theorem dL_law_544 : decode cL_law 544 = .ok (.iadd, 1) := by decide +kernel
theorem dL_law_545 : decode cL_law 545 = .ok (.iaload, 1) := by decide +kernel
theorem dL_law_546 : decode cL_law 546 = .ok (.invokevirtual 79, 3) := by decide +kernel
theorem dL_law_549 : decode cL_law 549 = .ok (.if_icmp .eq 259, 3) := by decide +kernel
theorem dL_law_552 : decode cL_law 552 = .ok (.iconst 0, 1) := by decide +kernel
theorem dL_law_553 : decode cL_law 553 = .ok (.ireturn, 1) := by decide +kernel
theorem dL_law_554 : decode cL_law 554 = .ok (.aload_n 1, 1) := by decide +kernel
theorem dL_law_555 : decode cL_law 555 = .ok (.aload_n 0, 1) := by decide +kernel
theorem dL_law_556 : decode cL_law 556 = .ok (.iload_n 3, 1) := by decide +kernel
theorem dL_law_557 : decode cL_law 557 = .ok (.iconst 1, 1) := by decide +kernel
theorem dL_law_558 : decode cL_law 558 = .ok (.iadd, 1) := by decide +kernel
theorem dL_law_559 : decode cL_law 559 = .ok (.iaload, 1) := by decide +kernel
theorem dL_law_560 : decode cL_law 560 = .ok (.aload_n 0, 1) := by decide +kernel
theorem dL_law_561 : decode cL_law 561 = .ok (.iload_n 3, 1) := by decide +kernel
theorem dL_law_562 : decode cL_law 562 = .ok (.iconst 2, 1) := by decide +kernel
theorem dL_law_563 : decode cL_law 563 = .ok (.iadd, 1) := by decide +kernel
theorem dL_law_564 : decode cL_law 564 = .ok (.iaload, 1) := by decide +kernel
theorem dL_law_565 : decode cL_law 565 = .ok (.aload_n 0, 1) := by decide +kernel
theorem dL_law_566 : decode cL_law 566 = .ok (.iload_n 3, 1) := by decide +kernel
theorem dL_law_567 : decode cL_law 567 = .ok (.iconst 3, 1) := by decide +kernel
theorem dL_law_568 : decode cL_law 568 = .ok (.iadd, 1) := by decide +kernel
theorem dL_law_569 : decode cL_law 569 = .ok (.iaload, 1) := by decide +kernel
theorem dL_law_570 : decode cL_law 570 = .ok (.invokevirtual 80, 3) := by decide +kernel
theorem dL_law_573 : decode cL_law 573 = .ok (.aload_n 2, 1) := by decide +kernel
theorem dL_law_574 : decode cL_law 574 = .ok (.aload_n 0, 1) := by decide +kernel
theorem dL_law_575 : decode cL_law 575 = .ok (.iload_n 3, 1) := by decide +kernel
theorem dL_law_576 : decode cL_law 576 = .ok (.iconst 1, 1) := by decide +kernel
theorem dL_law_577 : decode cL_law 577 = .ok (.iadd, 1) := by decide +kernel
theorem dL_law_578 : decode cL_law 578 = .ok (.iaload, 1) := by decide +kernel
theorem dL_law_579 : decode cL_law 579 = .ok (.aload_n 0, 1) := by decide +kernel
theorem dL_law_580 : decode cL_law 580 = .ok (.iload_n 3, 1) := by decide +kernel
theorem dL_law_581 : decode cL_law 581 = .ok (.iconst 2, 1) := by decide +kernel
theorem dL_law_582 : decode cL_law 582 = .ok (.iadd, 1) := by decide +kernel
theorem dL_law_583 : decode cL_law 583 = .ok (.iaload, 1) := by decide +kernel
theorem dL_law_584 : decode cL_law 584 = .ok (.aload_n 0, 1) := by decide +kernel
theorem dL_law_585 : decode cL_law 585 = .ok (.iload_n 3, 1) := by decide +kernel
theorem dL_law_586 : decode cL_law 586 = .ok (.iconst 3, 1) := by decide +kernel
theorem dL_law_587 : decode cL_law 587 = .ok (.iadd, 1) := by decide +kernel
theorem dL_law_588 : decode cL_law 588 = .ok (.iaload, 1) := by decide +kernel
theorem dL_law_589 : decode cL_law 589 = .ok (.invokevirtual 84, 3) := by decide +kernel
theorem dL_law_592 : decode cL_law 592 = .ok (.if_icmp .eq 216, 3) := by decide +kernel
theorem dL_law_595 : decode cL_law 595 = .ok (.iconst 0, 1) := by decide +kernel
theorem dL_law_596 : decode cL_law 596 = .ok (.ireturn, 1) := by decide +kernel
theorem dL_law_597 : decode cL_law 597 = .ok (.aload_n 1, 1) := by decide +kernel
theorem dL_law_598 : decode cL_law 598 = .ok (.aload_n 0, 1) := by decide +kernel
theorem dL_law_599 : decode cL_law 599 = .ok (.iload_n 3, 1) := by decide +kernel
theorem dL_law_600 : decode cL_law 600 = .ok (.iconst 1, 1) := by decide +kernel
theorem dL_law_601 : decode cL_law 601 = .ok (.iadd, 1) := by decide +kernel
theorem dL_law_602 : decode cL_law 602 = .ok (.iaload, 1) := by decide +kernel
theorem dL_law_603 : decode cL_law 603 = .ok (.aload_n 0, 1) := by decide +kernel
theorem dL_law_604 : decode cL_law 604 = .ok (.iload_n 3, 1) := by decide +kernel
theorem dL_law_605 : decode cL_law 605 = .ok (.iconst 2, 1) := by decide +kernel
theorem dL_law_606 : decode cL_law 606 = .ok (.iadd, 1) := by decide +kernel
theorem dL_law_607 : decode cL_law 607 = .ok (.iaload, 1) := by decide +kernel
theorem dL_law_608 : decode cL_law 608 = .ok (.invokevirtual 85, 3) := by decide +kernel
theorem dL_law_611 : decode cL_law 611 = .ok (.aload_n 2, 1) := by decide +kernel
theorem dL_law_612 : decode cL_law 612 = .ok (.aload_n 0, 1) := by decide +kernel
theorem dL_law_613 : decode cL_law 613 = .ok (.iload_n 3, 1) := by decide +kernel
theorem dL_law_614 : decode cL_law 614 = .ok (.iconst 1, 1) := by decide +kernel
theorem dL_law_615 : decode cL_law 615 = .ok (.iadd, 1) := by decide +kernel
theorem dL_law_616 : decode cL_law 616 = .ok (.iaload, 1) := by decide +kernel
theorem dL_law_617 : decode cL_law 617 = .ok (.aload_n 0, 1) := by decide +kernel
theorem dL_law_618 : decode cL_law 618 = .ok (.iload_n 3, 1) := by decide +kernel
theorem dL_law_619 : decode cL_law 619 = .ok (.iconst 2, 1) := by decide +kernel
theorem dL_law_620 : decode cL_law 620 = .ok (.iadd, 1) := by decide +kernel
theorem dL_law_621 : decode cL_law 621 = .ok (.iaload, 1) := by decide +kernel
theorem dL_law_622 : decode cL_law 622 = .ok (.invokevirtual 88, 3) := by decide +kernel
theorem dL_law_625 : decode cL_law 625 = .ok (.if_icmp .eq 183, 3) := by decide +kernel
theorem dL_law_628 : decode cL_law 628 = .ok (.iconst 0, 1) := by decide +kernel
theorem dL_law_629 : decode cL_law 629 = .ok (.ireturn, 1) := by decide +kernel
theorem dL_law_630 : decode cL_law 630 = .ok (.aload_n 1, 1) := by decide +kernel
theorem dL_law_631 : decode cL_law 631 = .ok (.aload_n 0, 1) := by decide +kernel
theorem dL_law_632 : decode cL_law 632 = .ok (.iload_n 3, 1) := by decide +kernel
theorem dL_law_633 : decode cL_law 633 = .ok (.iconst 1, 1) := by decide +kernel
theorem dL_law_634 : decode cL_law 634 = .ok (.iadd, 1) := by decide +kernel
theorem dL_law_635 : decode cL_law 635 = .ok (.iaload, 1) := by decide +kernel
theorem dL_law_636 : decode cL_law 636 = .ok (.aload_n 0, 1) := by decide +kernel
theorem dL_law_637 : decode cL_law 637 = .ok (.iload_n 3, 1) := by decide +kernel
theorem dL_law_638 : decode cL_law 638 = .ok (.iconst 2, 1) := by decide +kernel
theorem dL_law_639 : decode cL_law 639 = .ok (.iadd, 1) := by decide +kernel
theorem dL_law_640 : decode cL_law 640 = .ok (.iaload, 1) := by decide +kernel
theorem dL_law_641 : decode cL_law 641 = .ok (.invokevirtual 89, 3) := by decide +kernel
theorem dL_law_644 : decode cL_law 644 = .ok (.aload_n 2, 1) := by decide +kernel
theorem dL_law_645 : decode cL_law 645 = .ok (.aload_n 0, 1) := by decide +kernel
theorem dL_law_646 : decode cL_law 646 = .ok (.iload_n 3, 1) := by decide +kernel
theorem dL_law_647 : decode cL_law 647 = .ok (.iconst 1, 1) := by decide +kernel
theorem dL_law_648 : decode cL_law 648 = .ok (.iadd, 1) := by decide +kernel
theorem dL_law_649 : decode cL_law 649 = .ok (.iaload, 1) := by decide +kernel
theorem dL_law_650 : decode cL_law 650 = .ok (.aload_n 0, 1) := by decide +kernel
theorem dL_law_651 : decode cL_law 651 = .ok (.iload_n 3, 1) := by decide +kernel
theorem dL_law_652 : decode cL_law 652 = .ok (.iconst 2, 1) := by decide +kernel
theorem dL_law_653 : decode cL_law 653 = .ok (.iadd, 1) := by decide +kernel
theorem dL_law_654 : decode cL_law 654 = .ok (.iaload, 1) := by decide +kernel
theorem dL_law_655 : decode cL_law 655 = .ok (.invokevirtual 92, 3) := by decide +kernel
theorem dL_law_658 : decode cL_law 658 = .ok (.if_icmp .eq 150, 3) := by decide +kernel
theorem dL_law_661 : decode cL_law 661 = .ok (.iconst 0, 1) := by decide +kernel
theorem dL_law_662 : decode cL_law 662 = .ok (.ireturn, 1) := by decide +kernel
theorem dL_law_663 : decode cL_law 663 = .ok (.aload_n 1, 1) := by decide +kernel
theorem dL_law_664 : decode cL_law 664 = .ok (.invokevirtual 93, 3) := by decide +kernel
theorem dL_law_667 : decode cL_law 667 = .ok (.aload_n 2, 1) := by decide +kernel
theorem dL_law_668 : decode cL_law 668 = .ok (.invokevirtual 96, 3) := by decide +kernel
theorem dL_law_671 : decode cL_law 671 = .ok (.if_icmp .eq 137, 3) := by decide +kernel
theorem dL_law_674 : decode cL_law 674 = .ok (.iconst 0, 1) := by decide +kernel
theorem dL_law_675 : decode cL_law 675 = .ok (.ireturn, 1) := by decide +kernel
theorem dL_law_676 : decode cL_law 676 = .ok (.aload_n 1, 1) := by decide +kernel
theorem dL_law_677 : decode cL_law 677 = .ok (.invokevirtual 97, 3) := by decide +kernel
theorem dL_law_680 : decode cL_law 680 = .ok (.aload_n 2, 1) := by decide +kernel
theorem dL_law_681 : decode cL_law 681 = .ok (.invokevirtual 100, 3) := by decide +kernel
theorem dL_law_684 : decode cL_law 684 = .ok (.if_icmp .eq 124, 3) := by decide +kernel
theorem dL_law_687 : decode cL_law 687 = .ok (.iconst 0, 1) := by decide +kernel
theorem dL_law_688 : decode cL_law 688 = .ok (.ireturn, 1) := by decide +kernel
theorem dL_law_689 : decode cL_law 689 = .ok (.aload_n 1, 1) := by decide +kernel
theorem dL_law_690 : decode cL_law 690 = .ok (.invokevirtual 101, 3) := by decide +kernel
theorem dL_law_693 : decode cL_law 693 = .ok (.aload_n 2, 1) := by decide +kernel
theorem dL_law_694 : decode cL_law 694 = .ok (.invokevirtual 104, 3) := by decide +kernel
theorem dL_law_697 : decode cL_law 697 = .ok (.if_icmp .eq 111, 3) := by decide +kernel
theorem dL_law_700 : decode cL_law 700 = .ok (.iconst 0, 1) := by decide +kernel
theorem dL_law_701 : decode cL_law 701 = .ok (.ireturn, 1) := by decide +kernel
theorem dL_law_702 : decode cL_law 702 = .ok (.aload_n 1, 1) := by decide +kernel
theorem dL_law_703 : decode cL_law 703 = .ok (.aload_n 0, 1) := by decide +kernel
theorem dL_law_704 : decode cL_law 704 = .ok (.iload_n 3, 1) := by decide +kernel
theorem dL_law_705 : decode cL_law 705 = .ok (.iconst 1, 1) := by decide +kernel
theorem dL_law_706 : decode cL_law 706 = .ok (.iadd, 1) := by decide +kernel
theorem dL_law_707 : decode cL_law 707 = .ok (.iaload, 1) := by decide +kernel
theorem dL_law_708 : decode cL_law 708 = .ok (.aload_n 0, 1) := by decide +kernel
theorem dL_law_709 : decode cL_law 709 = .ok (.iload_n 3, 1) := by decide +kernel
theorem dL_law_710 : decode cL_law 710 = .ok (.iconst 2, 1) := by decide +kernel
theorem dL_law_711 : decode cL_law 711 = .ok (.iadd, 1) := by decide +kernel
theorem dL_law_712 : decode cL_law 712 = .ok (.iaload, 1) := by decide +kernel
theorem dL_law_713 : decode cL_law 713 = .ok (.aload_n 0, 1) := by decide +kernel
theorem dL_law_714 : decode cL_law 714 = .ok (.iload_n 3, 1) := by decide +kernel
theorem dL_law_715 : decode cL_law 715 = .ok (.iconst 3, 1) := by decide +kernel
theorem dL_law_716 : decode cL_law 716 = .ok (.iadd, 1) := by decide +kernel
theorem dL_law_717 : decode cL_law 717 = .ok (.iaload, 1) := by decide +kernel
theorem dL_law_718 : decode cL_law 718 = .ok (.invokevirtual 105, 3) := by decide +kernel
theorem dL_law_721 : decode cL_law 721 = .ok (.aload_n 2, 1) := by decide +kernel
theorem dL_law_722 : decode cL_law 722 = .ok (.aload_n 0, 1) := by decide +kernel
theorem dL_law_723 : decode cL_law 723 = .ok (.iload_n 3, 1) := by decide +kernel
theorem dL_law_724 : decode cL_law 724 = .ok (.iconst 1, 1) := by decide +kernel
theorem dL_law_725 : decode cL_law 725 = .ok (.iadd, 1) := by decide +kernel
theorem dL_law_726 : decode cL_law 726 = .ok (.iaload, 1) := by decide +kernel
theorem dL_law_727 : decode cL_law 727 = .ok (.aload_n 0, 1) := by decide +kernel
theorem dL_law_728 : decode cL_law 728 = .ok (.iload_n 3, 1) := by decide +kernel
theorem dL_law_729 : decode cL_law 729 = .ok (.iconst 2, 1) := by decide +kernel
theorem dL_law_730 : decode cL_law 730 = .ok (.iadd, 1) := by decide +kernel
theorem dL_law_731 : decode cL_law 731 = .ok (.iaload, 1) := by decide +kernel
theorem dL_law_732 : decode cL_law 732 = .ok (.aload_n 0, 1) := by decide +kernel
theorem dL_law_733 : decode cL_law 733 = .ok (.iload_n 3, 1) := by decide +kernel
theorem dL_law_734 : decode cL_law 734 = .ok (.iconst 3, 1) := by decide +kernel
theorem dL_law_735 : decode cL_law 735 = .ok (.iadd, 1) := by decide +kernel
theorem dL_law_736 : decode cL_law 736 = .ok (.iaload, 1) := by decide +kernel
theorem dL_law_737 : decode cL_law 737 = .ok (.invokevirtual 108, 3) := by decide +kernel
theorem dL_law_740 : decode cL_law 740 = .ok (.if_icmp .eq 68, 3) := by decide +kernel
theorem dL_law_743 : decode cL_law 743 = .ok (.iconst 0, 1) := by decide +kernel
theorem dL_law_744 : decode cL_law 744 = .ok (.ireturn, 1) := by decide +kernel
theorem dL_law_745 : decode cL_law 745 = .ok (.aload_n 1, 1) := by decide +kernel
theorem dL_law_746 : decode cL_law 746 = .ok (.invokevirtual 109, 3) := by decide +kernel
theorem dL_law_749 : decode cL_law 749 = .ok (.aload_n 2, 1) := by decide +kernel
theorem dL_law_750 : decode cL_law 750 = .ok (.invokevirtual 112, 3) := by decide +kernel
theorem dL_law_753 : decode cL_law 753 = .ok (.if_icmp .eq 55, 3) := by decide +kernel
theorem dL_law_756 : decode cL_law 756 = .ok (.iconst 0, 1) := by decide +kernel
theorem dL_law_757 : decode cL_law 757 = .ok (.ireturn, 1) := by decide +kernel
theorem dL_law_758 : decode cL_law 758 = .ok (.aload_n 1, 1) := by decide +kernel
theorem dL_law_759 : decode cL_law 759 = .ok (.invokevirtual 113, 3) := by decide +kernel
theorem dL_law_762 : decode cL_law 762 = .ok (.aload_n 2, 1) := by decide +kernel
theorem dL_law_763 : decode cL_law 763 = .ok (.invokevirtual 116, 3) := by decide +kernel
theorem dL_law_766 : decode cL_law 766 = .ok (.if_icmp .eq 42, 3) := by decide +kernel
theorem dL_law_769 : decode cL_law 769 = .ok (.iconst 0, 1) := by decide +kernel
theorem dL_law_770 : decode cL_law 770 = .ok (.ireturn, 1) := by decide +kernel
theorem dL_law_771 : decode cL_law 771 = .ok (.aload_n 1, 1) := by decide +kernel
theorem dL_law_772 : decode cL_law 772 = .ok (.aload_n 0, 1) := by decide +kernel
theorem dL_law_773 : decode cL_law 773 = .ok (.iload_n 3, 1) := by decide +kernel
theorem dL_law_774 : decode cL_law 774 = .ok (.iconst 1, 1) := by decide +kernel
theorem dL_law_775 : decode cL_law 775 = .ok (.iadd, 1) := by decide +kernel
theorem dL_law_776 : decode cL_law 776 = .ok (.iaload, 1) := by decide +kernel
theorem dL_law_777 : decode cL_law 777 = .ok (.invokevirtual 117, 3) := by decide +kernel
theorem dL_law_780 : decode cL_law 780 = .ok (.aload_n 2, 1) := by decide +kernel
theorem dL_law_781 : decode cL_law 781 = .ok (.aload_n 0, 1) := by decide +kernel
theorem dL_law_782 : decode cL_law 782 = .ok (.iload_n 3, 1) := by decide +kernel
theorem dL_law_783 : decode cL_law 783 = .ok (.iconst 1, 1) := by decide +kernel
theorem dL_law_784 : decode cL_law 784 = .ok (.iadd, 1) := by decide +kernel
theorem dL_law_785 : decode cL_law 785 = .ok (.iaload, 1) := by decide +kernel
theorem dL_law_786 : decode cL_law 786 = .ok (.invokevirtual 120, 3) := by decide +kernel
theorem dL_law_789 : decode cL_law 789 = .ok (.if_icmp .eq 19, 3) := by decide +kernel
theorem dL_law_792 : decode cL_law 792 = .ok (.iconst 0, 1) := by decide +kernel
theorem dL_law_793 : decode cL_law 793 = .ok (.ireturn, 1) := by decide +kernel
theorem dL_law_794 : decode cL_law 794 = .ok (.aload_n 1, 1) := by decide +kernel
theorem dL_law_795 : decode cL_law 795 = .ok (.invokevirtual 121, 3) := by decide +kernel
theorem dL_law_798 : decode cL_law 798 = .ok (.aload_n 2, 1) := by decide +kernel
theorem dL_law_799 : decode cL_law 799 = .ok (.invokevirtual 125, 3) := by decide +kernel
theorem dL_law_802 : decode cL_law 802 = .ok (.lcmp, 1) := by decide +kernel
theorem dL_law_803 : decode cL_law 803 = .ok (.ifCond .eq 5, 3) := by decide +kernel
theorem dL_law_806 : decode cL_law 806 = .ok (.iconst 0, 1) := by decide +kernel
theorem dL_law_807 : decode cL_law 807 = .ok (.ireturn, 1) := by decide +kernel
theorem dL_law_808 : decode cL_law 808 = .ok (.iinc 3 4, 3) := by decide +kernel
theorem dL_law_811 : decode cL_law 811 = .ok (.goto (-793), 3) := by decide +kernel
theorem dL_law_814 : decode cL_law 814 = .ok (.iconst 1, 1) := by decide +kernel
theorem dL_law_815 : decode cL_law 815 = .ok (.ireturn, 1) := by decide +kernel
end
section
/-- the tables' words that a call hands on -/
def wA : List Cond := lw_tbl.filter goodWord
theorem wA_t {w : Cond} (i : Nat) (h : tables_1[i]? = some w) (g : goodWord w = true) : w ∈ wA := List.mem_filter.mpr ⟨List.mem_append_right _ (List.mem_of_getElem? h), g⟩
theorem wA_s {y : MethodName} {n : Nat} (i : Nat) (h : lw_privs[i]? = some (y, n)) : Cond.selects y.cls y y ∈ wA := List.mem_filter.mpr ⟨List.mem_append_left _ (List.mem_map.mpr ⟨(y, n), List.mem_of_getElem? h, rfl⟩), rfl⟩
theorem wA_u {w : Cond} (h : w ∈ tables_1) (g : goodWord w = true) : w ∈ wA := List.mem_filter.mpr ⟨List.mem_append_right _ h, g⟩
theorem wA_t1 {w : Cond} (i : Nat) (h : tables_1_1[i]? = some w) (g : goodWord w = true) : w ∈ wA := wA_u (List.mem_append_left _ (List.mem_of_getElem? h)) g
theorem wA_t2 {w : Cond} (i : Nat) (h : tables_1_2[i]? = some w) (g : goodWord w = true) : w ∈ wA := wA_u (List.mem_append_right _ (List.mem_append_left _ (List.mem_of_getElem? h))) g
theorem wA_t3 {w : Cond} (i : Nat) (h : tables_1_3[i]? = some w) (g : goodWord w = true) : w ∈ wA := wA_u (List.mem_append_right _ (List.mem_append_right _ (List.mem_append_left _ (List.mem_of_getElem? h)))) g
theorem wA_t4 {w : Cond} (i : Nat) (h : tables_1_4[i]? = some w) (g : goodWord w = true) : w ∈ wA := wA_u (List.mem_append_right _ (List.mem_append_right _ (List.mem_append_right _ (List.mem_append_left _ (List.mem_of_getElem? h))))) g
theorem wA_t5 {w : Cond} (i : Nat) (h : tables_1_5[i]? = some w) (g : goodWord w = true) : w ∈ wA := wA_u (List.mem_append_right _ (List.mem_append_right _ (List.mem_append_right _ (List.mem_append_right _ (List.mem_of_getElem? h))))) g
theorem wA_tbl {w : Cond} (h : w ∈ wA) : w ∈ lw_tbl := (List.mem_filter.mp h).1
theorem wA_ps (ws : List Cond) (ps : List Nat) (hp : ws = ps.filterMap (fun i => tables_1[i]?)) (h : ws.all goodWord = true) : ∀ w ∈ ws, w ∈ wA := by
  intro w hw
  have h1 := List.all_eq_true.mp h w hw
  rw [hp] at hw
  obtain ⟨i, -, hi⟩ := List.mem_filterMap.mp hw
  exact wA_t i hi h1
theorem gd_all {hd : Cond} {ws : List Cond} (h : ∀ w ∈ ws, w ∈ wA) : GoodIn (hd :: wA) ws := fun w hw => ⟨List.mem_cons_of_mem _ (h w hw), good_of_word (List.mem_filter.mp (h w hw)).2⟩
theorem gd_cons {hd c : Cond} (h : c ∈ wA) : GoodIn (hd :: wA) (c :: wA) := gd_all (fun w hw => (List.mem_cons.mp hw).elim (fun e => e ▸ h) id)
theorem q_in_RL : Cond.initialized RL ∈ wA := wA_t1 0 (by decide +kernel) rfl
theorem q_in_RX4 : Cond.initialized RX4 ∈ wA := wA_t1 1 (by decide +kernel) rfl
theorem q_in_RX3 : Cond.initialized RX3 ∈ wA := wA_t1 2 (by decide +kernel) rfl
theorem q_in_RX0 : Cond.initialized RX0 ∈ wA := wA_t1 3 (by decide +kernel) rfl
theorem q_in_RX2 : Cond.initialized RX2 ∈ wA := wA_t1 4 (by decide +kernel) rfl
theorem q_in_RX1 : Cond.initialized RX1 ∈ wA := wA_t1 5 (by decide +kernel) rfl
theorem q_in_RX5 : Cond.initialized RX5 ∈ wA := wA_t1 6 (by decide +kernel) rfl
theorem q_in_RJ0 : Cond.initialized RJ0 ∈ wA := wA_t1 7 (by decide +kernel) rfl
theorem q_in_RJ1 : Cond.initialized RJ1 ∈ wA := wA_t1 8 (by decide +kernel) rfl
theorem q_in_RJ9 : Cond.initialized RJ9 ∈ wA := wA_t1 9 (by decide +kernel) rfl
theorem q_in_RJ2 : Cond.initialized RJ2 ∈ wA := wA_t1 10 (by decide +kernel) rfl
theorem q_in_RJ11 : Cond.initialized RJ11 ∈ wA := wA_t1 12 (by decide +kernel) rfl
theorem q_in_RJ10 : Cond.initialized RJ10 ∈ wA := wA_t1 13 (by decide +kernel) rfl
theorem q_in_RJ6 : Cond.initialized RJ6 ∈ wA := wA_t1 14 (by decide +kernel) rfl
theorem q_cl_RL_7 : Cond.classLink RL 7 RX4 ∈ wA := wA_t1 15 (by decide +kernel) rfl
theorem q_new_RX4 : Cond.instantiable RX4 6 ∈ wA := wA_t1 16 (by decide +kernel) rfl
theorem q_m_RL_9 : Cond.methodLink RL 9 yX4_init ∈ wA := wA_t1 17 (by decide +kernel) rfl
theorem q_i_yX4_init : Cond.instanceMethod yX4_init ∈ wA := wA_t1 18 (by decide +kernel) rfl
theorem q_c_yX4_init : Cond.code yX4_init cX4_init 2 none ∈ wA := wA_t1 19 (by decide +kernel) rfl
theorem q_m_RX4_3 : Cond.methodLink RX4 3 objectInit ∈ wA := wA_t1 20 (by decide +kernel) rfl
theorem q_i_objectInit : Cond.instanceMethod objectInit ∈ wA := wA_t1 21 (by decide +kernel) rfl
theorem q_c_objectInit : Cond.code objectInit ⟨#[0xb1]⟩ 1 none ∈ wA := wA_t1 22 (by decide +kernel) rfl
theorem q_cl_RX4_9 : Cond.classLink RX4 9 RX3 ∈ wA := wA_t1 23 (by decide +kernel) rfl
theorem q_new_RX3 : Cond.instantiable RX3 7 ∈ wA := wA_t1 24 (by decide +kernel) rfl
theorem q_i_yX3_init : Cond.instanceMethod yX3_init ∈ wA := wA_t1 26 (by decide +kernel) rfl
theorem q_c_yX3_init : Cond.code yX3_init cX3_init 1 none ∈ wA := wA_t1 27 (by decide +kernel) rfl
theorem q_m_RX3_3 : Cond.methodLink RX3 3 objectInit ∈ wA := wA_t1 28 (by decide +kernel) rfl
theorem q_cl_RX3_9 : Cond.classLink RX3 9 RX0 ∈ wA := wA_t1 29 (by decide +kernel) rfl
theorem q_new_RX0 : Cond.instantiable RX0 9 ∈ wA := wA_t1 30 (by decide +kernel) rfl
theorem q_i_yX0_init : Cond.instanceMethod yX0_init ∈ wA := wA_t1 32 (by decide +kernel) rfl
theorem q_c_yX0_init : Cond.code yX0_init cX0_init 1 none ∈ wA := wA_t1 33 (by decide +kernel) rfl
theorem q_m_RX0_3 : Cond.methodLink RX0 3 objectInit ∈ wA := wA_t1 34 (by decide +kernel) rfl
theorem q_f_RX0_9 : Cond.fieldLink RX0 9 "CountOut$Circle" "size" "I" ∈ wA := wA_t1 35 (by decide +kernel) rfl
theorem q_f_RX0_15 : Cond.fieldLink RX0 15 "CountOut$Circle" "twins" "I" ∈ wA := wA_t1 39 (by decide +kernel) rfl
theorem q_f_RX0_18 : Cond.fieldLink RX0 18 "CountOut$Circle" "babies" "I" ∈ wA := wA_t1 40 (by decide +kernel) rfl
theorem q_f_RX0_21 : Cond.fieldLink RX0 21 "CountOut$Circle" "sly" "I" ∈ wA := wA_t1 41 (by decide +kernel) rfl
theorem q_f_RX0_24 : Cond.fieldLink RX0 24 "CountOut$Circle" "kings" "I" ∈ wA := wA_t1 42 (by decide +kernel) rfl
theorem q_f_RX0_27 : Cond.fieldLink RX0 27 "CountOut$Circle" "inside" "I" ∈ wA := wA_t1 43 (by decide +kernel) rfl
theorem q_f_RX0_30 : Cond.fieldLink RX0 30 "CountOut$Circle" "slipped" "I" ∈ wA := wA_t1 45 (by decide +kernel) rfl
theorem q_f_RX0_33 : Cond.fieldLink RX0 33 "CountOut$Circle" "first" "I" ∈ wA := wA_t1 48 (by decide +kernel) rfl
theorem q_f_RX0_36 : Cond.fieldLink RX0 36 "CountOut$Circle" "onward" "Z" ∈ wA := wA_t1 50 (by decide +kernel) rfl
theorem q_f_RX3_12 : Cond.fieldLink RX3 12 "CountOut$Scene" "circle" "LCountOut$Circle;" ∈ wA := wA_t1 71 (by decide +kernel) rfl
theorem q_f_RX3_18 : Cond.fieldLink RX3 18 "CountOut$Scene" "beats" "[I" ∈ wA := wA_t1 74 (by decide +kernel) rfl
theorem q_f_RX3_32 : Cond.fieldLink RX3 32 "CountOut$Scene" "verses" "I" ∈ wA := wA_t1 77 (by decide +kernel) rfl
theorem q_f_RX3_61 : Cond.fieldLink RX3 61 "CountOut$Scene" "counts" "I" ∈ wA := wA_t1 80 (by decide +kernel) rfl
theorem q_f_RX3_22 : Cond.fieldLink RX3 22 "CountOut$Scene" "seenFrom" "[I" ∈ wA := wA_t1 82 (by decide +kernel) rfl
theorem q_f_RX3_25 : Cond.fieldLink RX3 25 "CountOut$Scene" "seenOut" "[I" ∈ wA := wA_t1 84 (by decide +kernel) rfl
theorem q_f_RX3_35 : Cond.fieldLink RX3 35 "CountOut$Scene" "seen" "I" ∈ wA := wA_t1 86 (by decide +kernel) rfl
theorem q_arr_int : Cond.arrayClass .int ∈ wA := wA_t1 104 (by decide +kernel) rfl
theorem q_cl_RX4_12 : Cond.classLink RX4 12 RX2 ∈ wA := wA_t1 105 (by decide +kernel) rfl
theorem q_new_RX2 : Cond.instantiable RX2 8 ∈ wA := wA_t1 106 (by decide +kernel) rfl
theorem q_i_yX2_init : Cond.instanceMethod yX2_init ∈ wA := wA_t1 108 (by decide +kernel) rfl
theorem q_c_yX2_init : Cond.code yX2_init cX2_init 1 none ∈ wA := wA_t1 109 (by decide +kernel) rfl
theorem q_m_RX2_3 : Cond.methodLink RX2 3 objectInit ∈ wA := wA_t1 110 (by decide +kernel) rfl
theorem q_f_RX2_9 : Cond.fieldLink RX2 9 "CountOut$Page" "letters" "[I" ∈ wA := wA_t1 111 (by decide +kernel) rfl
theorem q_f_RX2_21 : Cond.fieldLink RX2 21 "CountOut$Page" "size" "I" ∈ wA := wA_t1 113 (by decide +kernel) rfl
theorem q_f_RX2_32 : Cond.fieldLink RX2 32 "CountOut$Page" "due" "I" ∈ wA := wA_t1 115 (by decide +kernel) rfl
theorem q_f_RX2_54 : Cond.fieldLink RX2 54 "CountOut$Page" "tens" "I" ∈ wA := wA_t1 116 (by decide +kernel) rfl
theorem q_f_RX2_15 : Cond.fieldLink RX2 15 "CountOut$Page" "beats" "[I" ∈ wA := wA_t1 117 (by decide +kernel) rfl
theorem q_f_RX2_35 : Cond.fieldLink RX2 35 "CountOut$Page" "verses" "I" ∈ wA := wA_t1 119 (by decide +kernel) rfl
theorem q_f_RX2_18 : Cond.fieldLink RX2 18 "CountOut$Page" "kinds" "[I" ∈ wA := wA_t1 121 (by decide +kernel) rfl
theorem q_f_RX2_29 : Cond.fieldLink RX2 29 "CountOut$Page" "children" "I" ∈ wA := wA_t1 123 (by decide +kernel) rfl
theorem q_cl_RX4_26 : Cond.classLink RX4 26 RX1 ∈ wA := wA_t1 142 (by decide +kernel) rfl
theorem q_new_RX1 : Cond.instantiable RX1 8 ∈ wA := wA_t1 143 (by decide +kernel) rfl
theorem q_m_RX4_28 : Cond.methodLink RX4 28 yX1_init ∈ wA := wA_t1 144 (by decide +kernel) rfl
theorem q_i_yX1_init : Cond.instanceMethod yX1_init ∈ wA := wA_t1 145 (by decide +kernel) rfl
theorem q_c_yX1_init : Cond.code yX1_init cX1_init 2 none ∈ wA := wA_t1 146 (by decide +kernel) rfl
theorem q_m_RX1_3 : Cond.methodLink RX1 3 objectInit ∈ wA := wA_t1 147 (by decide +kernel) rfl
theorem q_cl_RX1_9 : Cond.classLink RX1 9 RX0 ∈ wA := wA_t1 148 (by decide +kernel) rfl
theorem q_kl_RX1_22 : Cond.constantLong RX1 22 (-1) ∈ wA := wA_t1 150 (by decide +kernel) rfl
theorem q_f_RX1_37 : Cond.fieldLink RX1 37 "CountOut$Foresight" "scene" "LCountOut$Scene;" ∈ wA := wA_t1 151 (by decide +kernel) rfl
theorem q_f_RX1_12 : Cond.fieldLink RX1 12 "CountOut$Foresight" "trial" "LCountOut$Circle;" ∈ wA := wA_t1 152 (by decide +kernel) rfl
theorem q_f_RX1_18 : Cond.fieldLink RX1 18 "CountOut$Foresight" "lasts" "[I" ∈ wA := wA_t1 153 (by decide +kernel) rfl
theorem q_f_RX1_24 : Cond.fieldLink RX1 24 "CountOut$Foresight" "lastsKey" "J" ∈ wA := wA_t1 154 (by decide +kernel) rfl
theorem q_f_RX1_28 : Cond.fieldLink RX1 28 "CountOut$Foresight" "ways" "[I" ∈ wA := wA_t1 155 (by decide +kernel) rfl
theorem q_f_RX1_31 : Cond.fieldLink RX1 31 "CountOut$Foresight" "waysKey" "J" ∈ wA := wA_t1 156 (by decide +kernel) rfl
theorem q_f_RX1_34 : Cond.fieldLink RX1 34 "CountOut$Foresight" "tally" "[I" ∈ wA := wA_t1 157 (by decide +kernel) rfl
theorem q_f_RX1_83 : Cond.fieldLink RX1 83 "CountOut$Foresight" "verseSaid" "I" ∈ wA := wA_t1 158 (by decide +kernel) rfl
theorem q_f_RX4_15 : Cond.fieldLink RX4 15 "CountOut" "page" "LCountOut$Page;" ∈ wA := wA_t1 176 (by decide +kernel) rfl
theorem q_f_RX4_19 : Cond.fieldLink RX4 19 "CountOut" "scene" "LCountOut$Scene;" ∈ wA := wA_t1 177 (by decide +kernel) rfl
theorem q_f_RX4_23 : Cond.fieldLink RX4 23 "CountOut" "kept" "LCountOut$Scene;" ∈ wA := wA_t1 178 (by decide +kernel) rfl
theorem q_f_RX4_31 : Cond.fieldLink RX4 31 "CountOut" "foresight" "LCountOut$Foresight;" ∈ wA := wA_t1 179 (by decide +kernel) rfl
theorem q_f_RX4_55 : Cond.fieldLink RX4 55 "CountOut" "isKept" "Z" ∈ wA := wA_t1 180 (by decide +kernel) rfl
theorem q_f_RX4_59 : Cond.fieldLink RX4 59 "CountOut" "ringsRead" "I" ∈ wA := wA_t1 181 (by decide +kernel) rfl
theorem q_m_RL_13 : Cond.methodLink RL 13 yX4_letter ∈ wA := wA_t1 195 (by decide +kernel) rfl
theorem q_i_yX4_letter : Cond.instanceMethod yX4_letter ∈ wA := wA_t1 196 (by decide +kernel) rfl
theorem q_s_yX4_letter : Cond.selects RX4 yX4_letter yX4_letter ∈ wA := wA_t1 197 (by decide +kernel) rfl
theorem q_c_yX4_letter : Cond.code yX4_letter cX4_letter 2 (some .int) ∈ wA := wA_t1 198 (by decide +kernel) rfl
theorem q_m_RX4_35 : Cond.methodLink RX4 35 yX2_append ∈ wA := wA_t1 199 (by decide +kernel) rfl
theorem q_i_yX2_append : Cond.instanceMethod yX2_append ∈ wA := wA_t1 200 (by decide +kernel) rfl
theorem q_s_yX2_append : Cond.selects RX2 yX2_append yX2_append ∈ wA := wA_t1 201 (by decide +kernel) rfl
theorem q_c_yX2_append : Cond.code yX2_append cX2_append 2 (some .boolean) ∈ wA := wA_t1 202 (by decide +kernel) rfl
theorem q_m_RL_18 : Cond.methodLink RL 18 yX4_blank ∈ wA := wA_t1 203 (by decide +kernel) rfl
theorem q_i_yX4_blank : Cond.instanceMethod yX4_blank ∈ wA := wA_t1 204 (by decide +kernel) rfl
theorem q_s_yX4_blank : Cond.selects RX4 yX4_blank yX4_blank ∈ wA := wA_t1 205 (by decide +kernel) rfl
theorem q_c_yX4_blank : Cond.code yX4_blank cX4_blank 2 (some .int) ∈ wA := wA_t1 206 (by decide +kernel) rfl
theorem q_m_RL_23 : Cond.methodLink RL 23 yX4_fault ∈ wA := wA_t1 207 (by decide +kernel) rfl
theorem q_i_yX4_fault : Cond.instanceMethod yX4_fault ∈ wA := wA_t1 208 (by decide +kernel) rfl
theorem q_s_yX4_fault : Cond.selects RX4 yX4_fault yX4_fault ∈ wA := wA_t1 209 (by decide +kernel) rfl
theorem q_c_yX4_fault : Cond.code yX4_fault cX4_fault 1 (some .int) ∈ wA := wA_t1 210 (by decide +kernel) rfl
theorem q_m_RX4_43 : Cond.methodLink RX4 43 yX2_firstFault ∈ wA := wA_t1 211 (by decide +kernel) rfl
theorem q_i_yX2_firstFault : Cond.instanceMethod yX2_firstFault ∈ wA := wA_t1 212 (by decide +kernel) rfl
theorem q_s_yX2_firstFault : Cond.selects RX2 yX2_firstFault yX2_firstFault ∈ wA := wA_t1 213 (by decide +kernel) rfl
theorem q_c_yX2_firstFault : Cond.code yX2_firstFault cX2_firstFault 2 (some .int) ∈ wA := wA_t1 214 (by decide +kernel) rfl
theorem q_m_RX2_38 : Cond.methodLink RX2 38 yX2_reads ∈ wA := wA_t1 215 (by decide +kernel) rfl
theorem q_i_yX2_reads : Cond.instanceMethod yX2_reads ∈ wA := wA_t1 217 (by decide +kernel) rfl
theorem q_c_yX2_reads : Cond.code yX2_reads cX2_reads 2 (some .boolean) ∈ wA := wA_t1 218 (by decide +kernel) rfl
theorem q_m_RX2_42 : Cond.methodLink RX2 42 yX2_readsTens ∈ wA := wA_t1 219 (by decide +kernel) rfl
theorem q_i_yX2_readsTens : Cond.instanceMethod yX2_readsTens ∈ wA := wA_t1 221 (by decide +kernel) rfl
theorem q_c_yX2_readsTens : Cond.code yX2_readsTens cX2_readsTens 2 (some .boolean) ∈ wA := wA_t1 222 (by decide +kernel) rfl
theorem q_m_RX2_45 : Cond.methodLink RX2 45 yX2_readsOnes ∈ wA := wA_t1 223 (by decide +kernel) rfl
theorem q_i_yX2_readsOnes : Cond.instanceMethod yX2_readsOnes ∈ wA := wA_t1 225 (by decide +kernel) rfl
theorem q_c_yX2_readsOnes : Cond.code yX2_readsOnes cX2_readsOnes 3 (some .boolean) ∈ wA := wA_t1 226 (by decide +kernel) rfl
theorem q_m_RX2_48 : Cond.methodLink RX2 48 yX2_readsBetween ∈ wA := wA_t1 227 (by decide +kernel) rfl
theorem q_i_yX2_readsBetween : Cond.instanceMethod yX2_readsBetween ∈ wA := wA_t1 229 (by decide +kernel) rfl
theorem q_c_yX2_readsBetween : Cond.code yX2_readsBetween cX2_readsBetween 2 (some .boolean) ∈ wA := wA_t1 230 (by decide +kernel) rfl
theorem q_m_RX2_51 : Cond.methodLink RX2 51 yX2_readsChild ∈ wA := wA_t1 231 (by decide +kernel) rfl
theorem q_i_yX2_readsChild : Cond.instanceMethod yX2_readsChild ∈ wA := wA_t1 233 (by decide +kernel) rfl
theorem q_c_yX2_readsChild : Cond.code yX2_readsChild cX2_readsChild 3 (some .boolean) ∈ wA := wA_t1 234 (by decide +kernel) rfl
theorem q_m_RX2_59 : Cond.methodLink RX2 59 yJ0_indexOf_0f7a4 ∈ wA := wA_t1 236 (by decide +kernel) rfl
theorem q_i_yJ0_indexOf_0f7a4 : Cond.instanceMethod yJ0_indexOf_0f7a4 ∈ wA := wA_t1 237 (by decide +kernel) rfl
theorem q_s_yJ0_indexOf_0f7a4 : Cond.selects RJ0 yJ0_indexOf_0f7a4 yJ0_indexOf_0f7a4 ∈ wA := wA_t1 238 (by decide +kernel) rfl
theorem q_c_yJ0_indexOf_0f7a4 : Cond.code yJ0_indexOf_0f7a4 cJ0_indexOf_0f7a4 2 (some .int) ∈ wA := wA_t1 239 (by decide +kernel) rfl
theorem q_m_RJ0_633 : Cond.methodLink RJ0 633 yJ0_indexOf_7cf53 ∈ wA := wA_t2 0 (by decide +kernel) rfl
theorem q_i_yJ0_indexOf_7cf53 : Cond.instanceMethod yJ0_indexOf_7cf53 ∈ wA := wA_t2 1 (by decide +kernel) rfl
theorem q_s_yJ0_indexOf_7cf53 : Cond.selects RJ0 yJ0_indexOf_7cf53 yJ0_indexOf_7cf53 ∈ wA := wA_t2 2 (by decide +kernel) rfl
theorem q_c_yJ0_indexOf_7cf53 : Cond.code yJ0_indexOf_7cf53 cJ0_indexOf_7cf53 3 (some .int) ∈ wA := wA_t2 3 (by decide +kernel) rfl
theorem q_m_RJ0_492 : Cond.methodLink RJ0 492 yJ0_isLatin1_aae02 ∈ wA := wA_t2 4 (by decide +kernel) rfl
theorem q_i_yJ0_isLatin1_aae02 : Cond.instanceMethod yJ0_isLatin1_aae02 ∈ wA := wA_t2 5 (by decide +kernel) rfl
theorem q_s_yJ0_isLatin1_aae02 : Cond.selects RJ0 yJ0_isLatin1_aae02 yJ0_isLatin1_aae02 ∈ wA := wA_t2 6 (by decide +kernel) rfl
theorem q_c_yJ0_isLatin1_aae02 : Cond.code yJ0_isLatin1_aae02 cJ0_isLatin1_aae02 1 (some .boolean) ∈ wA := wA_t2 7 (by decide +kernel) rfl
theorem q_f_RJ0_38 : Cond.fieldLink RJ0 38 "java/lang/String" "COMPACT_STRINGS" "Z" ∈ wA := wA_t2 8 (by decide +kernel) rfl
theorem q_m_RJ0_505 : Cond.methodLink RJ0 505 yJ0_length_8abf5 ∈ wA := wA_t2 10 (by decide +kernel) rfl
theorem q_i_yJ0_length_8abf5 : Cond.instanceMethod yJ0_length_8abf5 ∈ wA := wA_t2 11 (by decide +kernel) rfl
theorem q_s_yJ0_length_8abf5 : Cond.selects RJ0 yJ0_length_8abf5 yJ0_length_8abf5 ∈ wA := wA_t2 12 (by decide +kernel) rfl
theorem q_c_yJ0_length_8abf5 : Cond.code yJ0_length_8abf5 cJ0_length_8abf5 1 (some .int) ∈ wA := wA_t2 13 (by decide +kernel) rfl
theorem q_m_RJ0_335 : Cond.methodLink RJ0 335 yJ0_coder_7d493 ∈ wA := wA_t2 14 (by decide +kernel) rfl
theorem q_i_yJ0_coder_7d493 : Cond.instanceMethod yJ0_coder_7d493 ∈ wA := wA_t2 15 (by decide +kernel) rfl
theorem q_s_yJ0_coder_7d493 : Cond.selects RJ0 yJ0_coder_7d493 yJ0_coder_7d493 ∈ wA := wA_t2 16 (by decide +kernel) rfl
theorem q_c_yJ0_coder_7d493 : Cond.code yJ0_coder_7d493 cJ0_coder_7d493 1 (some .byte) ∈ wA := wA_t2 17 (by decide +kernel) rfl
theorem q_m_RJ0_637 : Cond.methodLink RJ0 637 yJ1_indexOf_4cfef ∈ wA := wA_t2 18 (by decide +kernel) rfl
theorem q_st_yJ1_indexOf_4cfef : Cond.static yJ1_indexOf_4cfef ∈ wA := wA_t2 19 (by decide +kernel) rfl
theorem q_c_yJ1_indexOf_4cfef : Cond.code yJ1_indexOf_4cfef cJ1_indexOf_4cfef 4 (some .int) ∈ wA := wA_t2 20 (by decide +kernel) rfl
theorem q_m_RJ1_88 : Cond.methodLink RJ1 88 yJ1_canEncode_9a6ad ∈ wA := wA_t2 21 (by decide +kernel) rfl
theorem q_st_yJ1_canEncode_9a6ad : Cond.static yJ1_canEncode_9a6ad ∈ wA := wA_t2 22 (by decide +kernel) rfl
theorem q_c_yJ1_canEncode_9a6ad : Cond.code yJ1_canEncode_9a6ad cJ1_canEncode_9a6ad 1 (some .boolean) ∈ wA := wA_t2 23 (by decide +kernel) rfl
theorem q_m_RJ1_92 : Cond.methodLink RJ1 92 yJ9_max_7cf53 ∈ wA := wA_t2 24 (by decide +kernel) rfl
theorem q_st_yJ9_max_7cf53 : Cond.static yJ9_max_7cf53 ∈ wA := wA_t2 25 (by decide +kernel) rfl
theorem q_c_yJ9_max_7cf53 : Cond.code yJ9_max_7cf53 cJ9_max_7cf53 2 (some .int) ∈ wA := wA_t2 26 (by decide +kernel) rfl
theorem q_m_RJ1_38 : Cond.methodLink RJ1 38 yJ9_min_7cf53 ∈ wA := wA_t2 27 (by decide +kernel) rfl
theorem q_st_yJ9_min_7cf53 : Cond.static yJ9_min_7cf53 ∈ wA := wA_t2 28 (by decide +kernel) rfl
theorem q_c_yJ9_min_7cf53 : Cond.code yJ9_min_7cf53 cJ9_min_7cf53 2 (some .int) ∈ wA := wA_t2 29 (by decide +kernel) rfl
theorem q_m_RJ1_95 : Cond.methodLink RJ1 95 yJ1_indexOfChar_4cfef ∈ wA := wA_t2 30 (by decide +kernel) rfl
theorem q_st_yJ1_indexOfChar_4cfef : Cond.static yJ1_indexOfChar_4cfef ∈ wA := wA_t2 31 (by decide +kernel) rfl
theorem q_c_yJ1_indexOfChar_4cfef : Cond.code yJ1_indexOfChar_4cfef cJ1_indexOfChar_4cfef 6 (some .int) ∈ wA := wA_t2 32 (by decide +kernel) rfl
theorem q_m_RJ0_640 : Cond.methodLink RJ0 640 yJ2_indexOf_4cfef ∈ wA := wA_t2 33 (by decide +kernel) rfl
theorem q_st_yJ0_checkBoundsBeginEnd_23922 : Cond.static yJ0_checkBoundsBeginEnd_23922 ∈ wA := wA_t2 49 (by decide +kernel) rfl
theorem q_c_yJ0_checkBoundsBeginEnd_23922 : Cond.code yJ0_checkBoundsBeginEnd_23922 cJ0_checkBoundsBeginEnd_23922 3 none ∈ wA := wA_t2 50 (by decide +kernel) rfl
theorem q_f_RJ0_1053 : Cond.fieldLink RJ0 1053 "jdk/internal/util/Preconditions" "SIOOBE_FORMATTER" "Ljava/util/function/BiFunction;" ∈ wA := wA_t2 51 (by decide +kernel) rfl
theorem q_m_RJ0_1062 : Cond.methodLink RJ0 1062 yJ3_checkFromToIndex_8c36e ∈ wA := wA_t2 53 (by decide +kernel) rfl
theorem q_arr_byte : Cond.arrayClass .byte ∈ wA := wA_t2 82 (by decide +kernel) rfl
theorem q_m_RL_27 : Cond.methodLink RL 27 yX4_ring ∈ wA := wA_t2 83 (by decide +kernel) rfl
theorem q_i_yX4_ring : Cond.instanceMethod yX4_ring ∈ wA := wA_t2 84 (by decide +kernel) rfl
theorem q_s_yX4_ring : Cond.selects RX4 yX4_ring yX4_ring ∈ wA := wA_t2 85 (by decide +kernel) rfl
theorem q_c_yX4_ring : Cond.code yX4_ring cX4_ring 1 (some .int) ∈ wA := wA_t2 86 (by decide +kernel) rfl
theorem q_m_RX4_47 : Cond.methodLink RX4 47 yX2_isRing ∈ wA := wA_t2 87 (by decide +kernel) rfl
theorem q_i_yX2_isRing : Cond.instanceMethod yX2_isRing ∈ wA := wA_t2 88 (by decide +kernel) rfl
theorem q_s_yX2_isRing : Cond.selects RX2 yX2_isRing yX2_isRing ∈ wA := wA_t2 89 (by decide +kernel) rfl
theorem q_c_yX2_isRing : Cond.code yX2_isRing cX2_isRing 1 (some .boolean) ∈ wA := wA_t2 90 (by decide +kernel) rfl
theorem q_m_RX2_25 : Cond.methodLink RX2 25 yX2_firstFault ∈ wA := wA_t2 91 (by decide +kernel) rfl
theorem q_m_RX4_51 : Cond.methodLink RX4 51 yX3_setUp ∈ wA := wA_t2 92 (by decide +kernel) rfl
theorem q_i_yX3_setUp : Cond.instanceMethod yX3_setUp ∈ wA := wA_t2 93 (by decide +kernel) rfl
theorem q_s_yX3_setUp : Cond.selects RX3 yX3_setUp yX3_setUp ∈ wA := wA_t2 94 (by decide +kernel) rfl
theorem q_c_yX3_setUp : Cond.code yX3_setUp cX3_setUp 3 none ∈ wA := wA_t2 95 (by decide +kernel) rfl
theorem q_m_RX3_38 : Cond.methodLink RX3 38 yX0_clear ∈ wA := wA_t2 96 (by decide +kernel) rfl
theorem q_i_yX0_clear : Cond.instanceMethod yX0_clear ∈ wA := wA_t2 97 (by decide +kernel) rfl
theorem q_s_yX0_clear : Cond.selects RX0 yX0_clear yX0_clear ∈ wA := wA_t2 98 (by decide +kernel) rfl
theorem q_c_yX0_clear : Cond.code yX0_clear cX0_clear 1 none ∈ wA := wA_t2 99 (by decide +kernel) rfl
theorem q_m_RX3_49 : Cond.methodLink RX3 49 yX0_addBehind ∈ wA := wA_t2 100 (by decide +kernel) rfl
theorem q_i_yX0_addBehind : Cond.instanceMethod yX0_addBehind ∈ wA := wA_t2 101 (by decide +kernel) rfl
theorem q_s_yX0_addBehind : Cond.selects RX0 yX0_addBehind yX0_addBehind ∈ wA := wA_t2 102 (by decide +kernel) rfl
theorem q_c_yX0_addBehind : Cond.code yX0_addBehind cX0_addBehind 2 none ∈ wA := wA_t2 103 (by decide +kernel) rfl
theorem q_m_RX0_40 : Cond.methodLink RX0 40 yX0_become ∈ wA := wA_t2 104 (by decide +kernel) rfl
theorem q_i_yX0_become : Cond.instanceMethod yX0_become ∈ wA := wA_t2 105 (by decide +kernel) rfl
theorem q_s_yX0_become : Cond.selects RX0 yX0_become yX0_become ∈ wA := wA_t2 106 (by decide +kernel) rfl
theorem q_c_yX0_become : Cond.code yX0_become cX0_become 4 none ∈ wA := wA_t2 107 (by decide +kernel) rfl
theorem q_m_RX3_55 : Cond.methodLink RX3 55 arraycopyName ∈ wA := wA_t2 108 (by decide +kernel) rfl
theorem q_st_arraycopyName : Cond.static arraycopyName ∈ wA := wA_t2 109 (by decide +kernel) rfl
theorem q_nat : Cond.native arraycopyName ∈ wA := wA_t2 110 (by decide +kernel) rfl
theorem q_m_RL_31 : Cond.methodLink RL 31 yX4_child ∈ wA := wA_t2 111 (by decide +kernel) rfl
theorem q_i_yX4_child : Cond.instanceMethod yX4_child ∈ wA := wA_t2 112 (by decide +kernel) rfl
theorem q_s_yX4_child : Cond.selects RX4 yX4_child yX4_child ∈ wA := wA_t2 113 (by decide +kernel) rfl
theorem q_c_yX4_child : Cond.code yX4_child cX4_child 4 (some .int) ∈ wA := wA_t2 114 (by decide +kernel) rfl
theorem q_m_RX4_69 : Cond.methodLink RX4 69 yX3_hasChild ∈ wA := wA_t2 115 (by decide +kernel) rfl
theorem q_i_yX3_hasChild : Cond.instanceMethod yX3_hasChild ∈ wA := wA_t2 116 (by decide +kernel) rfl
theorem q_s_yX3_hasChild : Cond.selects RX3 yX3_hasChild yX3_hasChild ∈ wA := wA_t2 117 (by decide +kernel) rfl
theorem q_c_yX3_hasChild : Cond.code yX3_hasChild cX3_hasChild 2 (some .boolean) ∈ wA := wA_t2 118 (by decide +kernel) rfl
theorem q_m_RX4_72 : Cond.methodLink RX4 72 yX0_kindOf ∈ wA := wA_t2 119 (by decide +kernel) rfl
theorem q_i_yX0_kindOf : Cond.instanceMethod yX0_kindOf ∈ wA := wA_t2 120 (by decide +kernel) rfl
theorem q_s_yX0_kindOf : Cond.selects RX0 yX0_kindOf yX0_kindOf ∈ wA := wA_t2 121 (by decide +kernel) rfl
theorem q_c_yX0_kindOf : Cond.code yX0_kindOf cX0_kindOf 3 (some .int) ∈ wA := wA_t2 122 (by decide +kernel) rfl
theorem q_m_RX4_76 : Cond.methodLink RX4 76 yX0_isIn ∈ wA := wA_t2 123 (by decide +kernel) rfl
theorem q_i_yX0_isIn : Cond.instanceMethod yX0_isIn ∈ wA := wA_t2 124 (by decide +kernel) rfl
theorem q_s_yX0_isIn : Cond.selects RX0 yX0_isIn yX0_isIn ∈ wA := wA_t2 125 (by decide +kernel) rfl
theorem q_c_yX0_isIn : Cond.code yX0_isIn cX0_isIn 2 (some .boolean) ∈ wA := wA_t2 126 (by decide +kernel) rfl
theorem q_m_RX4_79 : Cond.methodLink RX4 79 yX0_hasSlipped ∈ wA := wA_t2 127 (by decide +kernel) rfl
theorem q_i_yX0_hasSlipped : Cond.instanceMethod yX0_hasSlipped ∈ wA := wA_t2 128 (by decide +kernel) rfl
theorem q_s_yX0_hasSlipped : Cond.selects RX0 yX0_hasSlipped yX0_hasSlipped ∈ wA := wA_t2 129 (by decide +kernel) rfl
theorem q_c_yX0_hasSlipped : Cond.code yX0_hasSlipped cX0_hasSlipped 2 (some .boolean) ∈ wA := wA_t2 130 (by decide +kernel) rfl
theorem q_m_RX4_82 : Cond.methodLink RX4 82 yX0_takenBy ∈ wA := wA_t2 131 (by decide +kernel) rfl
theorem q_i_yX0_takenBy : Cond.instanceMethod yX0_takenBy ∈ wA := wA_t2 132 (by decide +kernel) rfl
theorem q_s_yX0_takenBy : Cond.selects RX0 yX0_takenBy yX0_takenBy ∈ wA := wA_t2 133 (by decide +kernel) rfl
theorem q_c_yX0_takenBy : Cond.code yX0_takenBy cX0_takenBy 3 (some .int) ∈ wA := wA_t2 134 (by decide +kernel) rfl
theorem q_m_RX4_85 : Cond.methodLink RX4 85 yX1_fewestBeats ∈ wA := wA_t2 135 (by decide +kernel) rfl
theorem q_i_yX1_fewestBeats : Cond.instanceMethod yX1_fewestBeats ∈ wA := wA_t2 136 (by decide +kernel) rfl
theorem q_s_yX1_fewestBeats : Cond.selects RX1 yX1_fewestBeats yX1_fewestBeats ∈ wA := wA_t2 137 (by decide +kernel) rfl
theorem q_c_yX1_fewestBeats : Cond.code yX1_fewestBeats cX1_fewestBeats 5 (some .int) ∈ wA := wA_t2 138 (by decide +kernel) rfl
theorem q_m_RX1_61 : Cond.methodLink RX1 61 yX0_key ∈ wA := wA_t2 139 (by decide +kernel) rfl
theorem q_i_yX0_key : Cond.instanceMethod yX0_key ∈ wA := wA_t2 140 (by decide +kernel) rfl
theorem q_s_yX0_key : Cond.selects RX0 yX0_key yX0_key ∈ wA := wA_t2 141 (by decide +kernel) rfl
theorem q_c_yX0_key : Cond.code yX0_key cX0_key 3 (some .long) ∈ wA := wA_t2 142 (by decide +kernel) rfl
theorem q_m_RX0_80 : Cond.methodLink RX0 80 yX0_pose ∈ wA := wA_t2 143 (by decide +kernel) rfl
theorem q_i_yX0_pose : Cond.instanceMethod yX0_pose ∈ wA := wA_t2 144 (by decide +kernel) rfl
theorem q_s_yX0_pose : Cond.selects RX0 yX0_pose yX0_pose ∈ wA := wA_t2 145 (by decide +kernel) rfl
theorem q_c_yX0_pose : Cond.code yX0_pose cX0_pose 2 (some .int) ∈ wA := wA_t2 146 (by decide +kernel) rfl
theorem q_m_RX1_65 : Cond.methodLink RX1 65 yX1_leftBy ∈ wA := wA_t2 147 (by decide +kernel) rfl
theorem q_i_yX1_leftBy : Cond.instanceMethod yX1_leftBy ∈ wA := wA_t2 148 (by decide +kernel) rfl
theorem q_s_yX1_leftBy : Cond.selects RX1 yX1_leftBy yX1_leftBy ∈ wA := wA_t2 149 (by decide +kernel) rfl
theorem q_c_yX1_leftBy : Cond.code yX1_leftBy cX1_leftBy 2 (some .int) ∈ wA := wA_t2 150 (by decide +kernel) rfl
theorem q_m_RX1_46 : Cond.methodLink RX1 46 yX0_takeAll ∈ wA := wA_t2 151 (by decide +kernel) rfl
theorem q_i_yX0_takeAll : Cond.instanceMethod yX0_takeAll ∈ wA := wA_t2 152 (by decide +kernel) rfl
theorem q_s_yX0_takeAll : Cond.selects RX0 yX0_takeAll yX0_takeAll ∈ wA := wA_t2 153 (by decide +kernel) rfl
theorem q_c_yX0_takeAll : Cond.code yX0_takeAll cX0_takeAll 2 none ∈ wA := wA_t2 154 (by decide +kernel) rfl
theorem q_m_RX1_58 : Cond.methodLink RX1 58 yX0_countDown ∈ wA := wA_t2 155 (by decide +kernel) rfl
theorem q_i_yX0_countDown : Cond.instanceMethod yX0_countDown ∈ wA := wA_t2 156 (by decide +kernel) rfl
theorem q_s_yX0_countDown : Cond.selects RX0 yX0_countDown yX0_countDown ∈ wA := wA_t2 157 (by decide +kernel) rfl
theorem q_c_yX0_countDown : Cond.code yX0_countDown cX0_countDown 3 (some .int) ∈ wA := wA_t2 158 (by decide +kernel) rfl
theorem q_m_RX0_57 : Cond.methodLink RX0 57 yX0_canCount ∈ wA := wA_t2 159 (by decide +kernel) rfl
theorem q_i_yX0_canCount : Cond.instanceMethod yX0_canCount ∈ wA := wA_t2 160 (by decide +kernel) rfl
theorem q_s_yX0_canCount : Cond.selects RX0 yX0_canCount yX0_canCount ∈ wA := wA_t2 161 (by decide +kernel) rfl
theorem q_c_yX0_canCount : Cond.code yX0_canCount cX0_canCount 1 (some .boolean) ∈ wA := wA_t2 162 (by decide +kernel) rfl
theorem q_m_RX0_48 : Cond.methodLink RX0 48 yJ6_bitCount_0f7a4 ∈ wA := wA_t2 163 (by decide +kernel) rfl
theorem q_st_yJ6_bitCount_0f7a4 : Cond.static yJ6_bitCount_0f7a4 ∈ wA := wA_t2 164 (by decide +kernel) rfl
theorem q_c_yJ6_bitCount_0f7a4 : Cond.code yJ6_bitCount_0f7a4 cJ6_bitCount_0f7a4 1 (some .int) ∈ wA := wA_t2 165 (by decide +kernel) rfl
theorem q_k_RJ6_265 : Cond.constant RJ6 265 (1431655765) ∈ wA := wA_t2 166 (by decide +kernel) rfl
theorem q_k_RJ6_266 : Cond.constant RJ6 266 (858993459) ∈ wA := wA_t2 167 (by decide +kernel) rfl
theorem q_k_RJ6_267 : Cond.constant RJ6 267 (252645135) ∈ wA := wA_t2 168 (by decide +kernel) rfl
theorem q_m_RX0_70 : Cond.methodLink RX0 70 yX0_putOut ∈ wA := wA_t2 169 (by decide +kernel) rfl
theorem q_i_yX0_putOut : Cond.instanceMethod yX0_putOut ∈ wA := wA_t2 170 (by decide +kernel) rfl
theorem q_s_yX0_putOut : Cond.selects RX0 yX0_putOut yX0_putOut ∈ wA := wA_t2 171 (by decide +kernel) rfl
theorem q_c_yX0_putOut : Cond.code yX0_putOut cX0_putOut 3 (some .int) ∈ wA := wA_t2 172 (by decide +kernel) rfl
theorem q_m_RX0_61 : Cond.methodLink RX0 61 yX0_fallsOn ∈ wA := wA_t2 173 (by decide +kernel) rfl
theorem q_i_yX0_fallsOn : Cond.instanceMethod yX0_fallsOn ∈ wA := wA_t2 175 (by decide +kernel) rfl
theorem q_c_yX0_fallsOn : Cond.code yX0_fallsOn cX0_fallsOn 7 (some .int) ∈ wA := wA_t2 176 (by decide +kernel) rfl
theorem q_m_RX0_67 : Cond.methodLink RX0 67 yX0_nextOf ∈ wA := wA_t2 177 (by decide +kernel) rfl
theorem q_i_yX0_nextOf : Cond.instanceMethod yX0_nextOf ∈ wA := wA_t2 179 (by decide +kernel) rfl
theorem q_c_yX0_nextOf : Cond.code yX0_nextOf cX0_nextOf 5 (some .int) ∈ wA := wA_t2 180 (by decide +kernel) rfl
theorem q_m_RX0_77 : Cond.methodLink RX0 77 yX0_takenBy ∈ wA := wA_t2 181 (by decide +kernel) rfl
theorem q_m_RX0_64 : Cond.methodLink RX0 64 yX0_slipOn ∈ wA := wA_t2 182 (by decide +kernel) rfl
theorem q_i_yX0_slipOn : Cond.instanceMethod yX0_slipOn ∈ wA := wA_t2 184 (by decide +kernel) rfl
theorem q_c_yX0_slipOn : Cond.code yX0_slipOn cX0_slipOn 6 (some .int) ∈ wA := wA_t2 185 (by decide +kernel) rfl
theorem q_m_RX0_73 : Cond.methodLink RX0 73 yX0_onlyOneIn ∈ wA := wA_t2 186 (by decide +kernel) rfl
theorem q_i_yX0_onlyOneIn : Cond.instanceMethod yX0_onlyOneIn ∈ wA := wA_t2 187 (by decide +kernel) rfl
theorem q_s_yX0_onlyOneIn : Cond.selects RX0 yX0_onlyOneIn yX0_onlyOneIn ∈ wA := wA_t2 188 (by decide +kernel) rfl
theorem q_c_yX0_onlyOneIn : Cond.code yX0_onlyOneIn cX0_onlyOneIn 1 (some .int) ∈ wA := wA_t2 189 (by decide +kernel) rfl
theorem q_m_RX0_54 : Cond.methodLink RX0 54 yJ6_numberOfTrailingZeros_0f7a4 ∈ wA := wA_t2 190 (by decide +kernel) rfl
theorem q_st_yJ6_numberOfTrailingZeros_0f7a4 : Cond.static yJ6_numberOfTrailingZeros_0f7a4 ∈ wA := wA_t2 191 (by decide +kernel) rfl
theorem q_c_yJ6_numberOfTrailingZeros_0f7a4 : Cond.code yJ6_numberOfTrailingZeros_0f7a4 cJ6_numberOfTrailingZeros_0f7a4 2 (some .int) ∈ wA := wA_t2 192 (by decide +kernel) rfl
theorem q_k_RJ6_264 : Cond.constant RJ6 264 (65536) ∈ wA := wA_t2 193 (by decide +kernel) rfl
theorem q_m_RL_36 : Cond.methodLink RL 36 yX4_as ∈ wA := wA_t2 194 (by decide +kernel) rfl
theorem q_i_yX4_as : Cond.instanceMethod yX4_as ∈ wA := wA_t2 195 (by decide +kernel) rfl
theorem q_s_yX4_as : Cond.selects RX4 yX4_as yX4_as ∈ wA := wA_t2 196 (by decide +kernel) rfl
theorem q_c_yX4_as : Cond.code yX4_as cX4_as 5 (some .int) ∈ wA := wA_t2 197 (by decide +kernel) rfl
theorem q_m_RX4_91 : Cond.methodLink RX4 91 yX4_isKind ∈ wA := wA_t2 198 (by decide +kernel) rfl
theorem q_st_yX4_isKind : Cond.static yX4_isKind ∈ wA := wA_t2 199 (by decide +kernel) rfl
theorem q_c_yX4_isKind : Cond.code yX4_isKind cX4_isKind 1 (some .boolean) ∈ wA := wA_t2 200 (by decide +kernel) rfl
theorem q_m_RL_40 : Cond.methodLink RL 40 yX4_verse ∈ wA := wA_t2 201 (by decide +kernel) rfl
theorem q_i_yX4_verse : Cond.instanceMethod yX4_verse ∈ wA := wA_t2 202 (by decide +kernel) rfl
theorem q_s_yX4_verse : Cond.selects RX4 yX4_verse yX4_verse ∈ wA := wA_t2 203 (by decide +kernel) rfl
theorem q_c_yX4_verse : Cond.code yX4_verse cX4_verse 4 (some .int) ∈ wA := wA_t2 204 (by decide +kernel) rfl
theorem q_m_RX4_94 : Cond.methodLink RX4 94 yX3_hasVerse ∈ wA := wA_t2 205 (by decide +kernel) rfl
theorem q_i_yX3_hasVerse : Cond.instanceMethod yX3_hasVerse ∈ wA := wA_t2 206 (by decide +kernel) rfl
theorem q_s_yX3_hasVerse : Cond.selects RX3 yX3_hasVerse yX3_hasVerse ∈ wA := wA_t2 207 (by decide +kernel) rfl
theorem q_c_yX3_hasVerse : Cond.code yX3_hasVerse cX3_hasVerse 2 (some .boolean) ∈ wA := wA_t2 208 (by decide +kernel) rfl
theorem q_m_RX4_101 : Cond.methodLink RX4 101 yX1_outBy ∈ wA := wA_t2 209 (by decide +kernel) rfl
theorem q_i_yX1_outBy : Cond.instanceMethod yX1_outBy ∈ wA := wA_t2 210 (by decide +kernel) rfl
theorem q_s_yX1_outBy : Cond.selects RX1 yX1_outBy yX1_outBy ∈ wA := wA_t2 211 (by decide +kernel) rfl
theorem q_c_yX1_outBy : Cond.code yX1_outBy cX1_outBy 3 (some .int) ∈ wA := wA_t2 212 (by decide +kernel) rfl
theorem q_m_RX1_54 : Cond.methodLink RX1 54 yX0_putOut ∈ wA := wA_t2 213 (by decide +kernel) rfl
theorem q_m_RX4_105 : Cond.methodLink RX4 105 yX1_leftBy ∈ wA := wA_t2 214 (by decide +kernel) rfl
theorem q_m_RL_44 : Cond.methodLink RL 44 yX4_say ∈ wA := wA_t2 215 (by decide +kernel) rfl
theorem q_i_yX4_say : Cond.instanceMethod yX4_say ∈ wA := wA_t2 216 (by decide +kernel) rfl
theorem q_s_yX4_say : Cond.selects RX4 yX4_say yX4_say ∈ wA := wA_t2 217 (by decide +kernel) rfl
theorem q_c_yX4_say : Cond.code yX4_say cX4_say 2 (some .int) ∈ wA := wA_t2 218 (by decide +kernel) rfl
theorem q_m_RX4_108 : Cond.methodLink RX4 108 yX0_canCount ∈ wA := wA_t2 219 (by decide +kernel) rfl
theorem q_m_RX4_114 : Cond.methodLink RX4 114 yX0_putOut ∈ wA := wA_t2 220 (by decide +kernel) rfl
theorem q_m_RL_48 : Cond.methodLink RL 48 yX4_back ∈ wA := wA_t2 221 (by decide +kernel) rfl
theorem q_i_yX4_back : Cond.instanceMethod yX4_back ∈ wA := wA_t2 222 (by decide +kernel) rfl
theorem q_s_yX4_back : Cond.selects RX4 yX4_back yX4_back ∈ wA := wA_t2 223 (by decide +kernel) rfl
theorem q_c_yX4_back : Cond.code yX4_back cX4_back 2 (some .int) ∈ wA := wA_t2 224 (by decide +kernel) rfl
theorem q_m_RX4_120 : Cond.methodLink RX4 120 yX0_howManyIn ∈ wA := wA_t2 225 (by decide +kernel) rfl
theorem q_i_yX0_howManyIn : Cond.instanceMethod yX0_howManyIn ∈ wA := wA_t2 226 (by decide +kernel) rfl
theorem q_s_yX0_howManyIn : Cond.selects RX0 yX0_howManyIn yX0_howManyIn ∈ wA := wA_t2 227 (by decide +kernel) rfl
theorem q_c_yX0_howManyIn : Cond.code yX0_howManyIn cX0_howManyIn 1 (some .int) ∈ wA := wA_t2 228 (by decide +kernel) rfl
theorem q_m_RL_52 : Cond.methodLink RL 52 yX4_first ∈ wA := wA_t2 229 (by decide +kernel) rfl
theorem q_i_yX4_first : Cond.instanceMethod yX4_first ∈ wA := wA_t2 230 (by decide +kernel) rfl
theorem q_s_yX4_first : Cond.selects RX4 yX4_first yX4_first ∈ wA := wA_t2 231 (by decide +kernel) rfl
theorem q_c_yX4_first : Cond.code yX4_first cX4_first 3 (some .int) ∈ wA := wA_t2 232 (by decide +kernel) rfl
theorem q_m_RL_56 : Cond.methodLink RL 56 yX4_turn ∈ wA := wA_t2 233 (by decide +kernel) rfl
theorem q_i_yX4_turn : Cond.instanceMethod yX4_turn ∈ wA := wA_t2 234 (by decide +kernel) rfl
theorem q_s_yX4_turn : Cond.selects RX4 yX4_turn yX4_turn ∈ wA := wA_t2 235 (by decide +kernel) rfl
theorem q_c_yX4_turn : Cond.code yX4_turn cX4_turn 2 (some .int) ∈ wA := wA_t2 236 (by decide +kernel) rfl
theorem q_m_RX4_123 : Cond.methodLink RX4 123 yX3_hasRing ∈ wA := wA_t2 237 (by decide +kernel) rfl
theorem q_i_yX3_hasRing : Cond.instanceMethod yX3_hasRing ∈ wA := wA_t2 238 (by decide +kernel) rfl
theorem q_s_yX3_hasRing : Cond.selects RX3 yX3_hasRing yX3_hasRing ∈ wA := wA_t2 239 (by decide +kernel) rfl
theorem q_c_yX3_hasRing : Cond.code yX3_hasRing cX3_hasRing 1 (some .boolean) ∈ wA := wA_t3 0 (by decide +kernel) rfl
theorem q_m_RL_60 : Cond.methodLink RL 60 yX4_beats ∈ wA := wA_t3 1 (by decide +kernel) rfl
theorem q_i_yX4_beats : Cond.instanceMethod yX4_beats ∈ wA := wA_t3 2 (by decide +kernel) rfl
theorem q_s_yX4_beats : Cond.selects RX4 yX4_beats yX4_beats ∈ wA := wA_t3 3 (by decide +kernel) rfl
theorem q_c_yX4_beats : Cond.code yX4_beats cX4_beats 4 (some .int) ∈ wA := wA_t3 4 (by decide +kernel) rfl
theorem q_m_RX4_129 : Cond.methodLink RX4 129 yX4_isBeats ∈ wA := wA_t3 5 (by decide +kernel) rfl
theorem q_st_yX4_isBeats : Cond.static yX4_isBeats ∈ wA := wA_t3 6 (by decide +kernel) rfl
theorem q_c_yX4_isBeats : Cond.code yX4_isBeats cX4_isBeats 1 (some .boolean) ∈ wA := wA_t3 7 (by decide +kernel) rfl
theorem q_m_RL_64 : Cond.methodLink RL 64 yX4_be ∈ wA := wA_t3 8 (by decide +kernel) rfl
theorem q_i_yX4_be : Cond.instanceMethod yX4_be ∈ wA := wA_t3 9 (by decide +kernel) rfl
theorem q_s_yX4_be : Cond.selects RX4 yX4_be yX4_be ∈ wA := wA_t3 10 (by decide +kernel) rfl
theorem q_c_yX4_be : Cond.code yX4_be cX4_be 4 (some .int) ∈ wA := wA_t3 11 (by decide +kernel) rfl
theorem q_m_RX4_132 : Cond.methodLink RX4 132 yX0_become ∈ wA := wA_t3 12 (by decide +kernel) rfl
theorem q_m_RL_68 : Cond.methodLink RL 68 yX4_last ∈ wA := wA_t3 13 (by decide +kernel) rfl
theorem q_i_yX4_last : Cond.instanceMethod yX4_last ∈ wA := wA_t3 14 (by decide +kernel) rfl
theorem q_s_yX4_last : Cond.selects RX4 yX4_last yX4_last ∈ wA := wA_t3 15 (by decide +kernel) rfl
theorem q_c_yX4_last : Cond.code yX4_last cX4_last 2 (some .int) ∈ wA := wA_t3 16 (by decide +kernel) rfl
theorem q_m_RL_72 : Cond.methodLink RL 72 yX4_begin ∈ wA := wA_t3 17 (by decide +kernel) rfl
theorem q_i_yX4_begin : Cond.instanceMethod yX4_begin ∈ wA := wA_t3 18 (by decide +kernel) rfl
theorem q_s_yX4_begin : Cond.selects RX4 yX4_begin yX4_begin ∈ wA := wA_t3 19 (by decide +kernel) rfl
theorem q_c_yX4_begin : Cond.code yX4_begin cX4_begin 3 (some .int) ∈ wA := wA_t3 20 (by decide +kernel) rfl
theorem q_m_RX4_136 : Cond.methodLink RX4 136 yX1_startsFor ∈ wA := wA_t3 21 (by decide +kernel) rfl
theorem q_i_yX1_startsFor : Cond.instanceMethod yX1_startsFor ∈ wA := wA_t3 22 (by decide +kernel) rfl
theorem q_s_yX1_startsFor : Cond.selects RX1 yX1_startsFor yX1_startsFor ∈ wA := wA_t3 23 (by decide +kernel) rfl
theorem q_c_yX1_startsFor : Cond.code yX1_startsFor cX1_startsFor 5 (some .int) ∈ wA := wA_t3 24 (by decide +kernel) rfl
theorem q_m_RX1_71 : Cond.methodLink RX1 71 yX0_isIn ∈ wA := wA_t3 25 (by decide +kernel) rfl
theorem q_m_RL_76 : Cond.methodLink RL 76 yX4_stand ∈ wA := wA_t3 26 (by decide +kernel) rfl
theorem q_i_yX4_stand : Cond.instanceMethod yX4_stand ∈ wA := wA_t3 27 (by decide +kernel) rfl
theorem q_s_yX4_stand : Cond.selects RX4 yX4_stand yX4_stand ∈ wA := wA_t3 28 (by decide +kernel) rfl
theorem q_c_yX4_stand : Cond.code yX4_stand cX4_stand 3 (some .int) ∈ wA := wA_t3 29 (by decide +kernel) rfl
theorem q_m_RX4_139 : Cond.methodLink RX4 139 yX1_placesFor ∈ wA := wA_t3 30 (by decide +kernel) rfl
theorem q_i_yX1_placesFor : Cond.instanceMethod yX1_placesFor ∈ wA := wA_t3 31 (by decide +kernel) rfl
theorem q_s_yX1_placesFor : Cond.selects RX1 yX1_placesFor yX1_placesFor ∈ wA := wA_t3 32 (by decide +kernel) rfl
theorem q_c_yX1_placesFor : Cond.code yX1_placesFor cX1_placesFor 5 (some .int) ∈ wA := wA_t3 33 (by decide +kernel) rfl
theorem q_m_RX1_75 : Cond.methodLink RX1 75 yX0_addAhead ∈ wA := wA_t3 34 (by decide +kernel) rfl
theorem q_i_yX0_addAhead : Cond.instanceMethod yX0_addAhead ∈ wA := wA_t3 35 (by decide +kernel) rfl
theorem q_s_yX0_addAhead : Cond.selects RX0 yX0_addAhead yX0_addAhead ∈ wA := wA_t3 36 (by decide +kernel) rfl
theorem q_c_yX0_addAhead : Cond.code yX0_addAhead cX0_addAhead 3 none ∈ wA := wA_t3 37 (by decide +kernel) rfl
theorem q_m_RX0_44 : Cond.methodLink RX0 44 yX0_movedUp ∈ wA := wA_t3 38 (by decide +kernel) rfl
theorem q_st_yX0_movedUp : Cond.static yX0_movedUp ∈ wA := wA_t3 39 (by decide +kernel) rfl
theorem q_c_yX0_movedUp : Cond.code yX0_movedUp cX0_movedUp 3 (some .int) ∈ wA := wA_t3 40 (by decide +kernel) rfl
theorem q_m_RL_80 : Cond.methodLink RL 80 yX4_game ∈ wA := wA_t3 41 (by decide +kernel) rfl
theorem q_i_yX4_game : Cond.instanceMethod yX4_game ∈ wA := wA_t3 42 (by decide +kernel) rfl
theorem q_s_yX4_game : Cond.selects RX4 yX4_game yX4_game ∈ wA := wA_t3 43 (by decide +kernel) rfl
theorem q_c_yX4_game : Cond.code yX4_game cX4_game 4 (some .int) ∈ wA := wA_t3 44 (by decide +kernel) rfl
theorem q_m_RX4_142 : Cond.methodLink RX4 142 yX1_bestFor ∈ wA := wA_t3 45 (by decide +kernel) rfl
theorem q_i_yX1_bestFor : Cond.instanceMethod yX1_bestFor ∈ wA := wA_t3 46 (by decide +kernel) rfl
theorem q_s_yX1_bestFor : Cond.selects RX1 yX1_bestFor yX1_bestFor ∈ wA := wA_t3 47 (by decide +kernel) rfl
theorem q_c_yX1_bestFor : Cond.code yX1_bestFor cX1_bestFor 3 (some .int) ∈ wA := wA_t3 48 (by decide +kernel) rfl
theorem q_m_RX1_79 : Cond.methodLink RX1 79 yX1_worth ∈ wA := wA_t3 49 (by decide +kernel) rfl
theorem q_i_yX1_worth : Cond.instanceMethod yX1_worth ∈ wA := wA_t3 51 (by decide +kernel) rfl
theorem q_c_yX1_worth : Cond.code yX1_worth cX1_worth 10 (some .int) ∈ wA := wA_t3 52 (by decide +kernel) rfl
theorem q_m_RX1_86 : Cond.methodLink RX1 86 yX0_canCount ∈ wA := wA_t3 53 (by decide +kernel) rfl
theorem q_m_RX1_90 : Cond.methodLink RX1 90 yX0_pose ∈ wA := wA_t3 54 (by decide +kernel) rfl
theorem q_m_RX1_100 : Cond.methodLink RX1 100 yX0_takePose ∈ wA := wA_t3 55 (by decide +kernel) rfl
theorem q_i_yX0_takePose : Cond.instanceMethod yX0_takePose ∈ wA := wA_t3 56 (by decide +kernel) rfl
theorem q_s_yX0_takePose : Cond.selects RX0 yX0_takePose yX0_takePose ∈ wA := wA_t3 57 (by decide +kernel) rfl
theorem q_c_yX0_takePose : Cond.code yX0_takePose cX0_takePose 2 none ∈ wA := wA_t3 58 (by decide +kernel) rfl
theorem q_m_RX4_145 : Cond.methodLink RX4 145 yX1_verseFor ∈ wA := wA_t3 59 (by decide +kernel) rfl
theorem q_i_yX1_verseFor : Cond.instanceMethod yX1_verseFor ∈ wA := wA_t3 60 (by decide +kernel) rfl
theorem q_s_yX1_verseFor : Cond.selects RX1 yX1_verseFor yX1_verseFor ∈ wA := wA_t3 61 (by decide +kernel) rfl
theorem q_c_yX1_verseFor : Cond.code yX1_verseFor cX1_verseFor 3 (some .int) ∈ wA := wA_t3 62 (by decide +kernel) rfl
theorem q_m_RL_85 : Cond.methodLink RL 85 yX4_likely ∈ wA := wA_t3 63 (by decide +kernel) rfl
theorem q_i_yX4_likely : Cond.instanceMethod yX4_likely ∈ wA := wA_t3 64 (by decide +kernel) rfl
theorem q_s_yX4_likely : Cond.selects RX4 yX4_likely yX4_likely ∈ wA := wA_t3 65 (by decide +kernel) rfl
theorem q_c_yX4_likely : Cond.code yX4_likely cX4_likely 3 (some .int) ∈ wA := wA_t3 66 (by decide +kernel) rfl
theorem q_m_RX4_148 : Cond.methodLink RX4 148 yX1_chanceOf ∈ wA := wA_t3 67 (by decide +kernel) rfl
theorem q_i_yX1_chanceOf : Cond.instanceMethod yX1_chanceOf ∈ wA := wA_t3 68 (by decide +kernel) rfl
theorem q_s_yX1_chanceOf : Cond.selects RX1 yX1_chanceOf yX1_chanceOf ∈ wA := wA_t3 69 (by decide +kernel) rfl
theorem q_c_yX1_chanceOf : Cond.code yX1_chanceOf cX1_chanceOf 8 (some .int) ∈ wA := wA_t3 70 (by decide +kernel) rfl
theorem q_m_RX1_104 : Cond.methodLink RX1 104 yX1_shareOut ∈ wA := wA_t3 71 (by decide +kernel) rfl
theorem q_i_yX1_shareOut : Cond.instanceMethod yX1_shareOut ∈ wA := wA_t3 73 (by decide +kernel) rfl
theorem q_c_yX1_shareOut : Cond.code yX1_shareOut cX1_shareOut 5 none ∈ wA := wA_t3 74 (by decide +kernel) rfl
theorem q_m_RX1_107 : Cond.methodLink RX1 107 yX0_onlyOneIn ∈ wA := wA_t3 75 (by decide +kernel) rfl
theorem q_m_RL_89 : Cond.methodLink RL 89 yX4_see ∈ wA := wA_t3 76 (by decide +kernel) rfl
theorem q_i_yX4_see : Cond.instanceMethod yX4_see ∈ wA := wA_t3 77 (by decide +kernel) rfl
theorem q_s_yX4_see : Cond.selects RX4 yX4_see yX4_see ∈ wA := wA_t3 78 (by decide +kernel) rfl
theorem q_c_yX4_see : Cond.code yX4_see cX4_see 3 (some .int) ∈ wA := wA_t3 79 (by decide +kernel) rfl
theorem q_m_RX4_152 : Cond.methodLink RX4 152 yX3_keepSeen ∈ wA := wA_t3 80 (by decide +kernel) rfl
theorem q_i_yX3_keepSeen : Cond.instanceMethod yX3_keepSeen ∈ wA := wA_t3 81 (by decide +kernel) rfl
theorem q_s_yX3_keepSeen : Cond.selects RX3 yX3_keepSeen yX3_keepSeen ∈ wA := wA_t3 82 (by decide +kernel) rfl
theorem q_c_yX3_keepSeen : Cond.code yX3_keepSeen cX3_keepSeen 3 (some .boolean) ∈ wA := wA_t3 83 (by decide +kernel) rfl
theorem q_m_RL_93 : Cond.methodLink RL 93 yX4_forget ∈ wA := wA_t3 84 (by decide +kernel) rfl
theorem q_i_yX4_forget : Cond.instanceMethod yX4_forget ∈ wA := wA_t3 85 (by decide +kernel) rfl
theorem q_s_yX4_forget : Cond.selects RX4 yX4_forget yX4_forget ∈ wA := wA_t3 86 (by decide +kernel) rfl
theorem q_c_yX4_forget : Cond.code yX4_forget cX4_forget 2 (some .int) ∈ wA := wA_t3 87 (by decide +kernel) rfl
theorem q_m_RL_97 : Cond.methodLink RL 97 yX4_lengths ∈ wA := wA_t3 88 (by decide +kernel) rfl
theorem q_i_yX4_lengths : Cond.instanceMethod yX4_lengths ∈ wA := wA_t3 89 (by decide +kernel) rfl
theorem q_s_yX4_lengths : Cond.selects RX4 yX4_lengths yX4_lengths ∈ wA := wA_t3 90 (by decide +kernel) rfl
theorem q_c_yX4_lengths : Cond.code yX4_lengths cX4_lengths 1 (some .int) ∈ wA := wA_t3 91 (by decide +kernel) rfl
theorem q_m_RX4_159 : Cond.methodLink RX4 159 yX1_lengthBits ∈ wA := wA_t3 92 (by decide +kernel) rfl
theorem q_i_yX1_lengthBits : Cond.instanceMethod yX1_lengthBits ∈ wA := wA_t3 93 (by decide +kernel) rfl
theorem q_s_yX1_lengthBits : Cond.selects RX1 yX1_lengthBits yX1_lengthBits ∈ wA := wA_t3 94 (by decide +kernel) rfl
theorem q_c_yX1_lengthBits : Cond.code yX1_lengthBits cX1_lengthBits 4 (some .int) ∈ wA := wA_t3 95 (by decide +kernel) rfl
theorem q_k_RX1_110 : Cond.constant RX1 110 (16777215) ∈ wA := wA_t3 96 (by decide +kernel) rfl
theorem q_m_RX1_117 : Cond.methodLink RX1 117 yX1_outBy ∈ wA := wA_t3 97 (by decide +kernel) rfl
theorem q_m_RL_101 : Cond.methodLink RL 101 yX4_from ∈ wA := wA_t3 98 (by decide +kernel) rfl
theorem q_i_yX4_from : Cond.instanceMethod yX4_from ∈ wA := wA_t3 99 (by decide +kernel) rfl
theorem q_s_yX4_from : Cond.selects RX4 yX4_from yX4_from ∈ wA := wA_t3 100 (by decide +kernel) rfl
theorem q_c_yX4_from : Cond.code yX4_from cX4_from 1 (some .int) ∈ wA := wA_t3 101 (by decide +kernel) rfl
theorem q_m_RX4_162 : Cond.methodLink RX4 162 yX1_tellingStart ∈ wA := wA_t3 102 (by decide +kernel) rfl
theorem q_i_yX1_tellingStart : Cond.instanceMethod yX1_tellingStart ∈ wA := wA_t3 103 (by decide +kernel) rfl
theorem q_s_yX1_tellingStart : Cond.selects RX1 yX1_tellingStart yX1_tellingStart ∈ wA := wA_t3 104 (by decide +kernel) rfl
theorem q_c_yX1_tellingStart : Cond.code yX1_tellingStart cX1_tellingStart 6 (some .int) ∈ wA := wA_t3 105 (by decide +kernel) rfl
theorem q_m_RX1_124 : Cond.methodLink RX1 124 yX1_mostLeft ∈ wA := wA_t3 106 (by decide +kernel) rfl
theorem q_i_yX1_mostLeft : Cond.instanceMethod yX1_mostLeft ∈ wA := wA_t3 108 (by decide +kernel) rfl
theorem q_c_yX1_mostLeft : Cond.code yX1_mostLeft cX1_mostLeft 6 (some .int) ∈ wA := wA_t3 109 (by decide +kernel) rfl
theorem q_m_RX1_127 : Cond.methodLink RX1 127 yJ9_max_7cf53 ∈ wA := wA_t3 110 (by decide +kernel) rfl
theorem q_m_RL_105 : Cond.methodLink RL 105 yX4_rounds ∈ wA := wA_t3 111 (by decide +kernel) rfl
theorem q_i_yX4_rounds : Cond.instanceMethod yX4_rounds ∈ wA := wA_t3 112 (by decide +kernel) rfl
theorem q_s_yX4_rounds : Cond.selects RX4 yX4_rounds yX4_rounds ∈ wA := wA_t3 113 (by decide +kernel) rfl
theorem q_c_yX4_rounds : Cond.code yX4_rounds cX4_rounds 4 (some .int) ∈ wA := wA_t3 114 (by decide +kernel) rfl
theorem q_m_RX4_165 : Cond.methodLink RX4 165 yX1_playRounds ∈ wA := wA_t3 115 (by decide +kernel) rfl
theorem q_i_yX1_playRounds : Cond.instanceMethod yX1_playRounds ∈ wA := wA_t3 116 (by decide +kernel) rfl
theorem q_s_yX1_playRounds : Cond.selects RX1 yX1_playRounds yX1_playRounds ∈ wA := wA_t3 117 (by decide +kernel) rfl
theorem q_c_yX1_playRounds : Cond.code yX1_playRounds cX1_playRounds 7 (some .int) ∈ wA := wA_t3 118 (by decide +kernel) rfl
theorem q_kl_RX1_132 : Cond.constantLong RX1 132 (1103515245) ∈ wA := wA_t3 119 (by decide +kernel) rfl
theorem q_kl_RX1_134 : Cond.constantLong RX1 134 (12345) ∈ wA := wA_t3 120 (by decide +kernel) rfl
theorem q_kl_RX1_136 : Cond.constantLong RX1 136 (2147483648) ∈ wA := wA_t3 121 (by decide +kernel) rfl
theorem q_m_RX1_138 : Cond.methodLink RX1 138 yX1_beatsDrawn ∈ wA := wA_t3 122 (by decide +kernel) rfl
theorem q_i_yX1_beatsDrawn : Cond.instanceMethod yX1_beatsDrawn ∈ wA := wA_t3 124 (by decide +kernel) rfl
theorem q_c_yX1_beatsDrawn : Cond.code yX1_beatsDrawn cX1_beatsDrawn 3 (some .int) ∈ wA := wA_t3 125 (by decide +kernel) rfl
theorem q_k_RX1_144 : Cond.constant RX1 144 (65536) ∈ wA := wA_t3 126 (by decide +kernel) rfl
theorem q_m_RX1_145 : Cond.methodLink RX1 145 yX3_hasVerse ∈ wA := wA_t3 127 (by decide +kernel) rfl
theorem q_m_RX1_141 : Cond.methodLink RX1 141 yX0_allComeBack ∈ wA := wA_t3 128 (by decide +kernel) rfl
theorem q_i_yX0_allComeBack : Cond.instanceMethod yX0_allComeBack ∈ wA := wA_t3 129 (by decide +kernel) rfl
theorem q_s_yX0_allComeBack : Cond.selects RX0 yX0_allComeBack yX0_allComeBack ∈ wA := wA_t3 130 (by decide +kernel) rfl
theorem q_c_yX0_allComeBack : Cond.code yX0_allComeBack cX0_allComeBack 1 none ∈ wA := wA_t3 131 (by decide +kernel) rfl
theorem q_m_RL_109 : Cond.methodLink RL 109 yX4_image ∈ wA := wA_t3 132 (by decide +kernel) rfl
theorem q_i_yX4_image : Cond.instanceMethod yX4_image ∈ wA := wA_t3 133 (by decide +kernel) rfl
theorem q_s_yX4_image : Cond.selects RX4 yX4_image yX4_image ∈ wA := wA_t3 134 (by decide +kernel) rfl
theorem q_c_yX4_image : Cond.code yX4_image cX4_image 1 (some .int) ∈ wA := wA_t3 135 (by decide +kernel) rfl
theorem q_m_RX4_169 : Cond.methodLink RX4 169 yX3_takeAll ∈ wA := wA_t3 136 (by decide +kernel) rfl
theorem q_i_yX3_takeAll : Cond.instanceMethod yX3_takeAll ∈ wA := wA_t3 137 (by decide +kernel) rfl
theorem q_s_yX3_takeAll : Cond.selects RX3 yX3_takeAll yX3_takeAll ∈ wA := wA_t3 138 (by decide +kernel) rfl
theorem q_c_yX3_takeAll : Cond.code yX3_takeAll cX3_takeAll 2 none ∈ wA := wA_t3 139 (by decide +kernel) rfl
theorem q_m_RX3_64 : Cond.methodLink RX3 64 yX0_takeAll ∈ wA := wA_t3 140 (by decide +kernel) rfl
theorem q_m_RL_113 : Cond.methodLink RL 113 yX4_restore ∈ wA := wA_t3 141 (by decide +kernel) rfl
theorem q_i_yX4_restore : Cond.instanceMethod yX4_restore ∈ wA := wA_t3 142 (by decide +kernel) rfl
theorem q_s_yX4_restore : Cond.selects RX4 yX4_restore yX4_restore ∈ wA := wA_t3 143 (by decide +kernel) rfl
theorem q_c_yX4_restore : Cond.code yX4_restore cX4_restore 1 (some .int) ∈ wA := wA_t3 144 (by decide +kernel) rfl
theorem q_m_RL_117 : Cond.methodLink RL 117 yX4_count ∈ wA := wA_t3 145 (by decide +kernel) rfl
theorem q_i_yX4_count : Cond.instanceMethod yX4_count ∈ wA := wA_t3 146 (by decide +kernel) rfl
theorem q_s_yX4_count : Cond.selects RX4 yX4_count yX4_count ∈ wA := wA_t3 147 (by decide +kernel) rfl
theorem q_c_yX4_count : Cond.code yX4_count cX4_count 3 (some .int) ∈ wA := wA_t3 148 (by decide +kernel) rfl
theorem q_m_RX4_178 : Cond.methodLink RX4 178 yJ6_bitCount_0f7a4 ∈ wA := wA_t3 149 (by decide +kernel) rfl
theorem q_m_RX4_183 : Cond.methodLink RX4 183 yX0_takenTogether ∈ wA := wA_t3 150 (by decide +kernel) rfl
theorem q_i_yX0_takenTogether : Cond.instanceMethod yX0_takenTogether ∈ wA := wA_t3 151 (by decide +kernel) rfl
theorem q_s_yX0_takenTogether : Cond.selects RX0 yX0_takenTogether yX0_takenTogether ∈ wA := wA_t3 152 (by decide +kernel) rfl
theorem q_c_yX0_takenTogether : Cond.code yX0_takenTogether cX0_takenTogether 1 (some .int) ∈ wA := wA_t3 153 (by decide +kernel) rfl
theorem q_m_RL_121 : Cond.methodLink RL 121 yX4_digest ∈ wA := wA_t3 154 (by decide +kernel) rfl
theorem q_i_yX4_digest : Cond.instanceMethod yX4_digest ∈ wA := wA_t3 155 (by decide +kernel) rfl
theorem q_s_yX4_digest : Cond.selects RX4 yX4_digest yX4_digest ∈ wA := wA_t3 156 (by decide +kernel) rfl
theorem q_c_yX4_digest : Cond.code yX4_digest cX4_digest 6 (some .long) ∈ wA := wA_t3 157 (by decide +kernel) rfl
theorem q_kl_RX4_186 : Cond.constantLong RX4 186 (1289) ∈ wA := wA_t3 158 (by decide +kernel) rfl
theorem q_kl_RX4_188 : Cond.constantLong RX4 188 (31) ∈ wA := wA_t3 159 (by decide +kernel) rfl
theorem q_m_RX4_190 : Cond.methodLink RX4 190 yX4_child ∈ wA := wA_t3 160 (by decide +kernel) rfl
theorem q_m_RX4_193 : Cond.methodLink RX4 193 yX4_begin ∈ wA := wA_t3 161 (by decide +kernel) rfl
theorem q_m_RX4_196 : Cond.methodLink RX4 196 yX4_verse ∈ wA := wA_t3 162 (by decide +kernel) rfl
theorem q_m_RX4_199 : Cond.methodLink RX4 199 yX4_last ∈ wA := wA_t3 163 (by decide +kernel) rfl
theorem q_m_RX4_202 : Cond.methodLink RX4 202 yX4_stand ∈ wA := wA_t3 164 (by decide +kernel) rfl
theorem q_m_RX4_205 : Cond.methodLink RX4 205 yX4_lengths ∈ wA := wA_t3 165 (by decide +kernel) rfl
theorem q_m_RX4_208 : Cond.methodLink RX4 208 yX4_from ∈ wA := wA_t3 166 (by decide +kernel) rfl
theorem q_m_RX4_211 : Cond.methodLink RX4 211 yX4_game ∈ wA := wA_t3 167 (by decide +kernel) rfl
theorem q_m_RX4_214 : Cond.methodLink RX4 214 yX4_likely ∈ wA := wA_t3 168 (by decide +kernel) rfl
theorem q_m_RX4_220 : Cond.methodLink RX4 220 yX4_count ∈ wA := wA_t3 169 (by decide +kernel) rfl
theorem q_cl_RL_10 : Cond.classLink RL 10 RX5 ∈ wA := wA_t3 170 (by decide +kernel) rfl
theorem q_new_RX5 : Cond.instantiable RX5 50 ∈ wA := wA_t3 171 (by decide +kernel) rfl
theorem q_m_RL_12 : Cond.methodLink RL 12 yX5_init ∈ wA := wA_t3 172 (by decide +kernel) rfl
theorem q_i_yX5_init : Cond.instanceMethod yX5_init ∈ wA := wA_t3 173 (by decide +kernel) rfl
theorem q_c_yX5_init : Cond.code yX5_init cX5_init 1 none ∈ wA := wA_t3 174 (by decide +kernel) rfl
theorem q_m_RX5_1 : Cond.methodLink RX5 1 objectInit ∈ wA := wA_t3 175 (by decide +kernel) rfl
theorem q_f_RX5_134 : Cond.fieldLink RX5 134 "CountOutModel" "rings" "I" ∈ wA := wA_t3 176 (by decide +kernel) rfl
theorem q_f_RX5_116 : Cond.fieldLink RX5 116 "CountOutModel" "children" "I" ∈ wA := wA_t3 177 (by decide +kernel) rfl
theorem q_f_RX5_113 : Cond.fieldLink RX5 113 "CountOutModel" "verses" "I" ∈ wA := wA_t3 178 (by decide +kernel) rfl
theorem q_f_RX5_7 : Cond.fieldLink RX5 7 "CountOutModel" "beatsOf" "[I" ∈ wA := wA_t3 179 (by decide +kernel) rfl
theorem q_f_RX5_13 : Cond.fieldLink RX5 13 "CountOutModel" "kindOf" "[I" ∈ wA := wA_t3 180 (by decide +kernel) rfl
theorem q_f_RX5_119 : Cond.fieldLink RX5 119 "CountOutModel" "in" "I" ∈ wA := wA_t3 181 (by decide +kernel) rfl
theorem q_f_RX5_122 : Cond.fieldLink RX5 122 "CountOutModel" "slipped" "I" ∈ wA := wA_t3 182 (by decide +kernel) rfl
theorem q_f_RX5_125 : Cond.fieldLink RX5 125 "CountOutModel" "first" "I" ∈ wA := wA_t3 183 (by decide +kernel) rfl
theorem q_f_RX5_128 : Cond.fieldLink RX5 128 "CountOutModel" "onward" "Z" ∈ wA := wA_t3 184 (by decide +kernel) rfl
theorem q_f_RX5_131 : Cond.fieldLink RX5 131 "CountOutModel" "counts" "I" ∈ wA := wA_t3 185 (by decide +kernel) rfl
theorem q_f_RX5_137 : Cond.fieldLink RX5 137 "CountOutModel" "seen" "I" ∈ wA := wA_t3 186 (by decide +kernel) rfl
theorem q_f_RX5_16 : Cond.fieldLink RX5 16 "CountOutModel" "seenFrom" "[I" ∈ wA := wA_t3 187 (by decide +kernel) rfl
theorem q_f_RX5_19 : Cond.fieldLink RX5 19 "CountOutModel" "seenOut" "[I" ∈ wA := wA_t3 188 (by decide +kernel) rfl
theorem q_f_RX5_81 : Cond.fieldLink RX5 81 "CountOutModel" "pageLength" "I" ∈ wA := wA_t3 189 (by decide +kernel) rfl
theorem q_f_RX5_22 : Cond.fieldLink RX5 22 "CountOutModel" "page" "[B" ∈ wA := wA_t3 190 (by decide +kernel) rfl
theorem q_f_RX5_95 : Cond.fieldLink RX5 95 "CountOutModel" "isWhole" "Z" ∈ wA := wA_t3 191 (by decide +kernel) rfl
theorem q_f_RX5_99 : Cond.fieldLink RX5 99 "CountOutModel" "newVerses" "I" ∈ wA := wA_t3 192 (by decide +kernel) rfl
theorem q_f_RX5_89 : Cond.fieldLink RX5 89 "CountOutModel" "newChildren" "I" ∈ wA := wA_t3 193 (by decide +kernel) rfl
theorem q_f_RX5_163 : Cond.fieldLink RX5 163 "CountOutModel" "savedIn" "I" ∈ wA := wA_t3 194 (by decide +kernel) rfl
theorem q_f_RX5_166 : Cond.fieldLink RX5 166 "CountOutModel" "savedSlipped" "I" ∈ wA := wA_t3 195 (by decide +kernel) rfl
theorem q_f_RX5_169 : Cond.fieldLink RX5 169 "CountOutModel" "savedFirst" "I" ∈ wA := wA_t3 196 (by decide +kernel) rfl
theorem q_f_RX5_172 : Cond.fieldLink RX5 172 "CountOutModel" "savedOnward" "Z" ∈ wA := wA_t3 197 (by decide +kernel) rfl
theorem q_f_RX5_26 : Cond.fieldLink RX5 26 "CountOutModel" "comesTo" "[I" ∈ wA := wA_t3 198 (by decide +kernel) rfl
theorem q_f_RX5_225 : Cond.fieldLink RX5 225 "CountOutModel" "ending" "I" ∈ wA := wA_t3 199 (by decide +kernel) rfl
theorem q_f_RX5_29 : Cond.fieldLink RX5 29 "CountOutModel" "deepIn" "[I" ∈ wA := wA_t3 200 (by decide +kernel) rfl
theorem q_f_RX5_32 : Cond.fieldLink RX5 32 "CountOutModel" "deepSlipped" "[I" ∈ wA := wA_t3 201 (by decide +kernel) rfl
theorem q_f_RX5_35 : Cond.fieldLink RX5 35 "CountOutModel" "deepFirst" "[I" ∈ wA := wA_t3 202 (by decide +kernel) rfl
theorem q_f_RX5_38 : Cond.fieldLink RX5 38 "CountOutModel" "deepOnward" "[I" ∈ wA := wA_t3 203 (by decide +kernel) rfl
theorem q_f_RX5_41 : Cond.fieldLink RX5 41 "CountOutModel" "deepWays" "[I" ∈ wA := wA_t3 204 (by decide +kernel) rfl
theorem q_f_RX5_44 : Cond.fieldLink RX5 44 "CountOutModel" "deepFace" "[I" ∈ wA := wA_t3 205 (by decide +kernel) rfl
theorem q_f_RX5_47 : Cond.fieldLink RX5 47 "CountOutModel" "faceIn" "[I" ∈ wA := wA_t3 206 (by decide +kernel) rfl
theorem q_f_RX5_50 : Cond.fieldLink RX5 50 "CountOutModel" "faceSlipped" "[I" ∈ wA := wA_t3 207 (by decide +kernel) rfl
theorem q_f_RX5_53 : Cond.fieldLink RX5 53 "CountOutModel" "faceFirst" "[I" ∈ wA := wA_t3 208 (by decide +kernel) rfl
theorem q_f_RX5_56 : Cond.fieldLink RX5 56 "CountOutModel" "faceOnward" "[I" ∈ wA := wA_t3 209 (by decide +kernel) rfl
theorem q_f_RX5_59 : Cond.fieldLink RX5 59 "CountOutModel" "partsOf" "[I" ∈ wA := wA_t3 210 (by decide +kernel) rfl
theorem q_f_RX5_62 : Cond.fieldLink RX5 62 "CountOutModel" "outOf" "[I" ∈ wA := wA_t3 211 (by decide +kernel) rfl
theorem q_f_RX5_286 : Cond.fieldLink RX5 286 "CountOutModel" "seedNow" "J" ∈ wA := wA_t3 212 (by decide +kernel) rfl
theorem q_f_RX5_302 : Cond.fieldLink RX5 302 "CountOutModel" "isKept" "Z" ∈ wA := wA_t3 213 (by decide +kernel) rfl
theorem q_f_RX5_305 : Cond.fieldLink RX5 305 "CountOutModel" "keptRing" "I" ∈ wA := wA_t3 214 (by decide +kernel) rfl
theorem q_f_RX5_308 : Cond.fieldLink RX5 308 "CountOutModel" "keptIn" "I" ∈ wA := wA_t3 215 (by decide +kernel) rfl
theorem q_f_RX5_311 : Cond.fieldLink RX5 311 "CountOutModel" "keptSlipped" "I" ∈ wA := wA_t3 216 (by decide +kernel) rfl
theorem q_f_RX5_314 : Cond.fieldLink RX5 314 "CountOutModel" "keptFirst" "I" ∈ wA := wA_t3 217 (by decide +kernel) rfl
theorem q_f_RX5_317 : Cond.fieldLink RX5 317 "CountOutModel" "keptOnward" "Z" ∈ wA := wA_t3 218 (by decide +kernel) rfl
theorem q_f_RX5_320 : Cond.fieldLink RX5 320 "CountOutModel" "keptCounts" "I" ∈ wA := wA_t3 219 (by decide +kernel) rfl
theorem q_f_RX5_323 : Cond.fieldLink RX5 323 "CountOutModel" "keptSeen" "I" ∈ wA := wA_t3 220 (by decide +kernel) rfl
theorem q_f_RX5_65 : Cond.fieldLink RX5 65 "CountOutModel" "keptKind" "[I" ∈ wA := wA_t3 221 (by decide +kernel) rfl
theorem q_f_RX5_68 : Cond.fieldLink RX5 68 "CountOutModel" "keptBeats" "[I" ∈ wA := wA_t3 222 (by decide +kernel) rfl
theorem q_f_RX5_71 : Cond.fieldLink RX5 71 "CountOutModel" "keptFrom" "[I" ∈ wA := wA_t3 223 (by decide +kernel) rfl
theorem q_f_RX5_74 : Cond.fieldLink RX5 74 "CountOutModel" "keptOut" "[I" ∈ wA := wA_t3 224 (by decide +kernel) rfl
theorem q_f_RX5_331 : Cond.fieldLink RX5 331 "CountOutModel" "h" "J" ∈ wA := wA_t3 225 (by decide +kernel) rfl
theorem q_m_RL_17 : Cond.methodLink RL 17 yX5_letter ∈ wA := wA_t4 87 (by decide +kernel) rfl
theorem q_i_yX5_letter : Cond.instanceMethod yX5_letter ∈ wA := wA_t4 88 (by decide +kernel) rfl
theorem q_s_yX5_letter : Cond.selects RX5 yX5_letter yX5_letter ∈ wA := wA_t4 89 (by decide +kernel) rfl
theorem q_c_yX5_letter : Cond.code yX5_letter cX5_letter 2 (some .int) ∈ wA := wA_t4 90 (by decide +kernel) rfl
theorem q_m_RX5_77 : Cond.methodLink RX5 77 yX5_within ∈ wA := wA_t4 91 (by decide +kernel) rfl
theorem q_st_yX5_within : Cond.static yX5_within ∈ wA := wA_t4 92 (by decide +kernel) rfl
theorem q_c_yX5_within : Cond.code yX5_within cX5_within 3 (some .boolean) ∈ wA := wA_t4 93 (by decide +kernel) rfl
theorem q_m_RL_22 : Cond.methodLink RL 22 yX5_blank ∈ wA := wA_t4 94 (by decide +kernel) rfl
theorem q_i_yX5_blank : Cond.instanceMethod yX5_blank ∈ wA := wA_t4 95 (by decide +kernel) rfl
theorem q_s_yX5_blank : Cond.selects RX5 yX5_blank yX5_blank ∈ wA := wA_t4 96 (by decide +kernel) rfl
theorem q_c_yX5_blank : Cond.code yX5_blank cX5_blank 2 (some .int) ∈ wA := wA_t4 97 (by decide +kernel) rfl
theorem q_m_RL_26 : Cond.methodLink RL 26 yX5_fault ∈ wA := wA_t4 98 (by decide +kernel) rfl
theorem q_i_yX5_fault : Cond.instanceMethod yX5_fault ∈ wA := wA_t4 99 (by decide +kernel) rfl
theorem q_s_yX5_fault : Cond.selects RX5 yX5_fault yX5_fault ∈ wA := wA_t4 100 (by decide +kernel) rfl
theorem q_c_yX5_fault : Cond.code yX5_fault cX5_fault 1 (some .int) ∈ wA := wA_t4 101 (by decide +kernel) rfl
theorem q_m_RX5_109 : Cond.methodLink RX5 109 yX5_read ∈ wA := wA_t4 102 (by decide +kernel) rfl
theorem q_i_yX5_read : Cond.instanceMethod yX5_read ∈ wA := wA_t4 104 (by decide +kernel) rfl
theorem q_c_yX5_read : Cond.code yX5_read cX5_read 2 (some .int) ∈ wA := wA_t4 105 (by decide +kernel) rfl
theorem q_m_RX5_102 : Cond.methodLink RX5 102 yX5_isFigure ∈ wA := wA_t4 106 (by decide +kernel) rfl
theorem q_i_yX5_isFigure : Cond.instanceMethod yX5_isFigure ∈ wA := wA_t4 108 (by decide +kernel) rfl
theorem q_c_yX5_isFigure : Cond.code yX5_isFigure cX5_isFigure 3 (some .boolean) ∈ wA := wA_t4 109 (by decide +kernel) rfl
theorem q_m_RX5_85 : Cond.methodLink RX5 85 yX5_at ∈ wA := wA_t4 110 (by decide +kernel) rfl
theorem q_i_yX5_at : Cond.instanceMethod yX5_at ∈ wA := wA_t4 112 (by decide +kernel) rfl
theorem q_c_yX5_at : Cond.code yX5_at cX5_at 2 (some .int) ∈ wA := wA_t4 113 (by decide +kernel) rfl
theorem q_m_RX5_106 : Cond.methodLink RX5 106 yX5_readChildren ∈ wA := wA_t4 114 (by decide +kernel) rfl
theorem q_i_yX5_readChildren : Cond.instanceMethod yX5_readChildren ∈ wA := wA_t4 116 (by decide +kernel) rfl
theorem q_c_yX5_readChildren : Cond.code yX5_readChildren cX5_readChildren 3 (some .int) ∈ wA := wA_t4 117 (by decide +kernel) rfl
theorem q_m_RX5_92 : Cond.methodLink RX5 92 yX5_kindBy ∈ wA := wA_t4 118 (by decide +kernel) rfl
theorem q_st_yX5_kindBy : Cond.static yX5_kindBy ∈ wA := wA_t4 119 (by decide +kernel) rfl
theorem q_c_yX5_kindBy : Cond.code yX5_kindBy cX5_kindBy 1 (some .int) ∈ wA := wA_t4 120 (by decide +kernel) rfl
theorem q_m_RL_30 : Cond.methodLink RL 30 yX5_ring ∈ wA := wA_t4 121 (by decide +kernel) rfl
theorem q_i_yX5_ring : Cond.instanceMethod yX5_ring ∈ wA := wA_t4 122 (by decide +kernel) rfl
theorem q_s_yX5_ring : Cond.selects RX5 yX5_ring yX5_ring ∈ wA := wA_t4 123 (by decide +kernel) rfl
theorem q_c_yX5_ring : Cond.code yX5_ring cX5_ring 2 (some .int) ∈ wA := wA_t4 124 (by decide +kernel) rfl
theorem q_m_RL_35 : Cond.methodLink RL 35 yX5_child ∈ wA := wA_t4 125 (by decide +kernel) rfl
theorem q_i_yX5_child : Cond.instanceMethod yX5_child ∈ wA := wA_t4 126 (by decide +kernel) rfl
theorem q_s_yX5_child : Cond.selects RX5 yX5_child yX5_child ∈ wA := wA_t4 127 (by decide +kernel) rfl
theorem q_c_yX5_child : Cond.code yX5_child cX5_child 3 (some .int) ∈ wA := wA_t4 128 (by decide +kernel) rfl
theorem q_m_RX5_197 : Cond.methodLink RX5 197 yX5_isChild ∈ wA := wA_t4 129 (by decide +kernel) rfl
theorem q_i_yX5_isChild : Cond.instanceMethod yX5_isChild ∈ wA := wA_t4 131 (by decide +kernel) rfl
theorem q_c_yX5_isChild : Cond.code yX5_isChild cX5_isChild 2 (some .boolean) ∈ wA := wA_t4 132 (by decide +kernel) rfl
theorem q_m_RX5_200 : Cond.methodLink RX5 200 yX5_childNow ∈ wA := wA_t4 133 (by decide +kernel) rfl
theorem q_i_yX5_childNow : Cond.instanceMethod yX5_childNow ∈ wA := wA_t4 135 (by decide +kernel) rfl
theorem q_c_yX5_childNow : Cond.code yX5_childNow cX5_childNow 3 (some .int) ∈ wA := wA_t4 136 (by decide +kernel) rfl
theorem q_m_RX5_140 : Cond.methodLink RX5 140 yX5_isIn ∈ wA := wA_t4 137 (by decide +kernel) rfl
theorem q_st_yX5_isIn : Cond.static yX5_isIn ∈ wA := wA_t4 138 (by decide +kernel) rfl
theorem q_c_yX5_isIn : Cond.code yX5_isIn cX5_isIn 2 (some .boolean) ∈ wA := wA_t4 139 (by decide +kernel) rfl
theorem q_m_RX5_143 : Cond.methodLink RX5 143 yX5_takes ∈ wA := wA_t4 140 (by decide +kernel) rfl
theorem q_st_yX5_takes : Cond.static yX5_takes ∈ wA := wA_t4 141 (by decide +kernel) rfl
theorem q_c_yX5_takes : Cond.code yX5_takes cX5_takes 1 (some .int) ∈ wA := wA_t4 142 (by decide +kernel) rfl
theorem q_m_RX5_194 : Cond.methodLink RX5 194 yX5_beatsFor ∈ wA := wA_t4 143 (by decide +kernel) rfl
theorem q_i_yX5_beatsFor : Cond.instanceMethod yX5_beatsFor ∈ wA := wA_t4 145 (by decide +kernel) rfl
theorem q_c_yX5_beatsFor : Cond.code yX5_beatsFor cX5_beatsFor 3 (some .int) ∈ wA := wA_t4 146 (by decide +kernel) rfl
theorem q_m_RX5_191 : Cond.methodLink RX5 191 yX5_lastBy ∈ wA := wA_t4 147 (by decide +kernel) rfl
theorem q_i_yX5_lastBy : Cond.instanceMethod yX5_lastBy ∈ wA := wA_t4 149 (by decide +kernel) rfl
theorem q_c_yX5_lastBy : Cond.code yX5_lastBy cX5_lastBy 3 (some .int) ∈ wA := wA_t4 150 (by decide +kernel) rfl
theorem q_m_RX5_182 : Cond.methodLink RX5 182 yX5_save ∈ wA := wA_t4 151 (by decide +kernel) rfl
theorem q_i_yX5_save : Cond.instanceMethod yX5_save ∈ wA := wA_t4 153 (by decide +kernel) rfl
theorem q_c_yX5_save : Cond.code yX5_save cX5_save 1 none ∈ wA := wA_t4 154 (by decide +kernel) rfl
theorem q_m_RX5_185 : Cond.methodLink RX5 185 yX5_lastNow ∈ wA := wA_t4 155 (by decide +kernel) rfl
theorem q_i_yX5_lastNow : Cond.instanceMethod yX5_lastNow ∈ wA := wA_t4 157 (by decide +kernel) rfl
theorem q_c_yX5_lastNow : Cond.code yX5_lastNow cX5_lastNow 4 (some .int) ∈ wA := wA_t4 158 (by decide +kernel) rfl
theorem q_m_RX5_175 : Cond.methodLink RX5 175 yX5_isCount ∈ wA := wA_t4 159 (by decide +kernel) rfl
theorem q_i_yX5_isCount : Cond.instanceMethod yX5_isCount ∈ wA := wA_t4 161 (by decide +kernel) rfl
theorem q_c_yX5_isCount : Cond.code yX5_isCount cX5_isCount 1 (some .boolean) ∈ wA := wA_t4 162 (by decide +kernel) rfl
theorem q_m_RX5_146 : Cond.methodLink RX5 146 yX5_size ∈ wA := wA_t4 163 (by decide +kernel) rfl
theorem q_st_yX5_size : Cond.static yX5_size ∈ wA := wA_t4 164 (by decide +kernel) rfl
theorem q_c_yX5_size : Cond.code yX5_size cX5_size 3 (some .int) ∈ wA := wA_t4 165 (by decide +kernel) rfl
theorem q_m_RX5_149 : Cond.methodLink RX5 149 yX5_beatsIn ∈ wA := wA_t4 166 (by decide +kernel) rfl
theorem q_i_yX5_beatsIn : Cond.instanceMethod yX5_beatsIn ∈ wA := wA_t4 168 (by decide +kernel) rfl
theorem q_c_yX5_beatsIn : Cond.code yX5_beatsIn cX5_beatsIn 3 (some .int) ∈ wA := wA_t4 169 (by decide +kernel) rfl
theorem q_m_RX5_179 : Cond.methodLink RX5 179 yX5_goCount ∈ wA := wA_t4 170 (by decide +kernel) rfl
theorem q_i_yX5_goCount : Cond.instanceMethod yX5_goCount ∈ wA := wA_t4 172 (by decide +kernel) rfl
theorem q_c_yX5_goCount : Cond.code yX5_goCount cX5_goCount 4 (some .int) ∈ wA := wA_t4 173 (by decide +kernel) rfl
theorem q_m_RX5_152 : Cond.methodLink RX5 152 yX5_nextFrom ∈ wA := wA_t4 174 (by decide +kernel) rfl
theorem q_i_yX5_nextFrom : Cond.instanceMethod yX5_nextFrom ∈ wA := wA_t4 176 (by decide +kernel) rfl
theorem q_c_yX5_nextFrom : Cond.code yX5_nextFrom cX5_nextFrom 5 (some .int) ∈ wA := wA_t4 177 (by decide +kernel) rfl
theorem q_m_RX5_156 : Cond.methodLink RX5 156 yX5_isSly ∈ wA := wA_t4 178 (by decide +kernel) rfl
theorem q_i_yX5_isSly : Cond.instanceMethod yX5_isSly ∈ wA := wA_t4 180 (by decide +kernel) rfl
theorem q_c_yX5_isSly : Cond.code yX5_isSly cX5_isSly 2 (some .boolean) ∈ wA := wA_t4 181 (by decide +kernel) rfl
theorem q_m_RX5_160 : Cond.methodLink RX5 160 yX5_isOther ∈ wA := wA_t4 182 (by decide +kernel) rfl
theorem q_i_yX5_isOther : Cond.instanceMethod yX5_isOther ∈ wA := wA_t4 184 (by decide +kernel) rfl
theorem q_c_yX5_isOther : Cond.code yX5_isOther cX5_isOther 4 (some .boolean) ∈ wA := wA_t4 185 (by decide +kernel) rfl
theorem q_m_RX5_188 : Cond.methodLink RX5 188 yX5_load ∈ wA := wA_t4 186 (by decide +kernel) rfl
theorem q_i_yX5_load : Cond.instanceMethod yX5_load ∈ wA := wA_t4 188 (by decide +kernel) rfl
theorem q_c_yX5_load : Cond.code yX5_load cX5_load 1 none ∈ wA := wA_t4 189 (by decide +kernel) rfl
theorem q_m_RL_39 : Cond.methodLink RL 39 yX5_as ∈ wA := wA_t4 190 (by decide +kernel) rfl
theorem q_i_yX5_as : Cond.instanceMethod yX5_as ∈ wA := wA_t4 191 (by decide +kernel) rfl
theorem q_s_yX5_as : Cond.selects RX5 yX5_as yX5_as ∈ wA := wA_t4 192 (by decide +kernel) rfl
theorem q_c_yX5_as : Cond.code yX5_as cX5_as 4 (some .int) ∈ wA := wA_t4 193 (by decide +kernel) rfl
theorem q_m_RL_43 : Cond.methodLink RL 43 yX5_verse ∈ wA := wA_t4 194 (by decide +kernel) rfl
theorem q_i_yX5_verse : Cond.instanceMethod yX5_verse ∈ wA := wA_t4 195 (by decide +kernel) rfl
theorem q_s_yX5_verse : Cond.selects RX5 yX5_verse yX5_verse ∈ wA := wA_t4 196 (by decide +kernel) rfl
theorem q_c_yX5_verse : Cond.code yX5_verse cX5_verse 3 (some .int) ∈ wA := wA_t4 197 (by decide +kernel) rfl
theorem q_m_RX5_207 : Cond.methodLink RX5 207 yX5_isVerse ∈ wA := wA_t4 198 (by decide +kernel) rfl
theorem q_i_yX5_isVerse : Cond.instanceMethod yX5_isVerse ∈ wA := wA_t4 200 (by decide +kernel) rfl
theorem q_c_yX5_isVerse : Cond.code yX5_isVerse cX5_isVerse 2 (some .boolean) ∈ wA := wA_t4 201 (by decide +kernel) rfl
theorem q_m_RX5_210 : Cond.methodLink RX5 210 yX5_verseNow ∈ wA := wA_t4 202 (by decide +kernel) rfl
theorem q_i_yX5_verseNow : Cond.instanceMethod yX5_verseNow ∈ wA := wA_t4 204 (by decide +kernel) rfl
theorem q_c_yX5_verseNow : Cond.code yX5_verseNow cX5_verseNow 3 (some .int) ∈ wA := wA_t4 205 (by decide +kernel) rfl
theorem q_m_RX5_204 : Cond.methodLink RX5 204 yX5_outBy ∈ wA := wA_t4 206 (by decide +kernel) rfl
theorem q_i_yX5_outBy : Cond.instanceMethod yX5_outBy ∈ wA := wA_t4 208 (by decide +kernel) rfl
theorem q_c_yX5_outBy : Cond.code yX5_outBy cX5_outBy 4 (some .int) ∈ wA := wA_t4 209 (by decide +kernel) rfl
theorem q_m_RL_47 : Cond.methodLink RL 47 yX5_say ∈ wA := wA_t4 210 (by decide +kernel) rfl
theorem q_i_yX5_say : Cond.instanceMethod yX5_say ∈ wA := wA_t4 211 (by decide +kernel) rfl
theorem q_s_yX5_say : Cond.selects RX5 yX5_say yX5_say ∈ wA := wA_t4 212 (by decide +kernel) rfl
theorem q_c_yX5_say : Cond.code yX5_say cX5_say 2 (some .int) ∈ wA := wA_t4 213 (by decide +kernel) rfl
theorem q_m_RL_51 : Cond.methodLink RL 51 yX5_back ∈ wA := wA_t4 214 (by decide +kernel) rfl
theorem q_i_yX5_back : Cond.instanceMethod yX5_back ∈ wA := wA_t4 215 (by decide +kernel) rfl
theorem q_s_yX5_back : Cond.selects RX5 yX5_back yX5_back ∈ wA := wA_t4 216 (by decide +kernel) rfl
theorem q_c_yX5_back : Cond.code yX5_back cX5_back 2 (some .int) ∈ wA := wA_t4 217 (by decide +kernel) rfl
theorem q_m_RL_55 : Cond.methodLink RL 55 yX5_first ∈ wA := wA_t4 218 (by decide +kernel) rfl
theorem q_i_yX5_first : Cond.instanceMethod yX5_first ∈ wA := wA_t4 219 (by decide +kernel) rfl
theorem q_s_yX5_first : Cond.selects RX5 yX5_first yX5_first ∈ wA := wA_t4 220 (by decide +kernel) rfl
theorem q_c_yX5_first : Cond.code yX5_first cX5_first 3 (some .int) ∈ wA := wA_t4 221 (by decide +kernel) rfl
theorem q_m_RL_59 : Cond.methodLink RL 59 yX5_turn ∈ wA := wA_t4 222 (by decide +kernel) rfl
theorem q_i_yX5_turn : Cond.instanceMethod yX5_turn ∈ wA := wA_t4 223 (by decide +kernel) rfl
theorem q_s_yX5_turn : Cond.selects RX5 yX5_turn yX5_turn ∈ wA := wA_t4 224 (by decide +kernel) rfl
theorem q_c_yX5_turn : Cond.code yX5_turn cX5_turn 1 (some .int) ∈ wA := wA_t4 225 (by decide +kernel) rfl
theorem q_m_RL_63 : Cond.methodLink RL 63 yX5_beats ∈ wA := wA_t4 226 (by decide +kernel) rfl
theorem q_i_yX5_beats : Cond.instanceMethod yX5_beats ∈ wA := wA_t4 227 (by decide +kernel) rfl
theorem q_s_yX5_beats : Cond.selects RX5 yX5_beats yX5_beats ∈ wA := wA_t4 228 (by decide +kernel) rfl
theorem q_c_yX5_beats : Cond.code yX5_beats cX5_beats 4 (some .int) ∈ wA := wA_t4 229 (by decide +kernel) rfl
theorem q_m_RL_67 : Cond.methodLink RL 67 yX5_be ∈ wA := wA_t4 230 (by decide +kernel) rfl
theorem q_i_yX5_be : Cond.instanceMethod yX5_be ∈ wA := wA_t4 231 (by decide +kernel) rfl
theorem q_s_yX5_be : Cond.selects RX5 yX5_be yX5_be ∈ wA := wA_t4 232 (by decide +kernel) rfl
theorem q_c_yX5_be : Cond.code yX5_be cX5_be 4 (some .int) ∈ wA := wA_t4 233 (by decide +kernel) rfl
theorem q_m_RL_71 : Cond.methodLink RL 71 yX5_last ∈ wA := wA_t4 234 (by decide +kernel) rfl
theorem q_i_yX5_last : Cond.instanceMethod yX5_last ∈ wA := wA_t4 235 (by decide +kernel) rfl
theorem q_s_yX5_last : Cond.selects RX5 yX5_last yX5_last ∈ wA := wA_t4 236 (by decide +kernel) rfl
theorem q_c_yX5_last : Cond.code yX5_last cX5_last 2 (some .int) ∈ wA := wA_t4 237 (by decide +kernel) rfl
theorem q_m_RX5_213 : Cond.methodLink RX5 213 yX5_areBeats ∈ wA := wA_t4 238 (by decide +kernel) rfl
theorem q_st_yX5_areBeats : Cond.static yX5_areBeats ∈ wA := wA_t4 239 (by decide +kernel) rfl
theorem q_c_yX5_areBeats : Cond.code yX5_areBeats cX5_areBeats 1 (some .boolean) ∈ wA := wA_t5 0 (by decide +kernel) rfl
theorem q_m_RL_75 : Cond.methodLink RL 75 yX5_begin ∈ wA := wA_t5 1 (by decide +kernel) rfl
theorem q_i_yX5_begin : Cond.instanceMethod yX5_begin ∈ wA := wA_t5 2 (by decide +kernel) rfl
theorem q_s_yX5_begin : Cond.selects RX5 yX5_begin yX5_begin ∈ wA := wA_t5 3 (by decide +kernel) rfl
theorem q_c_yX5_begin : Cond.code yX5_begin cX5_begin 3 (some .int) ∈ wA := wA_t5 4 (by decide +kernel) rfl
theorem q_m_RX5_216 : Cond.methodLink RX5 216 yX5_beginNow ∈ wA := wA_t5 5 (by decide +kernel) rfl
theorem q_i_yX5_beginNow : Cond.instanceMethod yX5_beginNow ∈ wA := wA_t5 7 (by decide +kernel) rfl
theorem q_c_yX5_beginNow : Cond.code yX5_beginNow cX5_beginNow 5 (some .int) ∈ wA := wA_t5 8 (by decide +kernel) rfl
theorem q_m_RL_79 : Cond.methodLink RL 79 yX5_stand ∈ wA := wA_t5 9 (by decide +kernel) rfl
theorem q_i_yX5_stand : Cond.instanceMethod yX5_stand ∈ wA := wA_t5 10 (by decide +kernel) rfl
theorem q_s_yX5_stand : Cond.selects RX5 yX5_stand yX5_stand ∈ wA := wA_t5 11 (by decide +kernel) rfl
theorem q_c_yX5_stand : Cond.code yX5_stand cX5_stand 3 (some .int) ∈ wA := wA_t5 12 (by decide +kernel) rfl
theorem q_m_RX5_222 : Cond.methodLink RX5 222 yX5_standNow ∈ wA := wA_t5 13 (by decide +kernel) rfl
theorem q_i_yX5_standNow : Cond.instanceMethod yX5_standNow ∈ wA := wA_t5 15 (by decide +kernel) rfl
theorem q_c_yX5_standNow : Cond.code yX5_standNow cX5_standNow 6 (some .int) ∈ wA := wA_t5 16 (by decide +kernel) rfl
theorem q_m_RX5_219 : Cond.methodLink RX5 219 yX5_opened ∈ wA := wA_t5 17 (by decide +kernel) rfl
theorem q_st_yX5_opened : Cond.static yX5_opened ∈ wA := wA_t5 18 (by decide +kernel) rfl
theorem q_c_yX5_opened : Cond.code yX5_opened cX5_opened 3 (some .int) ∈ wA := wA_t5 19 (by decide +kernel) rfl
theorem q_m_RL_84 : Cond.methodLink RL 84 yX5_game ∈ wA := wA_t5 20 (by decide +kernel) rfl
theorem q_i_yX5_game : Cond.instanceMethod yX5_game ∈ wA := wA_t5 21 (by decide +kernel) rfl
theorem q_s_yX5_game : Cond.selects RX5 yX5_game yX5_game ∈ wA := wA_t5 22 (by decide +kernel) rfl
theorem q_c_yX5_game : Cond.code yX5_game cX5_game 4 (some .int) ∈ wA := wA_t5 23 (by decide +kernel) rfl
theorem q_m_RX5_239 : Cond.methodLink RX5 239 yX5_gameNow ∈ wA := wA_t5 24 (by decide +kernel) rfl
theorem q_i_yX5_gameNow : Cond.instanceMethod yX5_gameNow ∈ wA := wA_t5 26 (by decide +kernel) rfl
theorem q_c_yX5_gameNow : Cond.code yX5_gameNow cX5_gameNow 6 (some .int) ∈ wA := wA_t5 27 (by decide +kernel) rfl
theorem q_m_RX5_232 : Cond.methodLink RX5 232 yX5_layGame ∈ wA := wA_t5 28 (by decide +kernel) rfl
theorem q_i_yX5_layGame : Cond.instanceMethod yX5_layGame ∈ wA := wA_t5 30 (by decide +kernel) rfl
theorem q_c_yX5_layGame : Cond.code yX5_layGame cX5_layGame 8 (some .int) ∈ wA := wA_t5 31 (by decide +kernel) rfl
theorem q_m_RX5_228 : Cond.methodLink RX5 228 yX5_playBy ∈ wA := wA_t5 32 (by decide +kernel) rfl
theorem q_i_yX5_playBy : Cond.instanceMethod yX5_playBy ∈ wA := wA_t5 34 (by decide +kernel) rfl
theorem q_c_yX5_playBy : Cond.code yX5_playBy cX5_playBy 8 (some .int) ∈ wA := wA_t5 35 (by decide +kernel) rfl
theorem q_m_RX5_235 : Cond.methodLink RX5 235 yX5_foldGame ∈ wA := wA_t5 36 (by decide +kernel) rfl
theorem q_i_yX5_foldGame : Cond.instanceMethod yX5_foldGame ∈ wA := wA_t5 38 (by decide +kernel) rfl
theorem q_c_yX5_foldGame : Cond.code yX5_foldGame cX5_foldGame 9 none ∈ wA := wA_t5 39 (by decide +kernel) rfl
theorem q_m_RL_88 : Cond.methodLink RL 88 yX5_likely ∈ wA := wA_t5 40 (by decide +kernel) rfl
theorem q_i_yX5_likely : Cond.instanceMethod yX5_likely ∈ wA := wA_t5 41 (by decide +kernel) rfl
theorem q_s_yX5_likely : Cond.selects RX5 yX5_likely yX5_likely ∈ wA := wA_t5 42 (by decide +kernel) rfl
theorem q_c_yX5_likely : Cond.code yX5_likely cX5_likely 3 (some .int) ∈ wA := wA_t5 43 (by decide +kernel) rfl
theorem q_m_RX5_268 : Cond.methodLink RX5 268 yX5_layLikely ∈ wA := wA_t5 44 (by decide +kernel) rfl
theorem q_i_yX5_layLikely : Cond.instanceMethod yX5_layLikely ∈ wA := wA_t5 46 (by decide +kernel) rfl
theorem q_c_yX5_layLikely : Cond.code yX5_layLikely cX5_layLikely 5 none ∈ wA := wA_t5 47 (by decide +kernel) rfl
theorem q_m_RX5_259 : Cond.methodLink RX5 259 yX5_enter ∈ wA := wA_t5 48 (by decide +kernel) rfl
theorem q_i_yX5_enter : Cond.instanceMethod yX5_enter ∈ wA := wA_t5 50 (by decide +kernel) rfl
theorem q_c_yX5_enter : Cond.code yX5_enter cX5_enter 3 none ∈ wA := wA_t5 51 (by decide +kernel) rfl
theorem q_m_RX5_249 : Cond.methodLink RX5 249 yX5_putDeep ∈ wA := wA_t5 52 (by decide +kernel) rfl
theorem q_i_yX5_putDeep : Cond.instanceMethod yX5_putDeep ∈ wA := wA_t5 54 (by decide +kernel) rfl
theorem q_c_yX5_putDeep : Cond.code yX5_putDeep cX5_putDeep 3 none ∈ wA := wA_t5 55 (by decide +kernel) rfl
theorem q_m_RX5_253 : Cond.methodLink RX5 253 yX5_layFaces ∈ wA := wA_t5 56 (by decide +kernel) rfl
theorem q_i_yX5_layFaces : Cond.instanceMethod yX5_layFaces ∈ wA := wA_t5 58 (by decide +kernel) rfl
theorem q_c_yX5_layFaces : Cond.code yX5_layFaces cX5_layFaces 4 none ∈ wA := wA_t5 59 (by decide +kernel) rfl
theorem q_m_RX5_243 : Cond.methodLink RX5 243 yX5_setDeep ∈ wA := wA_t5 60 (by decide +kernel) rfl
theorem q_i_yX5_setDeep : Cond.instanceMethod yX5_setDeep ∈ wA := wA_t5 62 (by decide +kernel) rfl
theorem q_c_yX5_setDeep : Cond.code yX5_setDeep cX5_setDeep 2 none ∈ wA := wA_t5 63 (by decide +kernel) rfl
theorem q_m_RX5_256 : Cond.methodLink RX5 256 yX5_endDeep ∈ wA := wA_t5 64 (by decide +kernel) rfl
theorem q_i_yX5_endDeep : Cond.instanceMethod yX5_endDeep ∈ wA := wA_t5 66 (by decide +kernel) rfl
theorem q_c_yX5_endDeep : Cond.code yX5_endDeep cX5_endDeep 4 none ∈ wA := wA_t5 67 (by decide +kernel) rfl
theorem q_m_RX5_262 : Cond.methodLink RX5 262 yX5_likeFaces ∈ wA := wA_t5 68 (by decide +kernel) rfl
theorem q_i_yX5_likeFaces : Cond.instanceMethod yX5_likeFaces ∈ wA := wA_t5 70 (by decide +kernel) rfl
theorem q_c_yX5_likeFaces : Cond.code yX5_likeFaces cX5_likeFaces 5 (some .int) ∈ wA := wA_t5 71 (by decide +kernel) rfl
theorem q_m_RX5_246 : Cond.methodLink RX5 246 yX5_areAlike ∈ wA := wA_t5 72 (by decide +kernel) rfl
theorem q_i_yX5_areAlike : Cond.instanceMethod yX5_areAlike ∈ wA := wA_t5 74 (by decide +kernel) rfl
theorem q_c_yX5_areAlike : Cond.code yX5_areAlike cX5_areAlike 3 (some .boolean) ∈ wA := wA_t5 75 (by decide +kernel) rfl
theorem q_m_RX5_271 : Cond.methodLink RX5 271 yX5_likelyNow ∈ wA := wA_t5 76 (by decide +kernel) rfl
theorem q_i_yX5_likelyNow : Cond.instanceMethod yX5_likelyNow ∈ wA := wA_t5 78 (by decide +kernel) rfl
theorem q_c_yX5_likelyNow : Cond.code yX5_likelyNow cX5_likelyNow 5 (some .int) ∈ wA := wA_t5 79 (by decide +kernel) rfl
theorem q_m_RX5_265 : Cond.methodLink RX5 265 yX5_divisor ∈ wA := wA_t5 80 (by decide +kernel) rfl
theorem q_st_yX5_divisor : Cond.static yX5_divisor ∈ wA := wA_t5 81 (by decide +kernel) rfl
theorem q_c_yX5_divisor : Cond.code yX5_divisor cX5_divisor 5 (some .int) ∈ wA := wA_t5 82 (by decide +kernel) rfl
theorem q_m_RL_92 : Cond.methodLink RL 92 yX5_see ∈ wA := wA_t5 83 (by decide +kernel) rfl
theorem q_i_yX5_see : Cond.instanceMethod yX5_see ∈ wA := wA_t5 84 (by decide +kernel) rfl
theorem q_s_yX5_see : Cond.selects RX5 yX5_see yX5_see ∈ wA := wA_t5 85 (by decide +kernel) rfl
theorem q_c_yX5_see : Cond.code yX5_see cX5_see 3 (some .int) ∈ wA := wA_t5 86 (by decide +kernel) rfl
theorem q_m_RL_96 : Cond.methodLink RL 96 yX5_forget ∈ wA := wA_t5 87 (by decide +kernel) rfl
theorem q_i_yX5_forget : Cond.instanceMethod yX5_forget ∈ wA := wA_t5 88 (by decide +kernel) rfl
theorem q_s_yX5_forget : Cond.selects RX5 yX5_forget yX5_forget ∈ wA := wA_t5 89 (by decide +kernel) rfl
theorem q_c_yX5_forget : Cond.code yX5_forget cX5_forget 2 (some .int) ∈ wA := wA_t5 90 (by decide +kernel) rfl
theorem q_m_RL_100 : Cond.methodLink RL 100 yX5_lengths ∈ wA := wA_t5 91 (by decide +kernel) rfl
theorem q_i_yX5_lengths : Cond.instanceMethod yX5_lengths ∈ wA := wA_t5 92 (by decide +kernel) rfl
theorem q_s_yX5_lengths : Cond.selects RX5 yX5_lengths yX5_lengths ∈ wA := wA_t5 93 (by decide +kernel) rfl
theorem q_c_yX5_lengths : Cond.code yX5_lengths cX5_lengths 1 (some .int) ∈ wA := wA_t5 94 (by decide +kernel) rfl
theorem q_m_RX5_274 : Cond.methodLink RX5 274 yX5_lengthsNow ∈ wA := wA_t5 95 (by decide +kernel) rfl
theorem q_i_yX5_lengthsNow : Cond.instanceMethod yX5_lengthsNow ∈ wA := wA_t5 97 (by decide +kernel) rfl
theorem q_c_yX5_lengthsNow : Cond.code yX5_lengthsNow cX5_lengthsNow 5 (some .int) ∈ wA := wA_t5 98 (by decide +kernel) rfl
theorem q_m_RL_104 : Cond.methodLink RL 104 yX5_from ∈ wA := wA_t5 99 (by decide +kernel) rfl
theorem q_i_yX5_from : Cond.instanceMethod yX5_from ∈ wA := wA_t5 100 (by decide +kernel) rfl
theorem q_s_yX5_from : Cond.selects RX5 yX5_from yX5_from ∈ wA := wA_t5 101 (by decide +kernel) rfl
theorem q_c_yX5_from : Cond.code yX5_from cX5_from 1 (some .int) ∈ wA := wA_t5 102 (by decide +kernel) rfl
theorem q_m_RX5_281 : Cond.methodLink RX5 281 yX5_fromNow ∈ wA := wA_t5 103 (by decide +kernel) rfl
theorem q_i_yX5_fromNow : Cond.instanceMethod yX5_fromNow ∈ wA := wA_t5 105 (by decide +kernel) rfl
theorem q_c_yX5_fromNow : Cond.code yX5_fromNow cX5_fromNow 6 (some .int) ∈ wA := wA_t5 106 (by decide +kernel) rfl
theorem q_k_RX5_277 : Cond.constant RX5 277 (268435456) ∈ wA := wA_t5 107 (by decide +kernel) rfl
theorem q_m_RX5_278 : Cond.methodLink RX5 278 yX5_worstFrom ∈ wA := wA_t5 108 (by decide +kernel) rfl
theorem q_i_yX5_worstFrom : Cond.instanceMethod yX5_worstFrom ∈ wA := wA_t5 110 (by decide +kernel) rfl
theorem q_c_yX5_worstFrom : Cond.code yX5_worstFrom cX5_worstFrom 6 (some .int) ∈ wA := wA_t5 111 (by decide +kernel) rfl
theorem q_m_RL_108 : Cond.methodLink RL 108 yX5_rounds ∈ wA := wA_t5 112 (by decide +kernel) rfl
theorem q_i_yX5_rounds : Cond.instanceMethod yX5_rounds ∈ wA := wA_t5 113 (by decide +kernel) rfl
theorem q_s_yX5_rounds : Cond.selects RX5 yX5_rounds yX5_rounds ∈ wA := wA_t5 114 (by decide +kernel) rfl
theorem q_c_yX5_rounds : Cond.code yX5_rounds cX5_rounds 4 (some .int) ∈ wA := wA_t5 115 (by decide +kernel) rfl
theorem q_m_RX5_299 : Cond.methodLink RX5 299 yX5_roundsNow ∈ wA := wA_t5 116 (by decide +kernel) rfl
theorem q_i_yX5_roundsNow : Cond.instanceMethod yX5_roundsNow ∈ wA := wA_t5 118 (by decide +kernel) rfl
theorem q_c_yX5_roundsNow : Cond.code yX5_roundsNow cX5_roundsNow 6 (some .int) ∈ wA := wA_t5 119 (by decide +kernel) rfl
theorem q_m_RX5_296 : Cond.methodLink RX5 296 yX5_draw ∈ wA := wA_t5 120 (by decide +kernel) rfl
theorem q_i_yX5_draw : Cond.instanceMethod yX5_draw ∈ wA := wA_t5 122 (by decide +kernel) rfl
theorem q_c_yX5_draw : Cond.code yX5_draw cX5_draw 2 (some .int) ∈ wA := wA_t5 123 (by decide +kernel) rfl
theorem q_kl_RX5_284 : Cond.constantLong RX5 284 (1103515245) ∈ wA := wA_t5 124 (by decide +kernel) rfl
theorem q_kl_RX5_290 : Cond.constantLong RX5 290 (12345) ∈ wA := wA_t5 125 (by decide +kernel) rfl
theorem q_kl_RX5_292 : Cond.constantLong RX5 292 (2147483647) ∈ wA := wA_t5 126 (by decide +kernel) rfl
theorem q_kl_RX5_294 : Cond.constantLong RX5 294 (65536) ∈ wA := wA_t5 127 (by decide +kernel) rfl
theorem q_m_RL_112 : Cond.methodLink RL 112 yX5_image ∈ wA := wA_t5 128 (by decide +kernel) rfl
theorem q_i_yX5_image : Cond.instanceMethod yX5_image ∈ wA := wA_t5 129 (by decide +kernel) rfl
theorem q_s_yX5_image : Cond.selects RX5 yX5_image yX5_image ∈ wA := wA_t5 130 (by decide +kernel) rfl
theorem q_c_yX5_image : Cond.code yX5_image cX5_image 2 (some .int) ∈ wA := wA_t5 131 (by decide +kernel) rfl
theorem q_m_RL_116 : Cond.methodLink RL 116 yX5_restore ∈ wA := wA_t5 132 (by decide +kernel) rfl
theorem q_i_yX5_restore : Cond.instanceMethod yX5_restore ∈ wA := wA_t5 133 (by decide +kernel) rfl
theorem q_s_yX5_restore : Cond.selects RX5 yX5_restore yX5_restore ∈ wA := wA_t5 134 (by decide +kernel) rfl
theorem q_c_yX5_restore : Cond.code yX5_restore cX5_restore 2 (some .int) ∈ wA := wA_t5 135 (by decide +kernel) rfl
theorem q_m_RL_120 : Cond.methodLink RL 120 yX5_count ∈ wA := wA_t5 136 (by decide +kernel) rfl
theorem q_i_yX5_count : Cond.instanceMethod yX5_count ∈ wA := wA_t5 137 (by decide +kernel) rfl
theorem q_s_yX5_count : Cond.selects RX5 yX5_count yX5_count ∈ wA := wA_t5 138 (by decide +kernel) rfl
theorem q_c_yX5_count : Cond.code yX5_count cX5_count 2 (some .int) ∈ wA := wA_t5 139 (by decide +kernel) rfl
theorem q_m_RX5_326 : Cond.methodLink RX5 326 yX5_howMany ∈ wA := wA_t5 140 (by decide +kernel) rfl
theorem q_i_yX5_howMany : Cond.instanceMethod yX5_howMany ∈ wA := wA_t5 142 (by decide +kernel) rfl
theorem q_c_yX5_howMany : Cond.code yX5_howMany cX5_howMany 2 (some .int) ∈ wA := wA_t5 143 (by decide +kernel) rfl
theorem q_m_RL_125 : Cond.methodLink RL 125 yX5_digest ∈ wA := wA_t5 144 (by decide +kernel) rfl
theorem q_i_yX5_digest : Cond.instanceMethod yX5_digest ∈ wA := wA_t5 145 (by decide +kernel) rfl
theorem q_s_yX5_digest : Cond.selects RX5 yX5_digest yX5_digest ∈ wA := wA_t5 146 (by decide +kernel) rfl
theorem q_c_yX5_digest : Cond.code yX5_digest cX5_digest 3 (some .long) ∈ wA := wA_t5 147 (by decide +kernel) rfl
theorem q_kl_RX5_338 : Cond.constantLong RX5 338 (1289) ∈ wA := wA_t5 148 (by decide +kernel) rfl
theorem q_m_RX5_334 : Cond.methodLink RX5 334 yX5_mix ∈ wA := wA_t5 149 (by decide +kernel) rfl
theorem q_i_yX5_mix : Cond.instanceMethod yX5_mix ∈ wA := wA_t5 151 (by decide +kernel) rfl
theorem q_c_yX5_mix : Cond.code yX5_mix cX5_mix 3 none ∈ wA := wA_t5 152 (by decide +kernel) rfl
theorem q_kl_RX5_329 : Cond.constantLong RX5 329 (31) ∈ wA := wA_t5 153 (by decide +kernel) rfl
theorem q_m_RX5_340 : Cond.methodLink RX5 340 yX5_mixRing ∈ wA := wA_t5 154 (by decide +kernel) rfl
theorem q_i_yX5_mixRing : Cond.instanceMethod yX5_mixRing ∈ wA := wA_t5 156 (by decide +kernel) rfl
theorem q_c_yX5_mixRing : Cond.code yX5_mixRing cX5_mixRing 2 none ∈ wA := wA_t5 157 (by decide +kernel) rfl
theorem q_f_RJ0_15 : Cond.fieldLink RJ0 15 "java/lang/String" "coder" "B" ∈ wA := wA_t5 158 (by decide +kernel) rfl
theorem q_f_RJ0_9 : Cond.fieldLink RJ0 9 "java/lang/String" "value" "[B" ∈ wA := wA_t5 159 (by decide +kernel) rfl
theorem q_s_yX2_reads : Cond.selects RX2 yX2_reads yX2_reads ∈ wA := wA_s (y := yX2_reads) (n := 8) 0 (by decide +kernel)
theorem q_s_yX2_readsTens : Cond.selects RX2 yX2_readsTens yX2_readsTens ∈ wA := wA_s (y := yX2_readsTens) (n := 8) 1 (by decide +kernel)
theorem q_s_yX2_readsOnes : Cond.selects RX2 yX2_readsOnes yX2_readsOnes ∈ wA := wA_s (y := yX2_readsOnes) (n := 8) 2 (by decide +kernel)
theorem q_s_yX2_readsBetween : Cond.selects RX2 yX2_readsBetween yX2_readsBetween ∈ wA := wA_s (y := yX2_readsBetween) (n := 8) 3 (by decide +kernel)
theorem q_s_yX2_readsChild : Cond.selects RX2 yX2_readsChild yX2_readsChild ∈ wA := wA_s (y := yX2_readsChild) (n := 8) 4 (by decide +kernel)
theorem q_s_yX0_fallsOn : Cond.selects RX0 yX0_fallsOn yX0_fallsOn ∈ wA := wA_s (y := yX0_fallsOn) (n := 9) 5 (by decide +kernel)
theorem q_s_yX0_nextOf : Cond.selects RX0 yX0_nextOf yX0_nextOf ∈ wA := wA_s (y := yX0_nextOf) (n := 9) 6 (by decide +kernel)
theorem q_s_yX0_slipOn : Cond.selects RX0 yX0_slipOn yX0_slipOn ∈ wA := wA_s (y := yX0_slipOn) (n := 9) 7 (by decide +kernel)
theorem q_s_yX1_worth : Cond.selects RX1 yX1_worth yX1_worth ∈ wA := wA_s (y := yX1_worth) (n := 8) 8 (by decide +kernel)
theorem q_s_yX1_shareOut : Cond.selects RX1 yX1_shareOut yX1_shareOut ∈ wA := wA_s (y := yX1_shareOut) (n := 8) 9 (by decide +kernel)
theorem q_s_yX1_mostLeft : Cond.selects RX1 yX1_mostLeft yX1_mostLeft ∈ wA := wA_s (y := yX1_mostLeft) (n := 8) 10 (by decide +kernel)
theorem q_s_yX1_beatsDrawn : Cond.selects RX1 yX1_beatsDrawn yX1_beatsDrawn ∈ wA := wA_s (y := yX1_beatsDrawn) (n := 8) 11 (by decide +kernel)
theorem q_s_yX5_read : Cond.selects RX5 yX5_read yX5_read ∈ wA := wA_s (y := yX5_read) (n := 50) 12 (by decide +kernel)
theorem q_s_yX5_isFigure : Cond.selects RX5 yX5_isFigure yX5_isFigure ∈ wA := wA_s (y := yX5_isFigure) (n := 50) 13 (by decide +kernel)
theorem q_s_yX5_at : Cond.selects RX5 yX5_at yX5_at ∈ wA := wA_s (y := yX5_at) (n := 50) 14 (by decide +kernel)
theorem q_s_yX5_readChildren : Cond.selects RX5 yX5_readChildren yX5_readChildren ∈ wA := wA_s (y := yX5_readChildren) (n := 50) 15 (by decide +kernel)
theorem q_s_yX5_isChild : Cond.selects RX5 yX5_isChild yX5_isChild ∈ wA := wA_s (y := yX5_isChild) (n := 50) 16 (by decide +kernel)
theorem q_s_yX5_childNow : Cond.selects RX5 yX5_childNow yX5_childNow ∈ wA := wA_s (y := yX5_childNow) (n := 50) 17 (by decide +kernel)
theorem q_s_yX5_beatsFor : Cond.selects RX5 yX5_beatsFor yX5_beatsFor ∈ wA := wA_s (y := yX5_beatsFor) (n := 50) 18 (by decide +kernel)
theorem q_s_yX5_lastBy : Cond.selects RX5 yX5_lastBy yX5_lastBy ∈ wA := wA_s (y := yX5_lastBy) (n := 50) 19 (by decide +kernel)
theorem q_s_yX5_save : Cond.selects RX5 yX5_save yX5_save ∈ wA := wA_s (y := yX5_save) (n := 50) 20 (by decide +kernel)
theorem q_s_yX5_lastNow : Cond.selects RX5 yX5_lastNow yX5_lastNow ∈ wA := wA_s (y := yX5_lastNow) (n := 50) 21 (by decide +kernel)
theorem q_s_yX5_isCount : Cond.selects RX5 yX5_isCount yX5_isCount ∈ wA := wA_s (y := yX5_isCount) (n := 50) 22 (by decide +kernel)
theorem q_s_yX5_beatsIn : Cond.selects RX5 yX5_beatsIn yX5_beatsIn ∈ wA := wA_s (y := yX5_beatsIn) (n := 50) 23 (by decide +kernel)
theorem q_s_yX5_goCount : Cond.selects RX5 yX5_goCount yX5_goCount ∈ wA := wA_s (y := yX5_goCount) (n := 50) 24 (by decide +kernel)
theorem q_s_yX5_nextFrom : Cond.selects RX5 yX5_nextFrom yX5_nextFrom ∈ wA := wA_s (y := yX5_nextFrom) (n := 50) 25 (by decide +kernel)
theorem q_s_yX5_isSly : Cond.selects RX5 yX5_isSly yX5_isSly ∈ wA := wA_s (y := yX5_isSly) (n := 50) 26 (by decide +kernel)
theorem q_s_yX5_isOther : Cond.selects RX5 yX5_isOther yX5_isOther ∈ wA := wA_s (y := yX5_isOther) (n := 50) 27 (by decide +kernel)
theorem q_s_yX5_load : Cond.selects RX5 yX5_load yX5_load ∈ wA := wA_s (y := yX5_load) (n := 50) 28 (by decide +kernel)
theorem q_s_yX5_isVerse : Cond.selects RX5 yX5_isVerse yX5_isVerse ∈ wA := wA_s (y := yX5_isVerse) (n := 50) 29 (by decide +kernel)
theorem q_s_yX5_verseNow : Cond.selects RX5 yX5_verseNow yX5_verseNow ∈ wA := wA_s (y := yX5_verseNow) (n := 50) 30 (by decide +kernel)
theorem q_s_yX5_outBy : Cond.selects RX5 yX5_outBy yX5_outBy ∈ wA := wA_s (y := yX5_outBy) (n := 50) 31 (by decide +kernel)
theorem q_s_yX5_beginNow : Cond.selects RX5 yX5_beginNow yX5_beginNow ∈ wA := wA_s (y := yX5_beginNow) (n := 50) 32 (by decide +kernel)
theorem q_s_yX5_standNow : Cond.selects RX5 yX5_standNow yX5_standNow ∈ wA := wA_s (y := yX5_standNow) (n := 50) 33 (by decide +kernel)
theorem q_s_yX5_gameNow : Cond.selects RX5 yX5_gameNow yX5_gameNow ∈ wA := wA_s (y := yX5_gameNow) (n := 50) 34 (by decide +kernel)
theorem q_s_yX5_layGame : Cond.selects RX5 yX5_layGame yX5_layGame ∈ wA := wA_s (y := yX5_layGame) (n := 50) 35 (by decide +kernel)
theorem q_s_yX5_playBy : Cond.selects RX5 yX5_playBy yX5_playBy ∈ wA := wA_s (y := yX5_playBy) (n := 50) 36 (by decide +kernel)
theorem q_s_yX5_foldGame : Cond.selects RX5 yX5_foldGame yX5_foldGame ∈ wA := wA_s (y := yX5_foldGame) (n := 50) 37 (by decide +kernel)
theorem q_s_yX5_layLikely : Cond.selects RX5 yX5_layLikely yX5_layLikely ∈ wA := wA_s (y := yX5_layLikely) (n := 50) 38 (by decide +kernel)
theorem q_s_yX5_enter : Cond.selects RX5 yX5_enter yX5_enter ∈ wA := wA_s (y := yX5_enter) (n := 50) 39 (by decide +kernel)
theorem q_s_yX5_putDeep : Cond.selects RX5 yX5_putDeep yX5_putDeep ∈ wA := wA_s (y := yX5_putDeep) (n := 50) 40 (by decide +kernel)
theorem q_s_yX5_layFaces : Cond.selects RX5 yX5_layFaces yX5_layFaces ∈ wA := wA_s (y := yX5_layFaces) (n := 50) 41 (by decide +kernel)
theorem q_s_yX5_setDeep : Cond.selects RX5 yX5_setDeep yX5_setDeep ∈ wA := wA_s (y := yX5_setDeep) (n := 50) 42 (by decide +kernel)
theorem q_s_yX5_endDeep : Cond.selects RX5 yX5_endDeep yX5_endDeep ∈ wA := wA_s (y := yX5_endDeep) (n := 50) 43 (by decide +kernel)
theorem q_s_yX5_likeFaces : Cond.selects RX5 yX5_likeFaces yX5_likeFaces ∈ wA := wA_s (y := yX5_likeFaces) (n := 50) 44 (by decide +kernel)
theorem q_s_yX5_areAlike : Cond.selects RX5 yX5_areAlike yX5_areAlike ∈ wA := wA_s (y := yX5_areAlike) (n := 50) 45 (by decide +kernel)
theorem q_s_yX5_likelyNow : Cond.selects RX5 yX5_likelyNow yX5_likelyNow ∈ wA := wA_s (y := yX5_likelyNow) (n := 50) 46 (by decide +kernel)
theorem q_s_yX5_lengthsNow : Cond.selects RX5 yX5_lengthsNow yX5_lengthsNow ∈ wA := wA_s (y := yX5_lengthsNow) (n := 50) 47 (by decide +kernel)
theorem q_s_yX5_fromNow : Cond.selects RX5 yX5_fromNow yX5_fromNow ∈ wA := wA_s (y := yX5_fromNow) (n := 50) 48 (by decide +kernel)
theorem q_s_yX5_worstFrom : Cond.selects RX5 yX5_worstFrom yX5_worstFrom ∈ wA := wA_s (y := yX5_worstFrom) (n := 50) 49 (by decide +kernel)
theorem q_s_yX5_roundsNow : Cond.selects RX5 yX5_roundsNow yX5_roundsNow ∈ wA := wA_s (y := yX5_roundsNow) (n := 50) 50 (by decide +kernel)
theorem q_s_yX5_draw : Cond.selects RX5 yX5_draw yX5_draw ∈ wA := wA_s (y := yX5_draw) (n := 50) 51 (by decide +kernel)
theorem q_s_yX5_howMany : Cond.selects RX5 yX5_howMany yX5_howMany ∈ wA := wA_s (y := yX5_howMany) (n := 50) 52 (by decide +kernel)
theorem q_s_yX5_mix : Cond.selects RX5 yX5_mix yX5_mix ∈ wA := wA_s (y := yX5_mix) (n := 50) 53 (by decide +kernel)
theorem q_s_yX5_mixRing : Cond.selects RX5 yX5_mixRing yX5_mixRing ∈ wA := wA_s (y := yX5_mixRing) (n := 50) 54 (by decide +kernel)
theorem inWX0 : ∀ w ∈ wsX00, w ∈ wA := wA_ps _ [52, 54, 56, 58, 60, 62, 64, 66, 68] (by decide +kernel) (by decide +kernel)
theorem inWX1 : ∀ w ∈ wsX10, w ∈ wA := wA_ps _ [159, 161, 163, 165, 167, 169, 171, 173] (by decide +kernel) (by decide +kernel)
theorem inWX2 : ∀ w ∈ wsX20, w ∈ wA := wA_ps _ [125, 127, 129, 131, 133, 135, 137, 139] (by decide +kernel) (by decide +kernel)
theorem inWX3 : ∀ w ∈ wsX30, w ∈ wA := wA_ps _ [89, 91, 93, 95, 97, 99, 101] (by decide +kernel) (by decide +kernel)
theorem inWX4 : ∀ w ∈ wsX40, w ∈ wA := wA_ps _ [182, 184, 186, 188, 190, 192] (by decide +kernel) (by decide +kernel)
theorem inWX5 : ∀ w ∈ wsX50, w ∈ wA := wA_ps _ [706, 708, 710, 712, 714, 716, 718, 720, 722, 724, 726, 728, 730, 732, 734, 736, 738, 740, 742, 744, 746, 748, 750, 752, 754, 756, 758, 760, 762, 764, 766, 768, 770, 772, 774, 776, 778, 780, 782, 784, 786, 788, 790, 792, 794, 796, 798, 800, 802, 804] (by decide +kernel) (by decide +kernel)
/-- links to private fields of nest mates: own class, index, the field's class, name, descriptor -/
def nstF : List (String × Nat × String × String × String) := [(RX3, 28, RX0, "size", "I"), (RX1, 68, RX0, "size", "I"), (RX4, 66, RX0, "size", "I"), (RX4, 117, RX0, "inside", "I"), (RX4, 175, RX0, "slipped", "I"), (RX1, 50, RX0, "first", "I"), (RX4, 88, RX0, "first", "I"), (RX4, 126, RX0, "onward", "Z"), (RX1, 41, RX3, "circle", "LCountOut$Circle;"), (RX4, 62, RX3, "circle", "LCountOut$Circle;"), (RX4, 97, RX3, "beats", "[I"), (RX1, 97, RX3, "beats", "[I"), (RX1, 94, RX3, "verses", "I"), (RX4, 172, RX3, "verses", "I"), (RX4, 111, RX3, "counts", "I"), (RX1, 114, RX3, "seenFrom", "[I"), (RX1, 121, RX3, "seenOut", "[I"), (RX1, 111, RX3, "seen", "I"), (RX4, 156, RX3, "seen", "I"), (RX4, 217, RX2, "letters", "[I"), (RX4, 39, RX2, "size", "I"), (RX3, 54, RX2, "beats", "[I"), (RX3, 53, RX2, "verses", "I"), (RX3, 46, RX2, "kinds", "[I"), (RX3, 41, RX2, "children", "I")]
def nstFp : List Nat := [36, 37, 38, 44, 46, 47, 49, 51, 72, 73, 75, 76, 78, 79, 81, 83, 85, 87, 88, 112, 114, 118, 120, 122, 124]
def NW (U : State) : Prop := ∀ q ∈ nstF, va_Nw (.fieldLinkNest q.1 q.2.1 q.2.2.1 q.2.2.2.1 q.2.2.2.2 "CountOut") U
theorem NW.warm {s U : State} (hW : s.WarmedH U.vm) (h : NW s) : NW U := fun q hq => va_Nw.warmF hW (h q hq)
theorem NW.same {u U : State} (e : u.vm = U.vm) (h : NW u) : NW U := fun q hq => va_Nw.same rfl e (h q hq)
theorem NW.of {args : Array Value} {s : State} (hts : ∀ w ∈ tables_1, w.before args s = true) : NW s := by
  have key : nstF.map (fun q => Cond.fieldLinkNest q.1 q.2.1 q.2.2.1 q.2.2.2.1 q.2.2.2.2 "CountOut") = nstFp.filterMap (fun i => tables_1[i]?) := by decide +kernel
  intro q hq
  refine va_Nw.of (A := args) rfl (hts _ ?_)
  have h1 : Cond.fieldLinkNest q.1 q.2.1 q.2.2.1 q.2.2.2.1 q.2.2.2.2 "CountOut" ∈ nstFp.filterMap (fun i => tables_1[i]?) := by
    rw [← key]
    exact List.mem_map.mpr ⟨q, hq, rfl⟩
  obtain ⟨i, -, hi⟩ := List.mem_filterMap.mp h1
  exact List.mem_of_getElem? hi
theorem q_mn_RX4_11 : Cond.methodLinkNest RX4 11 yX3_init "CountOut" ∈ tables_1 := List.mem_of_getElem? (i := 25) (by decide +kernel)
theorem q_mn_RX3_11 : Cond.methodLinkNest RX3 11 yX0_init "CountOut" ∈ tables_1 := List.mem_of_getElem? (i := 31) (by decide +kernel)
theorem q_mn_RX4_14 : Cond.methodLinkNest RX4 14 yX2_init "CountOut" ∈ tables_1 := List.mem_of_getElem? (i := 107) (by decide +kernel)
theorem q_mn_RX1_11 : Cond.methodLinkNest RX1 11 yX0_init "CountOut" ∈ tables_1 := List.mem_of_getElem? (i := 149) (by decide +kernel)
theorem q_nf_RX3_28 : (RX3, 28, RX0, "size", "I") ∈ nstF := List.mem_of_getElem? (i := 0) rfl
theorem q_nf_RX1_68 : (RX1, 68, RX0, "size", "I") ∈ nstF := List.mem_of_getElem? (i := 1) rfl
theorem q_nf_RX4_66 : (RX4, 66, RX0, "size", "I") ∈ nstF := List.mem_of_getElem? (i := 2) rfl
theorem q_nf_RX4_117 : (RX4, 117, RX0, "inside", "I") ∈ nstF := List.mem_of_getElem? (i := 3) rfl
theorem q_nf_RX4_175 : (RX4, 175, RX0, "slipped", "I") ∈ nstF := List.mem_of_getElem? (i := 4) rfl
theorem q_nf_RX1_50 : (RX1, 50, RX0, "first", "I") ∈ nstF := List.mem_of_getElem? (i := 5) rfl
theorem q_nf_RX4_88 : (RX4, 88, RX0, "first", "I") ∈ nstF := List.mem_of_getElem? (i := 6) rfl
theorem q_nf_RX4_126 : (RX4, 126, RX0, "onward", "Z") ∈ nstF := List.mem_of_getElem? (i := 7) rfl
theorem q_nf_RX1_41 : (RX1, 41, RX3, "circle", "LCountOut$Circle;") ∈ nstF := List.mem_of_getElem? (i := 8) rfl
theorem q_nf_RX4_62 : (RX4, 62, RX3, "circle", "LCountOut$Circle;") ∈ nstF := List.mem_of_getElem? (i := 9) rfl
theorem q_nf_RX4_97 : (RX4, 97, RX3, "beats", "[I") ∈ nstF := List.mem_of_getElem? (i := 10) rfl
theorem q_nf_RX1_97 : (RX1, 97, RX3, "beats", "[I") ∈ nstF := List.mem_of_getElem? (i := 11) rfl
theorem q_nf_RX1_94 : (RX1, 94, RX3, "verses", "I") ∈ nstF := List.mem_of_getElem? (i := 12) rfl
theorem q_nf_RX4_172 : (RX4, 172, RX3, "verses", "I") ∈ nstF := List.mem_of_getElem? (i := 13) rfl
theorem q_nf_RX4_111 : (RX4, 111, RX3, "counts", "I") ∈ nstF := List.mem_of_getElem? (i := 14) rfl
theorem q_nf_RX1_114 : (RX1, 114, RX3, "seenFrom", "[I") ∈ nstF := List.mem_of_getElem? (i := 15) rfl
theorem q_nf_RX1_121 : (RX1, 121, RX3, "seenOut", "[I") ∈ nstF := List.mem_of_getElem? (i := 16) rfl
theorem q_nf_RX1_111 : (RX1, 111, RX3, "seen", "I") ∈ nstF := List.mem_of_getElem? (i := 17) rfl
theorem q_nf_RX4_156 : (RX4, 156, RX3, "seen", "I") ∈ nstF := List.mem_of_getElem? (i := 18) rfl
theorem q_nf_RX4_217 : (RX4, 217, RX2, "letters", "[I") ∈ nstF := List.mem_of_getElem? (i := 19) rfl
theorem q_nf_RX4_39 : (RX4, 39, RX2, "size", "I") ∈ nstF := List.mem_of_getElem? (i := 20) rfl
theorem q_nf_RX3_54 : (RX3, 54, RX2, "beats", "[I") ∈ nstF := List.mem_of_getElem? (i := 21) rfl
theorem q_nf_RX3_53 : (RX3, 53, RX2, "verses", "I") ∈ nstF := List.mem_of_getElem? (i := 22) rfl
theorem q_nf_RX3_46 : (RX3, 46, RX2, "kinds", "[I") ∈ nstF := List.mem_of_getElem? (i := 23) rfl
theorem q_nf_RX3_41 : (RX3, 41, RX2, "children", "I") ∈ nstF := List.mem_of_getElem? (i := 24) rfl
end
section

abbrev XT : Type := Program × Launch × Env × Room × State × MethodId × Array Value × List Frame × Method × Code
abbrev XT.l (X : XT) : Launch := X.2.1
abbrev XT.R (X : XT) : Room := X.2.2.2.1
abbrev XT.s (X : XT) : State := X.2.2.2.2.1
abbrev XT.m (X : XT) : MethodId := X.2.2.2.2.2.1
abbrev XT.args (X : XT) : Array Value := X.2.2.2.2.2.2.1
abbrev XT.below (X : XT) : List Frame := X.2.2.2.2.2.2.2.1
abbrev XT.meth (X : XT) : Method := X.2.2.2.2.2.2.2.2.1
abbrev XT.c (X : XT) : Code := X.2.2.2.2.2.2.2.2.2
/-- W over the tuple, nothing made -/
abbrev Wx (X : XT) (H : Heap) (locs : List Loc) (Q : State → Prop) (pc : Nat) (ls : Array Slot) (st : List Value) : Prop := W X.1 X.2.1 X.2.2.1 X.2.2.2.1 X.2.2.2.2.1 X.2.2.2.2.2.1 X.2.2.2.2.2.2.1 X.2.2.2.2.2.2.2.1 X.2.2.2.2.2.2.2.2.1 X.2.2.2.2.2.2.2.2.2 H locs 0 0 Q (F0 X.2.2.2.2.2.1 pc ls st)
/-- at pc, with these locals and this stack, in every heap that holds σ -/
def Wm {S : Type} (X : XT) (nL : Nat) (I : S → Heap → List Loc → Prop) (Q : State → Prop) (pc : Nat) (lv : List (Nat × Value)) (st : List Value) (σ : S) : Prop :=
  ∀ (H : Heap) (locs : List Loc) (ls : Array Slot), I σ H locs → lv_has ls nL lv → Wx X H locs Q pc ls st
/-- what is known of a method's body: the machine, its code, its class, the tables' words, its room -/
def Cx (X : XT) (hd : Cond) (cc : ByteArray) (nL : Nat) (own : String) (fr lo : Nat) : Prop :=
  X.1.tables.exec = Jvm.exec ∧ X.2.2.2.2.2.2.2.2.2.code = cc ∧ X.2.2.2.2.2.2.2.2.2.maxLocals = nL ∧ X.2.2.2.2.1.vm.findClass own = some X.2.2.2.2.2.1.cls ∧ (∀ w ∈ hd :: wA, w.before X.2.2.2.2.2.2.1 X.2.2.2.2.1 = true) ∧ X.2.2.2.1.frames = fr ∧ X.2.2.2.1.locals = lo
/-- the environment: where classes lie, the class of int[], of byte[], the text constant and its bytes -/
abbrev EvT : Type := va_G × ClassId × ClassId × (Nat → Nat) × (Nat → Nat)
abbrev tyE (E : EvT) : List (ClassId × FieldType) := [(E.2.1, .int), (E.2.2.1, .byte)]
def SE (E : EvT) (Z : Nat → Prop) (U : State) (H : Heap) : Prop := vk_R RX2 57 "ctbsk" (E.2.2.2.1 0) U ∧ vk_S 1 [5] [[99, 116, 98, 115, 107]] E.2.2.2.1 E.2.2.2.2 Z U H ∧ va_Z "java/lang/String" "COMPACT_STRINGS" "Z" (.int 1) Z U H
theorem SE.same {E : EvT} {Z : Nat → Prop} {u U : State} {H : Heap} (hv : U.vm = u.vm) (h : SE E Z u H) : SE E Z U H := ⟨vk_R.same hv h.1, h.2.1.moved (by rw [hv]; exact Vm.Alike.refl _), h.2.2.moved (by rw [hv]; exact Vm.Alike.refl _)⟩
theorem SE.warm {E : EvT} {Z : Nat → Prop} {s U : State} {H : Heap} (hW : s.WarmedH U.vm) (h : SE E Z s H) : SE E Z U H := ⟨vk_R.warm hW h.1, h.2.1.moved hW.alike, h.2.2.moved hW.alike⟩
theorem SE.kept {E : EvT} {Z : Nat → Prop} {U : State} {H H1 : Heap} (h : SE E Z U H) (hq : ∀ a : Nat, a < H.size → ¬ Z a → H1[a]? = H[a]?) : SE E Z U H1 := ⟨h.1, h.2.1.kept hq, h.2.2.kept hq⟩
theorem SE.narrow {E : EvT} {Z B : Nat → Prop} {U : State} {H : Heap} (h : SE E Z U H) (hAB : ∀ q, B q → Z q) : SE E B U H := ⟨h.1, h.2.1.narrow hAB, h.2.2.narrow hAB⟩
def Ck (X : XT) (E : EvT) (Z : Nat → Prop) : Prop := va_K E.1 vwCl (tyE E) X.2.2.2.2.1 ∧ NW X.2.2.2.2.1 ∧ SE E Z X.2.2.2.2.1 X.2.2.2.2.1.heap ∧ ∀ q, X.2.2.2.2.1.heap.size ≤ q → Z q
/-- the heap holds the world w, since the method's start nothing outside Z has changed -/
def IW (X : XT) (E : EvT) (Z : Nat → Prop) (w : va_W) : Heap → List Loc → Prop := fun H locs => va_P E.1 vwCl w H ∧ va_D Z w ∧ va_S Z X.2.2.2.2.1.heap H locs
/-- no heap at all is needed -/
def IP (X : XT) : Unit → Heap → List Loc → Prop := fun _ H locs => H = X.2.2.2.2.1.heap ∧ locs = []
/-- a value gets a name -/
def bnd {α β : Type} (x : α) (k : α → β) : β := k x
def setc {α : Type} (V : Nat → α) (j : Nat) (c : α) : Nat → α := fun a => if a = j then c else V a
theorem setc_self {α : Type} (V : Nat → α) (j : Nat) : setc V j (V j) = V := by
  funext a
  unfold setc
  by_cases h : a = j
  · rw [if_pos h, h]
  · rw [if_neg h]
theorem setc_at {α : Type} (V : Nat → α) (j : Nat) (c : α) : setc V j c j = c := if_pos rfl
theorem setc_ne {α : Type} (V : Nat → α) {j a : Nat} (c : α) (h : a ≠ j) : setc V j c a = V a := if_neg h
theorem setc_setc {α : Type} (V : Nat → α) (j : Nat) (c d : α) : setc (setc V j c) j d = setc V j d := by
  funext a
  unfold setc
  by_cases h : a = j
  · rw [if_pos h, if_pos h]
  · rw [if_neg h, if_neg h, if_neg h]
def up2 (V : Nat → Nat → Int32) (j k : Nat) (x : Int32) : Nat → Nat → Int32 := setc V j (upd (V j) k x)
/-- an index inside its row -/
def ib (i : Int32) (n : Nat) : Bool := decide (0 ≤ i.toInt) && decide (i.toInt < (n : Int))
theorem ib_in {i : Int32} {n : Nat} (h : ib i n = true) : vp_in i n := by
  unfold ib at h
  rw [Bool.and_eq_true, decide_eq_true_eq, decide_eq_true_eq] at h
  exact vp_in_iff.mpr h
/-- 0 or 1 -/
def isz (x : Int32) : Bool := decide (x = 0) || decide (x = 1)
theorem isz_nar {x : Int32} (h : isz x = true) : narrow .boolean (.int x) = .int x := by
  unfold isz at h
  rw [Bool.or_eq_true, decide_eq_true_eq, decide_eq_true_eq] at h
  rcases h with rfl | rfl <;> rfl
theorem isz_fit {x : Int32} (h : isz x = true) : fits .boolean (.int x) = true := by
  unfold isz at h
  rw [Bool.or_eq_true, decide_eq_true_eq, decide_eq_true_eq] at h
  rcases h with rfl | rfl <;> rfl
theorem br_if {α : Type} {c : Prop} [Decidable c] {a b o : α} {P : Prop} (hf : (if c then a else b) = o) (h1 : c → a = o → P) (h2 : ¬ c → b = o → P) : P := by
  by_cases h : c
  · rw [if_pos h] at hf
    exact h1 h hf
  · rw [if_neg h] at hf
    exact h2 h hf
theorem gd_if {α : Type} {c : Prop} [Decidable c] {a : Option α} {o : α} {P : Prop} (hf : (if c then a else none) = some o) (h1 : c → a = some o → P) : P := br_if hf h1 (fun _ h => by cases h)
theorem gd_ni {α : Type} {c : Prop} [Decidable c] {a : Option α} {o : α} {P : Prop} (hf : (if c then none else a) = some o) (h1 : ¬ c → a = some o → P) : P := br_if hf (fun _ h => by cases h) h1

section RW
variable {S : Type} {X : XT} {hd : Cond} {cc : ByteArray} {nL : Nat} {own : String} {fr lo : Nat} {I : S → Heap → List Loc → Prop} {Q : State → Prop} {pc : Nat} {lv : List (Nat × Value)} {st : List Value} {σ : S}
theorem r_iconst (C : Cx X hd cc nL own fr lo) {n : Int} {v : Int32} (hdg : decode cc pc = .ok (.iconst n, 1)) (hv : Int32.ofInt n = v) (kk : Wm X nL I Q (pc + 1) lv (.int v :: st) σ) : Wm X nL I Q pc lv st σ := fun H locs ls hI hl => lv_iconst C.1 C.2.1 hdg hv (kk H locs ls hI hl)
theorem r_bipush (C : Cx X hd cc nL own fr lo) {n : Int} {v : Int32} (hdg : decode cc pc = .ok (.bipush n, 2)) (hv : (Int8.ofInt n).toInt32 = v) (kk : Wm X nL I Q (pc + 2) lv (.int v :: st) σ) : Wm X nL I Q pc lv st σ := fun H locs ls hI hl => lv_bipush C.1 C.2.1 hdg hv (kk H locs ls hI hl)
theorem r_sipush (C : Cx X hd cc nL own fr lo) {n : Int} {v : Int32} (hdg : decode cc pc = .ok (.sipush n, 3)) (hv : (Int16.ofInt n).toInt32 = v) (kk : Wm X nL I Q (pc + 3) lv (.int v :: st) σ) : Wm X nL I Q pc lv st σ := fun H locs ls hI hl => lv_sipush C.1 C.2.1 hdg hv (kk H locs ls hI hl)
theorem r_lconst (C : Cx X hd cc nL own fr lo) {n : Fin 2} {v : Int64} (hdg : decode cc pc = .ok (.lconst n, 1)) (hv : Int64.ofNat (n : Nat) = v) (kk : Wm X nL I Q (pc + 1) lv (.long v :: st) σ) : Wm X nL I Q pc lv st σ := fun H locs ls hI hl => lv_lconst C.1 C.2.1 hdg hv (kk H locs ls hI hl)
theorem r_ldc (C : Cx X hd cc nL own fr lo) {ix : Nat} {v : Int32} (hc : Cond.constant own ix v ∈ wA) (hdg : decode cc pc = .ok (.ldc ix, 2)) (kk : Wm X nL I Q (pc + 2) lv (.int v :: st) σ) : Wm X nL I Q pc lv st σ := fun H locs ls hI hl => lv_ldc C.1 C.2.1 C.2.2.2.1 (C.2.2.2.2.1 _ (List.mem_cons_of_mem _ hc)) hdg (kk H locs ls hI hl)
theorem r_ldcw (C : Cx X hd cc nL own fr lo) {ix : Nat} {v : Int32} (hc : Cond.constant own ix v ∈ wA) (hdg : decode cc pc = .ok (.ldc_w ix, 3)) (kk : Wm X nL I Q (pc + 3) lv (.int v :: st) σ) : Wm X nL I Q pc lv st σ := fun H locs ls hI hl => lv_ldcw C.1 C.2.1 C.2.2.2.1 (C.2.2.2.2.1 _ (List.mem_cons_of_mem _ hc)) hdg (kk H locs ls hI hl)
theorem r_ldc2 (C : Cx X hd cc nL own fr lo) {ix : Nat} {v : Int64} (hc : Cond.constantLong own ix v ∈ wA) (hdg : decode cc pc = .ok (.ldc2_w ix, 3)) (kk : Wm X nL I Q (pc + 3) lv (.long v :: st) σ) : Wm X nL I Q pc lv st σ := fun H locs ls hI hl => lv_ldc2 C.1 C.2.1 C.2.2.2.1 (C.2.2.2.2.1 _ (List.mem_cons_of_mem _ hc)) hdg (kk H locs ls hI hl)
theorem r_iload_n (C : Cx X hd cc nL own fr lo) {k : Fin 4} {i : Nat} {x : Int32} (hdg : decode cc pc = .ok (.iload_n k, 1)) (q : Nat) (hq : lv[q]? = some (i, .int x)) (hi : (k : Nat) = i) (kk : Wm X nL I Q (pc + 1) lv (.int x :: st) σ) : Wm X nL I Q pc lv st σ := fun H locs ls hI hl => lv_iload_n C.1 C.2.1 hdg hi (lv_at hl q hq) (kk H locs ls hI hl)
theorem r_iload (C : Cx X hd cc nL own fr lo) {i : Nat} {x : Int32} (hdg : decode cc pc = .ok (.iload i, 2)) (q : Nat) (hq : lv[q]? = some (i, .int x)) (kk : Wm X nL I Q (pc + 2) lv (.int x :: st) σ) : Wm X nL I Q pc lv st σ := fun H locs ls hI hl => lv_iload C.1 C.2.1 hdg (lv_at hl q hq) (kk H locs ls hI hl)
theorem r_lload_n (C : Cx X hd cc nL own fr lo) {k : Fin 4} {i : Nat} {x : Int64} (hdg : decode cc pc = .ok (.lload_n k, 1)) (q : Nat) (hq : lv[q]? = some (i, .long x)) (hi : (k : Nat) = i) (kk : Wm X nL I Q (pc + 1) lv (.long x :: st) σ) : Wm X nL I Q pc lv st σ := fun H locs ls hI hl => lv_lload_n C.1 C.2.1 hdg hi (lv_at hl q hq) (kk H locs ls hI hl)
theorem r_lload (C : Cx X hd cc nL own fr lo) {i : Nat} {x : Int64} (hdg : decode cc pc = .ok (.lload i, 2)) (q : Nat) (hq : lv[q]? = some (i, .long x)) (kk : Wm X nL I Q (pc + 2) lv (.long x :: st) σ) : Wm X nL I Q pc lv st σ := fun H locs ls hI hl => lv_lload C.1 C.2.1 hdg (lv_at hl q hq) (kk H locs ls hI hl)
theorem r_aload_n (C : Cx X hd cc nL own fr lo) {k : Fin 4} {i : Nat} {x : Nat} (hdg : decode cc pc = .ok (.aload_n k, 1)) (q : Nat) (hq : lv[q]? = some (i, .ref x)) (hi : (k : Nat) = i) (kk : Wm X nL I Q (pc + 1) lv (.ref x :: st) σ) : Wm X nL I Q pc lv st σ := fun H locs ls hI hl => lv_aload_n C.1 C.2.1 hdg hi (lv_at hl q hq) (kk H locs ls hI hl)
theorem r_aload (C : Cx X hd cc nL own fr lo) {i : Nat} {x : Nat} (hdg : decode cc pc = .ok (.aload i, 2)) (q : Nat) (hq : lv[q]? = some (i, .ref x)) (kk : Wm X nL I Q (pc + 2) lv (.ref x :: st) σ) : Wm X nL I Q pc lv st σ := fun H locs ls hI hl => lv_aload C.1 C.2.1 hdg (lv_at hl q hq) (kk H locs ls hI hl)
theorem r_istore_n (C : Cx X hd cc nL own fr lo) {k : Fin 4} {i : Nat} {x : Int32} (hdg : decode cc pc = .ok (.istore_n k, 1)) (hi : (k : Nat) = i) (hn : i < nL) {lv2 : List (Nat × Value)} (hl2 : (i, Value.int x) :: lv.filter (fun q => !(q.1 == i) && !(q.1 + 1 == i && q.2.category == 2)) = lv2) (kk : Wm X nL I Q (pc + 1) lv2 st σ) : Wm X nL I Q pc lv (.int x :: st) σ := fun H locs ls hI hl => lv_istore_n C.1 C.2.1 hdg hi hl hn hl2 (fun ls2 h2 => kk H locs ls2 hI h2)
theorem r_istore (C : Cx X hd cc nL own fr lo) {i : Nat} {x : Int32} (hdg : decode cc pc = .ok (.istore i, 2)) (hn : i < nL) {lv2 : List (Nat × Value)} (hl2 : (i, Value.int x) :: lv.filter (fun q => !(q.1 == i) && !(q.1 + 1 == i && q.2.category == 2)) = lv2) (kk : Wm X nL I Q (pc + 2) lv2 st σ) : Wm X nL I Q pc lv (.int x :: st) σ := fun H locs ls hI hl => lv_istore C.1 C.2.1 hdg hl hn hl2 (fun ls2 h2 => kk H locs ls2 hI h2)
theorem r_astore_n (C : Cx X hd cc nL own fr lo) {k : Fin 4} {i : Nat} {x : Nat} (hdg : decode cc pc = .ok (.astore_n k, 1)) (hi : (k : Nat) = i) (hn : i < nL) {lv2 : List (Nat × Value)} (hl2 : (i, Value.ref x) :: lv.filter (fun q => !(q.1 == i) && !(q.1 + 1 == i && q.2.category == 2)) = lv2) (kk : Wm X nL I Q (pc + 1) lv2 st σ) : Wm X nL I Q pc lv (.ref x :: st) σ := fun H locs ls hI hl => lv_astore_n C.1 C.2.1 hdg hi hl hn hl2 (fun ls2 h2 => kk H locs ls2 hI h2)
theorem r_astore (C : Cx X hd cc nL own fr lo) {i : Nat} {x : Nat} (hdg : decode cc pc = .ok (.astore i, 2)) (hn : i < nL) {lv2 : List (Nat × Value)} (hl2 : (i, Value.ref x) :: lv.filter (fun q => !(q.1 == i) && !(q.1 + 1 == i && q.2.category == 2)) = lv2) (kk : Wm X nL I Q (pc + 2) lv2 st σ) : Wm X nL I Q pc lv (.ref x :: st) σ := fun H locs ls hI hl => lv_astore C.1 C.2.1 hdg hl hn hl2 (fun ls2 h2 => kk H locs ls2 hI h2)
theorem r_lstore_n (C : Cx X hd cc nL own fr lo) {k : Fin 4} {i : Nat} {x : Int64} (hdg : decode cc pc = .ok (.lstore_n k, 1)) (hi : (k : Nat) = i) (hn : i + 1 < nL) {lv2 : List (Nat × Value)} (hl2 : (i, Value.long x) :: lv.filter (fun q => !(q.1 == i) && (!(q.1 == i + 1) && !(q.1 + 1 == i && q.2.category == 2))) = lv2) (kk : Wm X nL I Q (pc + 1) lv2 st σ) : Wm X nL I Q pc lv (.long x :: st) σ := fun H locs ls hI hl => lv_lstore_n C.1 C.2.1 hdg hi hl hn hl2 (fun ls2 h2 => kk H locs ls2 hI h2)
theorem r_lstore (C : Cx X hd cc nL own fr lo) {i : Nat} {x : Int64} (hdg : decode cc pc = .ok (.lstore i, 2)) (hn : i + 1 < nL) {lv2 : List (Nat × Value)} (hl2 : (i, Value.long x) :: lv.filter (fun q => !(q.1 == i) && (!(q.1 == i + 1) && !(q.1 + 1 == i && q.2.category == 2))) = lv2) (kk : Wm X nL I Q (pc + 2) lv2 st σ) : Wm X nL I Q pc lv (.long x :: st) σ := fun H locs ls hI hl => lv_lstore C.1 C.2.1 hdg hl hn hl2 (fun ls2 h2 => kk H locs ls2 hI h2)
theorem r_iinc (C : Cx X hd cc nL own fr lo) {i : Nat} {n : Int} {x v : Int32} (hdg : decode cc pc = .ok (.iinc i n, 3)) (q : Nat) (hq : lv[q]? = some (i, .int x)) (hv : x + Int32.ofInt n = v) (hn : i < nL) {lv2 : List (Nat × Value)} (hl2 : (i, Value.int v) :: lv.filter (fun q => !(q.1 == i) && !(q.1 + 1 == i && q.2.category == 2)) = lv2) (kk : Wm X nL I Q (pc + 3) lv2 st σ) : Wm X nL I Q pc lv st σ := fun H locs ls hI hl => lv_iinc C.1 C.2.1 hdg hl hq hv hn hl2 (fun ls2 h2 => kk H locs ls2 hI h2)
theorem r_iadd (C : Cx X hd cc nL own fr lo) {x y : Int32} (hdg : decode cc pc = .ok (.iadd, 1)) (kk : Wm X nL I Q (pc + 1) lv (.int (x + y) :: st) σ) : Wm X nL I Q pc lv (.int y :: .int x :: st) σ := fun H locs ls hI hl => lv_iadd C.1 C.2.1 hdg (kk H locs ls hI hl)
theorem r_isub (C : Cx X hd cc nL own fr lo) {x y : Int32} (hdg : decode cc pc = .ok (.isub, 1)) (kk : Wm X nL I Q (pc + 1) lv (.int (x - y) :: st) σ) : Wm X nL I Q pc lv (.int y :: .int x :: st) σ := fun H locs ls hI hl => lv_isub C.1 C.2.1 hdg (kk H locs ls hI hl)
theorem r_imul (C : Cx X hd cc nL own fr lo) {x y : Int32} (hdg : decode cc pc = .ok (.imul, 1)) (kk : Wm X nL I Q (pc + 1) lv (.int (x * y) :: st) σ) : Wm X nL I Q pc lv (.int y :: .int x :: st) σ := fun H locs ls hI hl => lv_imul C.1 C.2.1 hdg (kk H locs ls hI hl)
theorem r_iand (C : Cx X hd cc nL own fr lo) {x y : Int32} (hdg : decode cc pc = .ok (.iand, 1)) (kk : Wm X nL I Q (pc + 1) lv (.int (x &&& y) :: st) σ) : Wm X nL I Q pc lv (.int y :: .int x :: st) σ := fun H locs ls hI hl => lv_iand C.1 C.2.1 hdg (kk H locs ls hI hl)
theorem r_ior (C : Cx X hd cc nL own fr lo) {x y : Int32} (hdg : decode cc pc = .ok (.ior, 1)) (kk : Wm X nL I Q (pc + 1) lv (.int (x ||| y) :: st) σ) : Wm X nL I Q pc lv (.int y :: .int x :: st) σ := fun H locs ls hI hl => lv_ior C.1 C.2.1 hdg (kk H locs ls hI hl)
theorem r_ixor (C : Cx X hd cc nL own fr lo) {x y : Int32} (hdg : decode cc pc = .ok (.ixor, 1)) (kk : Wm X nL I Q (pc + 1) lv (.int (x ^^^ y) :: st) σ) : Wm X nL I Q pc lv (.int y :: .int x :: st) σ := fun H locs ls hI hl => lv_ixor C.1 C.2.1 hdg (kk H locs ls hI hl)
theorem r_ishl (C : Cx X hd cc nL own fr lo) {x y : Int32} (hdg : decode cc pc = .ok (.ishl, 1)) (kk : Wm X nL I Q (pc + 1) lv (.int (x <<< (y &&& 31)) :: st) σ) : Wm X nL I Q pc lv (.int y :: .int x :: st) σ := fun H locs ls hI hl => lv_ishl C.1 C.2.1 hdg (kk H locs ls hI hl)
theorem r_ishr (C : Cx X hd cc nL own fr lo) {x y : Int32} (hdg : decode cc pc = .ok (.ishr, 1)) (kk : Wm X nL I Q (pc + 1) lv (.int (x >>> (y &&& 31)) :: st) σ) : Wm X nL I Q pc lv (.int y :: .int x :: st) σ := fun H locs ls hI hl => lv_ishr C.1 C.2.1 hdg (kk H locs ls hI hl)
theorem r_iushr (C : Cx X hd cc nL own fr lo) {x y : Int32} (hdg : decode cc pc = .ok (.iushr, 1)) (kk : Wm X nL I Q (pc + 1) lv (.int (x.toUInt32 >>> (y.toUInt32 &&& Int32.toUInt32 31)).toInt32 :: st) σ) : Wm X nL I Q pc lv (.int y :: .int x :: st) σ := fun H locs ls hI hl => lv_iushr C.1 C.2.1 hdg rfl (kk H locs ls hI hl)
theorem r_idiv (C : Cx X hd cc nL own fr lo) {x y : Int32} (hdg : decode cc pc = .ok (.idiv, 1)) (hne : ¬ y = 0) (kk : Wm X nL I Q (pc + 1) lv (.int (x / y) :: st) σ) : Wm X nL I Q pc lv (.int y :: .int x :: st) σ := fun H locs ls hI hl => lv_idiv C.1 C.2.1 hdg hne (kk H locs ls hI hl)
theorem r_irem (C : Cx X hd cc nL own fr lo) {x y : Int32} (hdg : decode cc pc = .ok (.irem, 1)) (hne : ¬ y = 0) (kk : Wm X nL I Q (pc + 1) lv (.int (x - x / y * y) :: st) σ) : Wm X nL I Q pc lv (.int y :: .int x :: st) σ := fun H locs ls hI hl => lv_irem C.1 C.2.1 hdg hne (kk H locs ls hI hl)
theorem r_ldiv (C : Cx X hd cc nL own fr lo) {x y : Int64} (hdg : decode cc pc = .ok (.ldiv, 1)) (hne : ¬ y = 0) (kk : Wm X nL I Q (pc + 1) lv (.long (x / y) :: st) σ) : Wm X nL I Q pc lv (.long y :: .long x :: st) σ := fun H locs ls hI hl => lv_ldiv C.1 C.2.1 hdg hne (kk H locs ls hI hl)
theorem r_lrem (C : Cx X hd cc nL own fr lo) {x y : Int64} (hdg : decode cc pc = .ok (.lrem, 1)) (hne : ¬ y = 0) (kk : Wm X nL I Q (pc + 1) lv (.long (x - x / y * y) :: st) σ) : Wm X nL I Q pc lv (.long y :: .long x :: st) σ := fun H locs ls hI hl => lv_lrem C.1 C.2.1 hdg hne (kk H locs ls hI hl)
theorem r_ladd (C : Cx X hd cc nL own fr lo) {x y : Int64} (hdg : decode cc pc = .ok (.ladd, 1)) (kk : Wm X nL I Q (pc + 1) lv (.long (x + y) :: st) σ) : Wm X nL I Q pc lv (.long y :: .long x :: st) σ := fun H locs ls hI hl => lv_ladd C.1 C.2.1 hdg (kk H locs ls hI hl)
theorem r_lsub (C : Cx X hd cc nL own fr lo) {x y : Int64} (hdg : decode cc pc = .ok (.lsub, 1)) (kk : Wm X nL I Q (pc + 1) lv (.long (x - y) :: st) σ) : Wm X nL I Q pc lv (.long y :: .long x :: st) σ := fun H locs ls hI hl => lv_lsub C.1 C.2.1 hdg (kk H locs ls hI hl)
theorem r_lmul (C : Cx X hd cc nL own fr lo) {x y : Int64} (hdg : decode cc pc = .ok (.lmul, 1)) (kk : Wm X nL I Q (pc + 1) lv (.long (x * y) :: st) σ) : Wm X nL I Q pc lv (.long y :: .long x :: st) σ := fun H locs ls hI hl => lv_lmul C.1 C.2.1 hdg (kk H locs ls hI hl)
theorem r_land (C : Cx X hd cc nL own fr lo) {x y : Int64} (hdg : decode cc pc = .ok (.land, 1)) (kk : Wm X nL I Q (pc + 1) lv (.long (x &&& y) :: st) σ) : Wm X nL I Q pc lv (.long y :: .long x :: st) σ := fun H locs ls hI hl => lv_land C.1 C.2.1 hdg (kk H locs ls hI hl)
theorem r_lor (C : Cx X hd cc nL own fr lo) {x y : Int64} (hdg : decode cc pc = .ok (.lor, 1)) (kk : Wm X nL I Q (pc + 1) lv (.long (x ||| y) :: st) σ) : Wm X nL I Q pc lv (.long y :: .long x :: st) σ := fun H locs ls hI hl => lv_lor C.1 C.2.1 hdg (kk H locs ls hI hl)
theorem r_lshl (C : Cx X hd cc nL own fr lo) {x : Int64} {y : Int32} (hdg : decode cc pc = .ok (.lshl, 1)) (kk : Wm X nL I Q (pc + 1) lv (.long (x <<< (y.toInt64 &&& 63)) :: st) σ) : Wm X nL I Q pc lv (.int y :: .long x :: st) σ := fun H locs ls hI hl => lv_lshl C.1 C.2.1 hdg rfl (kk H locs ls hI hl)
theorem r_lcmp (C : Cx X hd cc nL own fr lo) {x y : Int64} (hdg : decode cc pc = .ok (.lcmp, 1)) (kk : Wm X nL I Q (pc + 1) lv (.int (lg_cmp x y) :: st) σ) : Wm X nL I Q pc lv (.long y :: .long x :: st) σ := fun H locs ls hI hl => W.lcmp C.1 C.2.1 hdg (kk H locs ls hI hl)
theorem r_i2l (C : Cx X hd cc nL own fr lo) {x : Int32} (hdg : decode cc pc = .ok (.i2l, 1)) (kk : Wm X nL I Q (pc + 1) lv (.long (x.toInt64) :: st) σ) : Wm X nL I Q pc lv (.int x :: st) σ := fun H locs ls hI hl => lv_i2l C.1 C.2.1 hdg rfl (kk H locs ls hI hl)
theorem r_l2i (C : Cx X hd cc nL own fr lo) {x : Int64} (hdg : decode cc pc = .ok (.l2i, 1)) (kk : Wm X nL I Q (pc + 1) lv (.int (x.toInt32) :: st) σ) : Wm X nL I Q pc lv (.long x :: st) σ := fun H locs ls hI hl => lv_l2i C.1 C.2.1 hdg rfl (kk H locs ls hI hl)
theorem r_i2b (C : Cx X hd cc nL own fr lo) {x : Int32} (hdg : decode cc pc = .ok (.i2b, 1)) (kk : Wm X nL I Q (pc + 1) lv (.int (x.toInt8.toInt32) :: st) σ) : Wm X nL I Q pc lv (.int x :: st) σ := fun H locs ls hI hl => lv_i2b C.1 C.2.1 hdg rfl (kk H locs ls hI hl)
theorem r_i2c (C : Cx X hd cc nL own fr lo) {x : Int32} (hdg : decode cc pc = .ok (.i2c, 1)) (kk : Wm X nL I Q (pc + 1) lv (.int ((x.toUInt32 % 65536).toInt32) :: st) σ) : Wm X nL I Q pc lv (.int x :: st) σ := fun H locs ls hI hl => lv_i2c C.1 C.2.1 hdg rfl (kk H locs ls hI hl)
theorem r_dup (C : Cx X hd cc nL own fr lo) {va : Value} (hdg : decode cc pc = .ok (.dup, 1)) (h1 : va.category = 1) (kk : Wm X nL I Q (pc + 1) lv (va :: va :: st) σ) : Wm X nL I Q pc lv (va :: st) σ := fun H locs ls hI hl => lv_dup C.1 C.2.1 hdg h1 (kk H locs ls hI hl)
theorem r_dup2 (C : Cx X hd cc nL own fr lo) {va vb : Value} (hdg : decode cc pc = .ok (.dup2, 1)) (h1 : va.category = 1) (h2 : vb.category = 1) (kk : Wm X nL I Q (pc + 1) lv (va :: vb :: va :: vb :: st) σ) : Wm X nL I Q pc lv (va :: vb :: st) σ := fun H locs ls hI hl => lv_dup2_11 C.1 C.2.1 hdg h1 h2 (kk H locs ls hI hl)
theorem r_pop (C : Cx X hd cc nL own fr lo) {va : Value} (hdg : decode cc pc = .ok (.pop, 1)) (h1 : va.category = 1) (kk : Wm X nL I Q (pc + 1) lv st σ) : Wm X nL I Q pc lv (va :: st) σ := fun H locs ls hI hl => lv_pop C.1 C.2.1 hdg h1 (kk H locs ls hI hl)
theorem r_goto (C : Cx X hd cc nL own fr lo) {off : Int} {tgt : Nat} (hdg : decode cc pc = .ok (.goto off, 3)) (ht : (pc : Int) + off = (tgt : Int)) (kk : Wm X nL I Q tgt lv st σ) : Wm X nL I Q pc lv st σ := fun H locs ls hI hl => lv_goto C.1 C.2.1 hdg ht (kk H locs ls hI hl)
theorem r_if_eq (C : Cx X hd cc nL own fr lo) {x : Int32} {off : Int} {tgt : Nat} (hdg : decode cc pc = .ok (.ifCond .eq off, 3)) (ht : (pc : Int) + off = (tgt : Int)) {α : Type} {a b o : α} (hf : (if x = 0 then a else b) = o) (kt : a = o → Wm X nL I Q tgt lv st σ) (kf : b = o → Wm X nL I Q (pc + 3) lv st σ) : Wm X nL I Q pc lv (.int x :: st) σ := fun H locs ls hI hl => lv_if_eq C.1 C.2.1 hdg ht (fun q => kt (by rw [if_pos q] at hf; exact hf) H locs ls hI hl) (fun q => kf (by rw [if_neg q] at hf; exact hf) H locs ls hI hl)
theorem r_icmp_eq (C : Cx X hd cc nL own fr lo) {x y : Int32} {off : Int} {tgt : Nat} (hdg : decode cc pc = .ok (.if_icmp .eq off, 3)) (ht : (pc : Int) + off = (tgt : Int)) {α : Type} {a b o : α} (hf : (if x = y then a else b) = o) (kt : a = o → Wm X nL I Q tgt lv st σ) (kf : b = o → Wm X nL I Q (pc + 3) lv st σ) : Wm X nL I Q pc lv (.int y :: .int x :: st) σ := fun H locs ls hI hl => lv_icmp_eq C.1 C.2.1 hdg ht (fun q => kt (by rw [if_pos q] at hf; exact hf) H locs ls hI hl) (fun q => kf (by rw [if_neg q] at hf; exact hf) H locs ls hI hl)
theorem r_if_ne (C : Cx X hd cc nL own fr lo) {x : Int32} {off : Int} {tgt : Nat} (hdg : decode cc pc = .ok (.ifCond .ne off, 3)) (ht : (pc : Int) + off = (tgt : Int)) {α : Type} {a b o : α} (hf : (if x = 0 then a else b) = o) (kt : b = o → Wm X nL I Q tgt lv st σ) (kf : a = o → Wm X nL I Q (pc + 3) lv st σ) : Wm X nL I Q pc lv (.int x :: st) σ := fun H locs ls hI hl => lv_if_ne C.1 C.2.1 hdg ht (fun q => kt (by rw [if_neg q] at hf; exact hf) H locs ls hI hl) (fun q => kf (by rw [if_pos q] at hf; exact hf) H locs ls hI hl)
theorem r_icmp_ne (C : Cx X hd cc nL own fr lo) {x y : Int32} {off : Int} {tgt : Nat} (hdg : decode cc pc = .ok (.if_icmp .ne off, 3)) (ht : (pc : Int) + off = (tgt : Int)) {α : Type} {a b o : α} (hf : (if x = y then a else b) = o) (kt : b = o → Wm X nL I Q tgt lv st σ) (kf : a = o → Wm X nL I Q (pc + 3) lv st σ) : Wm X nL I Q pc lv (.int y :: .int x :: st) σ := fun H locs ls hI hl => lv_icmp_ne C.1 C.2.1 hdg ht (fun q => kt (by rw [if_neg q] at hf; exact hf) H locs ls hI hl) (fun q => kf (by rw [if_pos q] at hf; exact hf) H locs ls hI hl)
theorem r_if_lt (C : Cx X hd cc nL own fr lo) {x : Int32} {off : Int} {tgt : Nat} (hdg : decode cc pc = .ok (.ifCond .lt off, 3)) (ht : (pc : Int) + off = (tgt : Int)) {α : Type} {a b o : α} (hf : (if x < 0 then a else b) = o) (kt : a = o → Wm X nL I Q tgt lv st σ) (kf : b = o → Wm X nL I Q (pc + 3) lv st σ) : Wm X nL I Q pc lv (.int x :: st) σ := fun H locs ls hI hl => lv_if_lt C.1 C.2.1 hdg ht (fun q => kt (by rw [if_pos q] at hf; exact hf) H locs ls hI hl) (fun q => kf (by rw [if_neg q] at hf; exact hf) H locs ls hI hl)
theorem r_icmp_lt (C : Cx X hd cc nL own fr lo) {x y : Int32} {off : Int} {tgt : Nat} (hdg : decode cc pc = .ok (.if_icmp .lt off, 3)) (ht : (pc : Int) + off = (tgt : Int)) {α : Type} {a b o : α} (hf : (if x < y then a else b) = o) (kt : a = o → Wm X nL I Q tgt lv st σ) (kf : b = o → Wm X nL I Q (pc + 3) lv st σ) : Wm X nL I Q pc lv (.int y :: .int x :: st) σ := fun H locs ls hI hl => lv_icmp_lt C.1 C.2.1 hdg ht (fun q => kt (by rw [if_pos q] at hf; exact hf) H locs ls hI hl) (fun q => kf (by rw [if_neg q] at hf; exact hf) H locs ls hI hl)
theorem r_if_ge (C : Cx X hd cc nL own fr lo) {x : Int32} {off : Int} {tgt : Nat} (hdg : decode cc pc = .ok (.ifCond .ge off, 3)) (ht : (pc : Int) + off = (tgt : Int)) {α : Type} {a b o : α} (hf : (if 0 ≤ x then a else b) = o) (kt : a = o → Wm X nL I Q tgt lv st σ) (kf : b = o → Wm X nL I Q (pc + 3) lv st σ) : Wm X nL I Q pc lv (.int x :: st) σ := fun H locs ls hI hl => lv_if_ge C.1 C.2.1 hdg ht (fun q => kt (by rw [if_pos q] at hf; exact hf) H locs ls hI hl) (fun q => kf (by rw [if_neg q] at hf; exact hf) H locs ls hI hl)
theorem r_icmp_ge (C : Cx X hd cc nL own fr lo) {x y : Int32} {off : Int} {tgt : Nat} (hdg : decode cc pc = .ok (.if_icmp .ge off, 3)) (ht : (pc : Int) + off = (tgt : Int)) {α : Type} {a b o : α} (hf : (if y ≤ x then a else b) = o) (kt : a = o → Wm X nL I Q tgt lv st σ) (kf : b = o → Wm X nL I Q (pc + 3) lv st σ) : Wm X nL I Q pc lv (.int y :: .int x :: st) σ := fun H locs ls hI hl => lv_icmp_ge C.1 C.2.1 hdg ht (fun q => kt (by rw [if_pos q] at hf; exact hf) H locs ls hI hl) (fun q => kf (by rw [if_neg q] at hf; exact hf) H locs ls hI hl)
theorem r_if_gt (C : Cx X hd cc nL own fr lo) {x : Int32} {off : Int} {tgt : Nat} (hdg : decode cc pc = .ok (.ifCond .gt off, 3)) (ht : (pc : Int) + off = (tgt : Int)) {α : Type} {a b o : α} (hf : (if 0 < x then a else b) = o) (kt : a = o → Wm X nL I Q tgt lv st σ) (kf : b = o → Wm X nL I Q (pc + 3) lv st σ) : Wm X nL I Q pc lv (.int x :: st) σ := fun H locs ls hI hl => lv_if_gt C.1 C.2.1 hdg ht (fun q => kt (by rw [if_pos q] at hf; exact hf) H locs ls hI hl) (fun q => kf (by rw [if_neg q] at hf; exact hf) H locs ls hI hl)
theorem r_icmp_gt (C : Cx X hd cc nL own fr lo) {x y : Int32} {off : Int} {tgt : Nat} (hdg : decode cc pc = .ok (.if_icmp .gt off, 3)) (ht : (pc : Int) + off = (tgt : Int)) {α : Type} {a b o : α} (hf : (if y < x then a else b) = o) (kt : a = o → Wm X nL I Q tgt lv st σ) (kf : b = o → Wm X nL I Q (pc + 3) lv st σ) : Wm X nL I Q pc lv (.int y :: .int x :: st) σ := fun H locs ls hI hl => lv_icmp_gt C.1 C.2.1 hdg ht (fun q => kt (by rw [if_pos q] at hf; exact hf) H locs ls hI hl) (fun q => kf (by rw [if_neg q] at hf; exact hf) H locs ls hI hl)
theorem r_if_le (C : Cx X hd cc nL own fr lo) {x : Int32} {off : Int} {tgt : Nat} (hdg : decode cc pc = .ok (.ifCond .le off, 3)) (ht : (pc : Int) + off = (tgt : Int)) {α : Type} {a b o : α} (hf : (if x ≤ 0 then a else b) = o) (kt : a = o → Wm X nL I Q tgt lv st σ) (kf : b = o → Wm X nL I Q (pc + 3) lv st σ) : Wm X nL I Q pc lv (.int x :: st) σ := fun H locs ls hI hl => lv_if_le C.1 C.2.1 hdg ht (fun q => kt (by rw [if_pos q] at hf; exact hf) H locs ls hI hl) (fun q => kf (by rw [if_neg q] at hf; exact hf) H locs ls hI hl)
theorem r_icmp_le (C : Cx X hd cc nL own fr lo) {x y : Int32} {off : Int} {tgt : Nat} (hdg : decode cc pc = .ok (.if_icmp .le off, 3)) (ht : (pc : Int) + off = (tgt : Int)) {α : Type} {a b o : α} (hf : (if x ≤ y then a else b) = o) (kt : a = o → Wm X nL I Q tgt lv st σ) (kf : b = o → Wm X nL I Q (pc + 3) lv st σ) : Wm X nL I Q pc lv (.int y :: .int x :: st) σ := fun H locs ls hI hl => lv_icmp_le C.1 C.2.1 hdg ht (fun q => kt (by rw [if_pos q] at hf; exact hf) H locs ls hI hl) (fun q => kf (by rw [if_neg q] at hf; exact hf) H locs ls hI hl)
theorem r_tblOut (C : Cx X hd cc nL own fr lo) {dflt a b : Int} {offs : Array Int} {len : Nat} {x : Int32} {tgt : Nat} (hdg : decode cc pc = .ok (.tableswitch dflt a b offs, len)) (h : x.toInt < a ∨ b < x.toInt) (ht : (pc : Int) + dflt = (tgt : Int)) (kk : Wm X nL I Q tgt lv st σ) : Wm X nL I Q pc lv (.int x :: st) σ := fun H locs ls hI hl => lv_tableOut C.1 C.2.1 hdg h ht (kk H locs ls hI hl)
theorem r_tblIn (C : Cx X hd cc nL own fr lo) {dflt a b : Int} {offs : Array Int} {len : Nat} {x : Int32} {off : Int} {tgt : Nat} (hdg : decode cc pc = .ok (.tableswitch dflt a b offs, len)) (h1 : ¬ x.toInt < a) (h2 : ¬ b < x.toInt) (ho : offs[(x.toInt - a).toNat]? = some off) (ht : (pc : Int) + off = (tgt : Int)) (kk : Wm X nL I Q tgt lv st σ) : Wm X nL I Q pc lv (.int x :: st) σ := fun H locs ls hI hl => lv_tableIn C.1 C.2.1 hdg h1 h2 ho ht (kk H locs ls hI hl)
theorem r_lookup (C : Cx X hd cc nL own fr lo) {dflt : Int} {ps : Array (Int × Int)} {len : Nat} {x : Int32} {off : Int} {tgt : Nat} (hdg : decode cc pc = .ok (.lookupswitch dflt ps, len)) (hp : (ps.toList.zip (ps.toList.drop 1)).all (fun (a, next) => a.1 < next.1) = true) (ho : Op.lookupswitch.offset ps.toList dflt x.toInt = off) (ht : (pc : Int) + off = (tgt : Int)) (kk : Wm X nL I Q tgt lv st σ) : Wm X nL I Q pc lv (.int x :: st) σ := fun H locs ls hI hl => lv_lookup C.1 C.2.1 hdg hp ho ht (kk H locs ls hI hl)
theorem r_sub {lv2 : List (Nat × Value)} (ks : List Nat) (hs : lv_pick lv ks = lv2) (kk : Wm X nL I Q pc lv2 st σ) : Wm X nL I Q pc lv st σ := fun H locs ls hI hl => kk H locs ls hI (lv_sub hl ks hs)
end RW
end
section
/-- the start of a method with the world w -/
def PreK (E : EvT) (w : va_W) (av : List Value) (sz : Nat) : Array Value → State → Prop := va_Pc av (fun U => U.heap.size = sz ∧ va_P E.1 vwCl w U.heap ∧ va_K E.1 vwCl (tyE E) U ∧ NW U ∧ SE E (va_A w sz) U U.heap ∧ va_D (fun _ => True) w)
def KI (l : Launch) (y : MethodName) (ws : List Cond) (rm : Room) (E : EvT) (w1 w2 : va_W) (av : List Value) (r : Int32) : Prop := ∀ sz : Nat, Met l y ws rm (PreK E w1 av sz) (va_Qi (fun (r2 : Int32) (_ : Unit) => r2 = r) (fun _ t => va_P E.1 vwCl w2 t.heap) (va_A w1 sz)) 0 0 (va_A w1 sz)
def KL (l : Launch) (y : MethodName) (ws : List Cond) (rm : Room) (E : EvT) (w1 w2 : va_W) (av : List Value) (r : Int64) : Prop := ∀ sz : Nat, Met l y ws rm (PreK E w1 av sz) (va_Ql (fun (r2 : Int64) (_ : Unit) => r2 = r) (fun _ t => va_P E.1 vwCl w2 t.heap) (va_A w1 sz)) 0 0 (va_A w1 sz)
def KV (l : Launch) (y : MethodName) (ws : List Cond) (rm : Room) (E : EvT) (w1 w2 : va_W) (av : List Value) : Prop := ∀ sz : Nat, Met l y ws rm (PreK E w1 av sz) (va_Qv (fun (_ : Unit) => True) (fun _ t => va_P E.1 vwCl w2 t.heap) (va_A w1 sz)) 0 0 (va_A w1 sz)
/-- a static method that needs no heap -/
def KP (l : Launch) (y : MethodName) (ws : List Cond) (rm : Room) (av : List Value) (r : Int32) : Prop := Met l y ws rm (fun v _ => v = av.toArray) (QcRead r) 0 0 (fun _ => False)
theorem PreK.blind {E : EvT} {w : va_W} {av : List Value} {sz : Nat} : FrameBlind (PreK E w av sz) := fun a U g mk q => ⟨q.1, q.2.1, q.2.2.1, va_K.moved (u := U) (U := U.calling g mk a) (Vm.Alike.refl U.vm) q.2.2.2.1, NW.same (u := U) rfl q.2.2.2.2.1, SE.same (u := U) rfl q.2.2.2.2.2.1, q.2.2.2.2.2.2⟩
/-- what may change belongs to the caller -/
theorem a_free {Z : Nat → Prop} {w : va_W} {H0 H : Heap} {locs : List Loc} (hD : va_D Z w) (hS : va_S Z H0 H locs) (hA : ∀ q, H0.size ≤ q → Z q) : ∀ q, va_A w H.size q → Z q := by
  intro q h
  rcases h with ⟨k, e, h⟩ | h
  · exact hD.2 k (q, e) h
  · exact hA q (Nat.le_trans hS.1 h)
theorem d_fst {Z : Nat → Prop} {w1 w2 : va_W} (h : w1.map Prod.fst = w2.map Prod.fst) (hD : va_D Z w1) : va_D Z w2 := by
  have key : ∀ (i : Nat) (p : Nat × va_E), w2[i]? = some p → ∃ p2 : Nat × va_E, w1[i]? = some p2 ∧ p2.1 = p.1 := by
    intro i p hp
    have h1 : (w2.map Prod.fst)[i]? = some p.1 := by rw [List.getElem?_map, hp]; rfl
    rw [← h, List.getElem?_map] at h1
    cases h2 : w1[i]? with
    | none => rw [h2] at h1; cases h1
    | some p2 => rw [h2] at h1; exact ⟨p2, rfl, Option.some.inj h1⟩
  refine ⟨fun i j p q hi hj e => ?_, fun k q hk => ?_⟩
  · obtain ⟨p2, a1, a2⟩ := key i p hi
    obtain ⟨q2, b1, b2⟩ := key j q hj
    exact hD.1 i j p2 q2 a1 b1 (by rw [a2, b2, e])
  · obtain ⟨q2, b1, b2⟩ := key k q hk
    rw [← b2]
    exact hD.2 k q2 b1
/-- the words of a call of an object's method -/
def Cal (own : String) (idx : Nat) (Cc : String) (y : MethodName) (bytes : ByteArray) (mL : Nat) (rt : Option FieldType) (n : Nat) : Prop :=
  Cond.methodLink own idx y ∈ wA ∧ Cond.instanceMethod y ∈ wA ∧ Cond.selects Cc y y ∈ wA ∧ Cond.initialized Cc ∈ wA ∧ Cond.code y bytes mL rt ∈ wA ∧ y.cls = Cc ∧ y.cls ≠ "java/lang/invoke/MethodHandle" ∧ y.cls ≠ "java/lang/invoke/VarHandle" ∧ (parseMethodDescriptor y.desc).map (fun d => d.parameters.length) = some n
/-- the words of a call of a static method -/
def Cas (own : String) (idx : Nat) (y : MethodName) (bytes : ByteArray) (mL : Nat) (rt : Option FieldType) (n : Nat) : Prop :=
  Cond.methodLink own idx y ∈ wA ∧ Cond.static y ∈ wA ∧ Cond.initialized y.cls ∈ wA ∧ Cond.code y bytes mL rt ∈ wA ∧ y.cls ≠ "java/lang/invoke/MethodHandle" ∧ y.cls ≠ "java/lang/invoke/VarHandle" ∧ (parseMethodDescriptor y.desc).map (fun d => d.parameters.length) = some n
/-- the callee's room fits -/
def Rmf (rm : Room) (mL fr lo : Nat) : Prop := rm.cells = 0 ∧ rm.slots = 0 ∧ rm.frames + 1 ≤ fr ∧ 8 + (mL + 11) + rm.locals ≤ lo
section CL
variable {X : XT} {hd : Cond} {cc : ByteArray} {nL : Nat} {own : String} {fr lo : Nat} {Q : State → Prop} {pc : Nat} {lv : List (Nat × Value)} {st rest : List Value} {E : EvT} {Z : Nat → Prop}
variable {y : MethodName} {bytes : ByteArray} {mL n idx : Nat} {rt : Option FieldType} {Cc : String} {rm : Room} {w1 w2 : va_W} {b : Nat} {As : List Value} {H : Heap} {locs : List Loc} {ls : Array Slot}
theorem cal_w (C : Cx X hd cc nL own fr lo) (cal : Cal own idx Cc y bytes mL rt n) (hrm : Rmf rm mL fr lo) : CallW X.2.2.2.1 X.2.2.2.2.1 X.2.2.2.2.2.2.1 own Cc idx y bytes mL rt (.code y bytes mL rt :: wA) rm 0 0 n := by
  obtain ⟨h1, h2, h3, h4, h5, h6⟩ := cal
  refine cwV n C.2.2.2.2.1 (gd_all ?_) rfl hrm.1 hrm.2.1 h6 ⟨by rw [C.2.2.2.2.2.1]; exact hrm.2.2.1, by rw [C.2.2.2.2.2.2]; exact hrm.2.2.2⟩
  intro w hw
  rcases List.mem_append.mp hw with h | h
  · rcases List.mem_cons.mp h with rfl | h
    · exact h1
    rcases List.mem_cons.mp h with rfl | h
    · exact h2
    rcases List.mem_cons.mp h with rfl | h
    · exact h3
    rcases List.mem_cons.mp h with rfl | h
    · exact h4
    exact absurd h List.not_mem_nil
  · rcases List.mem_cons.mp h with rfl | h
    · exact h5
    exact h
theorem cas_w (C : Cx X hd cc nL own fr lo) (cas : Cas own idx y bytes mL rt n) (hrm : Rmf rm mL fr lo) : CallB X.2.2.2.1 X.2.2.2.2.1 X.2.2.2.2.2.2.1 own idx y bytes mL rt (.code y bytes mL rt :: wA) rm 0 0 n ∧ (Cond.static y).before X.2.2.2.2.2.2.1 X.2.2.2.2.1 = true := by
  obtain ⟨h1, h2, h3, h4, h6⟩ := cas
  have ok : ∀ w ∈ wA, w.before X.2.2.2.2.2.2.1 X.2.2.2.2.1 = true := fun w h => C.2.2.2.2.1 w (List.mem_cons_of_mem _ h)
  exact ⟨callB_of n C.2.2.2.2.1 (gd_cons h4) rfl hrm.1 hrm.2.1 (ok _ h3) (ok _ h1) h6 ⟨by rw [C.2.2.2.2.2.1]; exact hrm.2.2.1, by rw [C.2.2.2.2.2.2]; exact hrm.2.2.2⟩, ok _ h2⟩
theorem pre_w (K : Ck X E Z) (hI : IW X E Z w1 H locs) {q ci : Nat} {fs : List Value} {T : u_T} {N : Nat} (he : w1[q]? = some (b, .inr (ci, fs))) (hcl : vwCl[ci]? = some (Cc, T, N)) : PreV X.2.2.2.2.1 H Cc b (PreK E w1 (.ref b :: As) H.size) As :=
  ⟨PreK.blind, va_recv K.1 hI.1 hcl he, fun U hU hW => ⟨rfl, by rw [hU], by rw [hU]; exact hI.1, va_K.moved hW.alike K.1, K.2.1.warm hW, by
    rw [hU]
    exact ((K.2.2.1.warm hW).kept (fun a h1 h2 => hI.2.2.2.1 a h1 h2)).narrow (a_free hI.2.1 hI.2.2 K.2.2.2), ⟨hI.2.1.1, fun _ _ _ => trivial⟩⟩⟩
theorem call_I (C : Cx X hd cc nL own fr lo) (K : Ck X E Z) (cal : Cal own idx Cc y bytes mL rt n) (hrm : Rmf rm mL fr lo) {r : Int32} (hM : KI X.2.1 y (.code y bytes mL rt :: wA) rm E w1 w2 (.ref b :: As) r) {q ci : Nat} {fs : List Value} {T : u_T} {N : Nat} (he : w1[q]? = some (b, .inr (ci, fs))) (hcl : vwCl[ci]? = some (Cc, T, N)) (hfst : w1.map Prod.fst = w2.map Prod.fst) (hn : As.length = n) (hst : st = As.reverse ++ .ref b :: rest) (hrest : (rest.map fun v => v.category).sum ≤ 8) (hdg : decode cc pc = .ok (.invokevirtual idx, 3)) (hI : IW X E Z w1 H locs) (hl : lv_has ls nL lv)
    (kk : ∀ (H1 : Heap) (locs1 : List Loc), IW X E Z w2 H1 locs1 → Wx X H1 locs1 Q (pc + 3) ls (.int r :: rest)) : Wx X H locs Q pc ls st := by
  subst hst
  refine va_calli (va_runV (As := As) (rest := rest) ⟨C.1, C.2.1, C.2.2.1, C.2.2.2.1, C.2.2.2.2.1⟩ (hM H.size) (cal_w C cal hrm) (pre_w K hI he hcl) rfl hn hl.1 rfl (lv_room hrest) hdg ⟨Nat.zero_le _, Nat.zero_le _⟩) hI.2.2 (fun q _ h => a_free hI.2.1 hI.2.2 K.2.2.2 q h) (a_free hI.2.1 hI.2.2 K.2.2.2) (fun r2 u t H1 locs1 ht hvm hw hB hz1 hk1 hS => ?_)
  subst hw
  exact kk H1 locs1 ⟨by rw [← ht]; exact hB, d_fst hfst hI.2.1, hS⟩
theorem call_L (C : Cx X hd cc nL own fr lo) (K : Ck X E Z) (cal : Cal own idx Cc y bytes mL rt n) (hrm : Rmf rm mL fr lo) {r : Int64} (hM : KL X.2.1 y (.code y bytes mL rt :: wA) rm E w1 w2 (.ref b :: As) r) {q ci : Nat} {fs : List Value} {T : u_T} {N : Nat} (he : w1[q]? = some (b, .inr (ci, fs))) (hcl : vwCl[ci]? = some (Cc, T, N)) (hfst : w1.map Prod.fst = w2.map Prod.fst) (hn : As.length = n) (hst : st = As.reverse ++ .ref b :: rest) (hrest : (rest.map fun v => v.category).sum ≤ 8) (hdg : decode cc pc = .ok (.invokevirtual idx, 3)) (hI : IW X E Z w1 H locs) (hl : lv_has ls nL lv)
    (kk : ∀ (H1 : Heap) (locs1 : List Loc), IW X E Z w2 H1 locs1 → Wx X H1 locs1 Q (pc + 3) ls (.long r :: rest)) : Wx X H locs Q pc ls st := by
  subst hst
  refine va_calll (va_runV (As := As) (rest := rest) ⟨C.1, C.2.1, C.2.2.1, C.2.2.2.1, C.2.2.2.2.1⟩ (hM H.size) (cal_w C cal hrm) (pre_w K hI he hcl) rfl hn hl.1 rfl (lv_room hrest) hdg ⟨Nat.zero_le _, Nat.zero_le _⟩) hI.2.2 (fun q _ h => a_free hI.2.1 hI.2.2 K.2.2.2 q h) (a_free hI.2.1 hI.2.2 K.2.2.2) (fun r2 u t H1 locs1 ht hvm hw hB hz1 hk1 hS => ?_)
  subst hw
  exact kk H1 locs1 ⟨by rw [← ht]; exact hB, d_fst hfst hI.2.1, hS⟩
theorem call_V (C : Cx X hd cc nL own fr lo) (K : Ck X E Z) (cal : Cal own idx Cc y bytes mL rt n) (hrm : Rmf rm mL fr lo) (hM : KV X.2.1 y (.code y bytes mL rt :: wA) rm E w1 w2 (.ref b :: As)) {q ci : Nat} {fs : List Value} {T : u_T} {N : Nat} (he : w1[q]? = some (b, .inr (ci, fs))) (hcl : vwCl[ci]? = some (Cc, T, N)) (hfst : w1.map Prod.fst = w2.map Prod.fst) (hn : As.length = n) (hst : st = As.reverse ++ .ref b :: rest) (hrest : (rest.map fun v => v.category).sum ≤ 8) (hdg : decode cc pc = .ok (.invokevirtual idx, 3)) (hI : IW X E Z w1 H locs) (hl : lv_has ls nL lv)
    (kk : ∀ (H1 : Heap) (locs1 : List Loc), IW X E Z w2 H1 locs1 → Wx X H1 locs1 Q (pc + 3) ls rest) : Wx X H locs Q pc ls st := by
  subst hst
  refine va_callv (va_runV (As := As) (rest := rest) ⟨C.1, C.2.1, C.2.2.1, C.2.2.2.1, C.2.2.2.2.1⟩ (hM H.size) (cal_w C cal hrm) (pre_w K hI he hcl) rfl hn hl.1 rfl (lv_room hrest) hdg ⟨Nat.zero_le _, Nat.zero_le _⟩) hI.2.2 (fun q _ h => a_free hI.2.1 hI.2.2 K.2.2.2 q h) (a_free hI.2.1 hI.2.2 K.2.2.2) (fun u t H1 locs1 ht hvm hw hB hz1 hk1 hS => ?_)
  exact kk H1 locs1 ⟨by rw [← ht]; exact hB, d_fst hfst hI.2.1, hS⟩
/-- a static call without a heap: the heap stays as it is -/
theorem r_callP {S : Type} {I : S → Heap → List Loc → Prop} {σ : S} (C : Cx X hd cc nL own fr lo) (cas : Cas own idx y bytes mL rt n) (hrm : Rmf rm mL fr lo) {r : Int32} (hM : KP X.2.1 y (.code y bytes mL rt :: wA) rm As r) (hn : As.length = n) (hst : st = As.reverse ++ rest) (hrest : (rest.map fun v => v.category).sum ≤ 8) (hdg : decode cc pc = .ok (.invokestatic idx, 3)) (kk : Wm X nL I Q (pc + 3) lv (.int r :: rest) σ) : Wm X nL I Q pc lv st σ := by
  subst hst
  exact fun H locs ls hI hl => W.callR (W.runS (As := As) (rest := rest) ⟨C.1, C.2.1, C.2.2.1, C.2.2.2.1, C.2.2.2.2.1⟩ hM (cas_w C cas hrm) preEq rfl hn hl.1 rfl (lv_room hrest) hdg ⟨Nat.zero_le _, Nat.zero_le _⟩) (kk H locs ls hI hl)
end CL
section EN
variable {l : Launch} {y : MethodName} {cc : ByteArray} {nL : Nat} {rt : Option FieldType} {rm : Room} {E : EvT} {w1 w2 : va_W} {av : List Value} {lv0 : List (Nat × Value)} {own : String}
theorem ent_I {r : Int32} {ty : FieldType} (hy : plainName y.cls = true) (ho : y.cls = own) (hrt : rt = some ty) (hav : (lg_sl av).length ≤ nL) (hlv : lv_args 0 av = lv0) (hfst : w1.map Prod.fst = w2.map Prod.fst)
    (body : ∀ (X : XT) (Z : Nat → Prop) (Q : State → Prop), X.2.1 = l → Cx X (.code y cc nL rt) cc nL own rm.frames rm.locals → Ck X E Z → (∀ (pc : Nat) (lv : List (Nat × Value)), decode cc pc = .ok (.ireturn, 1) → narrow ty (.int r) = .int r → ∀ (H : Heap) (locs : List Loc) (ls : Array Slot), IW X E Z w2 H locs → lv_has ls nL lv → Wx X H locs Q pc ls [.int r]) → ∀ (H : Heap) (locs : List Loc) (ls : Array Slot), IW X E Z w1 H locs → lv_has ls nL lv0 → Wx X H locs Q 0 ls []) :
    KI l y (.code y cc nL rt :: wA) rm E w1 w2 av r := by
  intro sz
  refine Met.ofW (cc := cc) (maxL := nL) (ret := rt) hy rfl ?_
  intro p e s m args below meth c s₁ B hml hv
  obtain ⟨rfl, hsz, hP, hK, hN, hE, hD0⟩ := hv
  have hx := B.exec
  have hb := B.bytes
  have hr := B.returns
  have hts := atoms_spec (ws := .code y cc nL rt :: wA) B.pre
  have hown : s.vm.findClass own = some m.cls := by rw [← ho]; exact findClass_of_methodNamed B.named
  have hlocks := B.notSynchronized
  subst hsz
  have hl := lv_entry av (n := nL) hav
  rw [lg_entry_eq]
  rw [hlv] at hl
  refine body (p, l, e, _, s, m, av.toArray, below, meth, c) (va_A w1 s.heap.size) _ rfl ⟨hx, hb, hml, hown, hts, rfl, rfl⟩ ⟨hK, hN, hE, fun q h => Or.inr h⟩ ?_ s.heap [] _ ⟨hP, hD0.self, va_S.rf⟩ hl
  intro pc lv hdg hn H locs ls hI hl2
  exact W.zret (v := r) (ty := ty) hx hb (hr.trans hrt) hn (fun t ht hW => ⟨⟨r, (), rfl, rfl, show va_P E.1 vwCl w2 t.heap by rw [ht]; exact hI.1⟩, hI.2.2.F ht⟩) hI.2.2.2.2 hdg
theorem ent_L {r : Int64} (hy : plainName y.cls = true) (ho : y.cls = own) (hrt : rt = some .long) (hav : (lg_sl av).length ≤ nL) (hlv : lv_args 0 av = lv0) (hfst : w1.map Prod.fst = w2.map Prod.fst)
    (body : ∀ (X : XT) (Z : Nat → Prop) (Q : State → Prop), X.2.1 = l → Cx X (.code y cc nL rt) cc nL own rm.frames rm.locals → Ck X E Z → (∀ (pc : Nat) (lv : List (Nat × Value)), decode cc pc = .ok (.lreturn, 1) → ∀ (H : Heap) (locs : List Loc) (ls : Array Slot), IW X E Z w2 H locs → lv_has ls nL lv → Wx X H locs Q pc ls [.long r]) → ∀ (H : Heap) (locs : List Loc) (ls : Array Slot), IW X E Z w1 H locs → lv_has ls nL lv0 → Wx X H locs Q 0 ls []) :
    KL l y (.code y cc nL rt :: wA) rm E w1 w2 av r := by
  intro sz
  refine Met.ofW (cc := cc) (maxL := nL) (ret := rt) hy rfl ?_
  intro p e s m args below meth c s₁ B hml hv
  obtain ⟨rfl, hsz, hP, hK, hN, hE, hD0⟩ := hv
  have hx := B.exec
  have hb := B.bytes
  have hr := B.returns
  have hts := atoms_spec (ws := .code y cc nL rt :: wA) B.pre
  have hown : s.vm.findClass own = some m.cls := by rw [← ho]; exact findClass_of_methodNamed B.named
  have hlocks := B.notSynchronized
  subst hsz
  have hl := lv_entry av (n := nL) hav
  rw [lg_entry_eq]
  rw [hlv] at hl
  refine body (p, l, e, _, s, m, av.toArray, below, meth, c) (va_A w1 s.heap.size) _ rfl ⟨hx, hb, hml, hown, hts, rfl, rfl⟩ ⟨hK, hN, hE, fun q h => Or.inr h⟩ ?_ s.heap [] _ ⟨hP, hD0.self, va_S.rf⟩ hl
  intro pc lv hdg H locs ls hI hl2
  exact W.lret (v := r) hx hb (hr.trans hrt) (fun t ht hW => ⟨⟨r, (), rfl, rfl, show va_P E.1 vwCl w2 t.heap by rw [ht]; exact hI.1⟩, hI.2.2.F ht⟩) hI.2.2.2.2 hdg
theorem ent_V (hy : plainName y.cls = true) (ho : y.cls = own) (hrt : rt = none) (hav : (lg_sl av).length ≤ nL) (hlv : lv_args 0 av = lv0) (hfst : w1.map Prod.fst = w2.map Prod.fst)
    (body : ∀ (X : XT) (Z : Nat → Prop) (Q : State → Prop), X.2.1 = l → Cx X (.code y cc nL rt) cc nL own rm.frames rm.locals → Ck X E Z → (∀ (pc : Nat) (lv : List (Nat × Value)), decode cc pc = .ok (.return_, 1) → ∀ (H : Heap) (locs : List Loc) (ls : Array Slot), IW X E Z w2 H locs → lv_has ls nL lv → Wx X H locs Q pc ls []) → ∀ (H : Heap) (locs : List Loc) (ls : Array Slot), IW X E Z w1 H locs → lv_has ls nL lv0 → Wx X H locs Q 0 ls []) :
    KV l y (.code y cc nL rt :: wA) rm E w1 w2 av := by
  intro sz
  refine Met.ofW (cc := cc) (maxL := nL) (ret := rt) hy rfl ?_
  intro p e s m args below meth c s₁ B hml hv
  obtain ⟨rfl, hsz, hP, hK, hN, hE, hD0⟩ := hv
  have hx := B.exec
  have hb := B.bytes
  have hr := B.returns
  have hts := atoms_spec (ws := .code y cc nL rt :: wA) B.pre
  have hown : s.vm.findClass own = some m.cls := by rw [← ho]; exact findClass_of_methodNamed B.named
  have hlocks := B.notSynchronized
  subst hsz
  have hl := lv_entry av (n := nL) hav
  rw [lg_entry_eq]
  rw [hlv] at hl
  refine body (p, l, e, _, s, m, av.toArray, below, meth, c) (va_A w1 s.heap.size) _ rfl ⟨hx, hb, hml, hown, hts, rfl, rfl⟩ ⟨hK, hN, hE, fun q h => Or.inr h⟩ ?_ s.heap [] _ ⟨hP, hD0.self, va_S.rf⟩ hl
  intro pc lv hdg H locs ls hI hl2
  exact W.vret hx hb (hr.trans hrt) (fun t ht hW => ⟨⟨(), rfl, trivial, show va_P E.1 vwCl w2 t.heap by rw [ht]; exact hI.1⟩, hI.2.2.F ht⟩) hI.2.2.2.2 hdg
theorem ent_P {r : Int32} {ty : FieldType} (hy : plainName y.cls = true) (ho : y.cls = own) (hrt : rt = some ty) (hav : (lg_sl av).length ≤ nL) (hlv : lv_args 0 av = lv0)
    (body : ∀ (X : XT) (Q : State → Prop), X.2.1 = l → Cx X (.code y cc nL rt) cc nL own rm.frames rm.locals → (∀ (pc : Nat) (lv : List (Nat × Value)), decode cc pc = .ok (.ireturn, 1) → narrow ty (.int r) = .int r → Wm X nL (IP X) Q pc lv [.int r] ()) → Wm X nL (IP X) Q 0 lv0 [] ()) :
    KP l y (.code y cc nL rt :: wA) rm av r := by
  refine Met.ofW (cc := cc) (maxL := nL) (ret := rt) hy rfl ?_
  intro p e s m args below meth c s₁ B hml hv
  subst hv
  have hx := B.exec
  have hb := B.bytes
  have hr := B.returns
  have hts := atoms_spec (ws := .code y cc nL rt :: wA) B.pre
  have hown : s.vm.findClass own = some m.cls := by rw [← ho]; exact findClass_of_methodNamed B.named
  have hlocks := B.notSynchronized
  have hl := lv_entry av (n := nL) hav
  rw [lg_entry_eq]
  rw [hlv] at hl
  refine body (p, l, e, _, s, m, av.toArray, below, meth, c) _ rfl ⟨hx, hb, hml, hown, hts, rfl, rfl⟩ ?_ s.heap [] _ ⟨rfl, rfl⟩ hl
  intro pc lv hdg hn H locs ls hI hl2
  obtain ⟨rfl, rfl⟩ := hI
  exact W.zret (v := r) (ty := ty) hx hb (hr.trans hrt) hn (fun t ht hW => ⟨rfl, ht⟩) (fun q h => by cases h) hdg
end EN
end
section
def cfs (c : Nat → Int32) : List Value := [.int (c 0), .int (c 1), .int (c 2), .int (c 3), .int (c 4), .int (c 5), .int (c 6), .int (c 7), .int (c 8)]
/-- the class's cells: 0 CountOut, 1 Page (2 letters, 3 beats, 4 kinds), 5 scene (6 circle, 7 beats, 8 from, 9 out), 10 kept (11, 12, 13, 14), 15 Foresight (16 trial, 17 lasts, 18 ways, 19 tally) -/
def cw (E : EvT) (A : Nat → Nat) (V : Nat → Nat → Int32) (L : Nat → Int64) : va_W := [(A 0, .inr (4, [.ref (A 1), .ref (A 5), .ref (A 10), .ref (A 15), .int (V 0 4), .int (V 0 5)])),
  (A 1, .inr (2, [.ref (A 2), .int (V 1 1), .int (V 1 2), .int (V 1 3), .ref (A 3), .int (V 1 5), .ref (A 4), .int (V 1 7)])),
  (A 2, .inl (E.2.1, 20, .inl (V 2))),
  (A 3, .inl (E.2.1, 3, .inl (V 3))),
  (A 4, .inl (E.2.1, 8, .inl (V 4))),
  (A 5, .inr (3, [.ref (A 6), .ref (A 7), .int (V 5 2), .int (V 5 3), .ref (A 8), .ref (A 9), .int (V 5 6)])),
  (A 6, .inr (0, cfs (V 6))),
  (A 7, .inl (E.2.1, 3, .inl (V 7))),
  (A 8, .inl (E.2.1, 6, .inl (V 8))),
  (A 9, .inl (E.2.1, 6, .inl (V 9))),
  (A 10, .inr (3, [.ref (A 11), .ref (A 12), .int (V 10 2), .int (V 10 3), .ref (A 13), .ref (A 14), .int (V 10 6)])),
  (A 11, .inr (0, cfs (V 11))),
  (A 12, .inl (E.2.1, 3, .inl (V 12))),
  (A 13, .inl (E.2.1, 6, .inl (V 13))),
  (A 14, .inl (E.2.1, 6, .inl (V 14))),
  (A 15, .inr (1, [.ref (A 5), .ref (A 16), .ref (A 17), .long (L 3), .ref (A 18), .long (L 5), .ref (A 19), .int (V 15 7)])),
  (A 16, .inr (0, cfs (V 16))),
  (A 17, .inl (E.2.1, 61, .inl (V 17))),
  (A 18, .inl (E.2.1, 8, .inl (V 18))),
  (A 19, .inl (E.2.1, 8, .inl (V 19)))]
def mfs (A : Nat → Nat) (V : Nat → Nat → Int32) (L : Nat → Int64) : List Value := [.int (V 0 0), .int (V 0 1), .int (V 0 2), .ref (A 3), .ref (A 4), .int (V 0 5), .int (V 0 6), .int (V 0 7), .int (V 0 8), .int (V 0 9), .int (V 0 10), .ref (A 11), .ref (A 12), .int (V 0 13), .ref (A 14), .int (V 0 15), .int (V 0 16), .int (V 0 17), .int (V 0 18), .int (V 0 19), .int (V 0 20), .int (V 0 21), .ref (A 22), .int (V 0 23), .ref (A 24), .ref (A 25), .ref (A 26), .ref (A 27), .ref (A 28), .ref (A 29), .ref (A 30), .ref (A 31), .ref (A 32), .ref (A 33), .ref (A 34), .ref (A 35), .long (L 36), .int (V 0 37), .int (V 0 38), .int (V 0 39), .int (V 0 40), .int (V 0 41), .int (V 0 42), .int (V 0 43), .int (V 0 44), .ref (A 45), .ref (A 46), .ref (A 47), .ref (A 48), .long (L 49)]
/-- the reference's cells: 0 the object, k the array of its field k -/
def mw (E : EvT) (A : Nat → Nat) (V : Nat → Nat → Int32) (L : Nat → Int64) : va_W := [(A 0, .inr (5, mfs A V L)),
  (A 3, .inl (E.2.1, 3, .inl (V 3))),
  (A 4, .inl (E.2.1, 9, .inl (V 4))),
  (A 11, .inl (E.2.1, 6, .inl (V 11))),
  (A 12, .inl (E.2.1, 6, .inl (V 12))),
  (A 14, .inl (E.2.2.1, 20, .inl (V 14))),
  (A 22, .inl (E.2.1, 2187, .inl (V 22))),
  (A 24, .inl (E.2.1, 8, .inl (V 24))),
  (A 25, .inl (E.2.1, 8, .inl (V 25))),
  (A 26, .inl (E.2.1, 8, .inl (V 26))),
  (A 27, .inl (E.2.1, 8, .inl (V 27))),
  (A 28, .inl (E.2.1, 8, .inl (V 28))),
  (A 29, .inl (E.2.1, 8, .inl (V 29))),
  (A 30, .inl (E.2.1, 24, .inl (V 30))),
  (A 31, .inl (E.2.1, 24, .inl (V 31))),
  (A 32, .inl (E.2.1, 24, .inl (V 32))),
  (A 33, .inl (E.2.1, 24, .inl (V 33))),
  (A 34, .inl (E.2.1, 8, .inl (V 34))),
  (A 35, .inl (E.2.1, 8, .inl (V 35))),
  (A 45, .inl (E.2.1, 8, .inl (V 45))),
  (A 46, .inl (E.2.1, 3, .inl (V 46))),
  (A 47, .inl (E.2.1, 6, .inl (V 47))),
  (A 48, .inl (E.2.1, 6, .inl (V 48)))]

theorem cw_fst (E : EvT) (A : Nat → Nat) (V V2 : Nat → Nat → Int32) (L L2 : Nat → Int64) : (cw E A V L).map Prod.fst = (cw E A V2 L2).map Prod.fst := rfl
theorem mw_fst (E : EvT) (A : Nat → Nat) (V V2 : Nat → Nat → Int32) (L L2 : Nat → Int64) : (mw E A V L).map Prod.fst = (mw E A V2 L2).map Prod.fst := rfl
def isCirc (j : Nat) : Prop := j = 6 ∨ j = 11 ∨ j = 16
theorem cw_c {j : Nat} (hj : isCirc j) (E : EvT) (A : Nat → Nat) (V : Nat → Nat → Int32) (L : Nat → Int64) : (cw E A V L)[j]? = some (A j, .inr (0, cfs (V j))) := by
  rcases hj with rfl | rfl | rfl <;> rfl
theorem cw_cs {j : Nat} (hj : isCirc j) (E : EvT) (A : Nat → Nat) (V : Nat → Nat → Int32) (L : Nat → Int64) (c : Nat → Int32) : (cw E A V L).set j (A j, .inr (0, cfs c)) = cw E A (setc V j c) L := by
  rcases hj with rfl | rfl | rfl <;> rfl
abbrev FT : Type := (Nat → Nat → Int32) → (Nat → Int64) → va_W
def IF (X : XT) (E : EvT) (Z : Nat → Prop) (F : FT) : ((Nat → Nat → Int32) × (Nat → Int64)) → Heap → List Loc → Prop := fun σ => IW X E Z (F σ.1 σ.2)
def IC (X : XT) (E : EvT) (Z : Nat → Prop) (A : Nat → Nat) (V : Nat → Nat → Int32) (L : Nat → Int64) (j : Nat) : (Nat → Int32) → Heap → List Loc → Prop := fun c => IW X E Z (cw E A (setc V j c) L)
section HP
variable {X : XT} {hd : Cond} {cc : ByteArray} {nL : Nat} {own : String} {fr lo : Nat} {Q : State → Prop} {pc : Nat} {lv : List (Nat × Value)} {st : List Value} {E : EvT} {Z : Nat → Prop} {w : va_W} {H : Heap} {locs : List Loc} {ls : Array Slot}
variable {q ci k N index a n : Nat} {fs : List Value} {v : Value} {Cc ref : String} {T : u_T}
theorem x_get (C : Cx X hd cc nL own fr lo) (K : Ck X E Z) (hin : ∀ z ∈ u_ws Cc T N, z ∈ wA) (hcl : vwCl[ci]? = some (Cc, T, N)) (hk : k < N) (hlk : Cond.fieldLink own index (T k).1 (T k).2.1 (T k).2.2.1 ∈ wA) (he : w[q]? = some (a, .inr (ci, fs))) (hv : fs[k]? = some v) (hdg : decode cc pc = .ok (.getfield index, 3)) (hI : IW X E Z w H locs) (kk : Wx X H locs Q (pc + 3) ls (v :: st)) : Wx X H locs Q pc ls (.ref a :: st) :=
  va_get (ci := ci) (v := v) (C := Cc) (T := T) (N := N) C.1 C.2.1 C.2.2.2.2.1 (fun z h => List.mem_cons_of_mem _ (hin z h)) C.2.2.2.1 K.1 hI.1 q he hcl k hk (C.2.2.2.2.1 _ (List.mem_cons_of_mem _ hlk)) (fun _ h => h) hv hdg kk
theorem x_getN (C : Cx X hd cc nL own fr lo) (K : Ck X E Z) (hin : ∀ z ∈ u_ws Cc T N, z ∈ wA) (hcl : vwCl[ci]? = some (Cc, T, N)) (hk : k < N) (hlk : (own, index, (T k).1, (T k).2.1, (T k).2.2.1) ∈ nstF) (he : w[q]? = some (a, .inr (ci, fs))) (hv : fs[k]? = some v) (hdg : decode cc pc = .ok (.getfield index, 3)) (hI : IW X E Z w H locs) (kk : Wx X H locs Q (pc + 3) ls (v :: st)) : Wx X H locs Q pc ls (.ref a :: st) :=
  va_getN (host := "CountOut") (ci := ci) (v := v) (C := Cc) (T := T) (N := N) C.1 C.2.1 C.2.2.2.2.1 (fun z h => List.mem_cons_of_mem _ (hin z h)) C.2.2.2.1 K.1 hI.1 q he hcl k hk (va_Nw.use rfl (K.2.1 _ hlk)) (fun _ h => h) hv hdg kk
theorem x_put (C : Cx X hd cc nL own fr lo) (K : Ck X E Z) (hin : ∀ z ∈ u_ws Cc T N, z ∈ wA) (ty0 : Nat → FieldType) (hty : ∀ k, k < N → parseFieldDescriptor (T k).2.2.1 = some (ty0 k)) (hnm : ∀ a, a < N → ∀ b, b < N → a ≠ b → (T a).2.1 ≠ (T b).2.1) (hcl : vwCl[ci]? = some (Cc, T, N)) (hk : k < N) (hlk : Cond.fieldLink own index (T k).1 (T k).2.1 (T k).2.2.1 ∈ wA) (hfin : (T k).2.2.2 = false) (he : w[q]? = some (a, .inr (ci, fs))) (hl2 : k < fs.length) {w2 : va_W} (hw : w.set q (a, .inr (ci, fs.set k v)) = w2) (hn : narrow (ty0 k) v = v) (hfit : fits (ty0 k) v = true) (hdg : decode cc pc = .ok (.putfield index, 3)) (hI : IW X E Z w H locs) (kk : ∀ (H1 : Heap) (locs1 : List Loc), IW X E Z w2 H1 locs1 → Wx X H1 locs1 Q (pc + 3) ls st) : Wx X H locs Q pc ls (v :: .ref a :: st) := by
  subst hw
  exact va_put (ci := ci) (v := v) (ty := ty0 k) (C := Cc) (T := T) (N := N) C.1 C.2.1 C.2.2.2.2.1 (fun z h => List.mem_cons_of_mem _ (hin z h)) ty0 hty hnm C.2.2.2.1 K.1 hI.1 hI.2.1 hI.2.2 q he hcl k hk (C.2.2.2.2.1 _ (List.mem_cons_of_mem _ hlk)) (fun _ h => h) hfin (hty k hk) hn hfit hl2 hdg (fun H1 locs1 h1 h2 h3 => kk H1 locs1 ⟨h1, h2, h3⟩)
theorem x_putN (C : Cx X hd cc nL own fr lo) (K : Ck X E Z) (hin : ∀ z ∈ u_ws Cc T N, z ∈ wA) (ty0 : Nat → FieldType) (hty : ∀ k, k < N → parseFieldDescriptor (T k).2.2.1 = some (ty0 k)) (hnm : ∀ a, a < N → ∀ b, b < N → a ≠ b → (T a).2.1 ≠ (T b).2.1) (hcl : vwCl[ci]? = some (Cc, T, N)) (hk : k < N) (hlk : (own, index, (T k).1, (T k).2.1, (T k).2.2.1) ∈ nstF) (hfin : (T k).2.2.2 = false) (he : w[q]? = some (a, .inr (ci, fs))) (hl2 : k < fs.length) {w2 : va_W} (hw : w.set q (a, .inr (ci, fs.set k v)) = w2) (hn : narrow (ty0 k) v = v) (hfit : fits (ty0 k) v = true) (hdg : decode cc pc = .ok (.putfield index, 3)) (hI : IW X E Z w H locs) (kk : ∀ (H1 : Heap) (locs1 : List Loc), IW X E Z w2 H1 locs1 → Wx X H1 locs1 Q (pc + 3) ls st) : Wx X H locs Q pc ls (v :: .ref a :: st) := by
  subst hw
  exact va_putN (host := "CountOut") (ci := ci) (v := v) (ty := ty0 k) (C := Cc) (T := T) (N := N) C.1 C.2.1 C.2.2.2.2.1 (fun z h => List.mem_cons_of_mem _ (hin z h)) ty0 hty hnm C.2.2.2.1 K.1 hI.1 hI.2.1 hI.2.2 q he hcl k hk (va_Nw.use rfl (K.2.1 _ hlk)) (fun _ h => h) hfin (hty k hk) hn hfit hl2 hdg (fun H1 locs1 h1 h2 h3 => kk H1 locs1 ⟨h1, h2, h3⟩)
variable {F : FT} {V : Nat → Nat → Int32} {L : Nat → Int64} {j : Nat} {i x : Int32} {α : Type} {o : α}
theorem s_iald (C : Cx X hd cc nL own fr lo) (K : Ck X E Z) (he : (F V L)[q]? = some (a, .inl (E.2.1, n, .inl (V j)))) (hdg : decode cc pc = .ok (.iaload, 1)) {k : Option α} (hf : (if ib i n = true then k else none) = some o) (kk : k = some o → Wm X nL (IF X E Z F) Q (pc + 1) lv (.int (V j i.toNatClampNeg) :: st) (V, L)) : Wm X nL (IF X E Z F) Q pc lv (.int i :: .ref a :: st) (V, L) :=
  gd_if hf fun h hf H locs ls hI hl => va_iald C.1 C.2.1 K.1 hI.1 q 0 he rfl (ib_in h) hdg (kk hf H locs ls hI hl)
theorem s_bald (C : Cx X hd cc nL own fr lo) (K : Ck X E Z) (he : (F V L)[q]? = some (a, .inl (E.2.2.1, n, .inl (V j)))) (hdg : decode cc pc = .ok (.baload, 1)) {k : Option α} (hf : (if ib i n = true then k else none) = some o) (kk : k = some o → Wm X nL (IF X E Z F) Q (pc + 1) lv (.int (V j i.toNatClampNeg) :: st) (V, L)) : Wm X nL (IF X E Z F) Q pc lv (.int i :: .ref a :: st) (V, L) :=
  gd_if hf fun h hf H locs ls hI hl => va_bald C.1 C.2.1 K.1 hI.1 q 1 he rfl (ib_in h) hdg (kk hf H locs ls hI hl)
theorem s_iast (C : Cx X hd cc nL own fr lo) (K : Ck X E Z) (he : (F V L)[q]? = some (a, .inl (E.2.1, n, .inl (V j)))) (hw : ∀ z : Nat, (F V L).set q (a, .inl (E.2.1, n, .inl (upd (V j) z x))) = F (up2 V j z x) L) (hdg : decode cc pc = .ok (.iastore, 1)) {k : (Nat → Nat → Int32) → Option α} (hf : (if ib i n = true then bnd (up2 V j i.toNatClampNeg x) k else none) = some o) (kk : ∀ V2, k V2 = some o → Wm X nL (IF X E Z F) Q (pc + 1) lv st (V2, L)) : Wm X nL (IF X E Z F) Q pc lv (.int x :: .int i :: .ref a :: st) (V, L) :=
  gd_if hf fun h hf H locs ls hI hl => va_iast C.1 C.2.1 K.1 hI.1 hI.2.1 hI.2.2 q 0 he rfl (ib_in h) hdg (fun H1 locs1 h1 h2 h3 => kk _ hf H1 locs1 ls ⟨by rw [hw] at h1; exact h1, by rw [hw] at h2; exact h2, h3⟩ hl)
theorem s_bast (C : Cx X hd cc nL own fr lo) (K : Ck X E Z) (he : (F V L)[q]? = some (a, .inl (E.2.2.1, n, .inl (V j)))) (hw : ∀ (z : Nat) (x : Int32), (F V L).set q (a, .inl (E.2.2.1, n, .inl (upd (V j) z x))) = F (up2 V j z x) L) (hdg : decode cc pc = .ok (.bastore, 1)) {k : (Nat → Nat → Int32) → Option α} (hf : (if ib i n = true then bnd (up2 V j i.toNatClampNeg (vp_nar .byte x)) k else none) = some o) (kk : ∀ V2, k V2 = some o → Wm X nL (IF X E Z F) Q (pc + 1) lv st (V2, L)) : Wm X nL (IF X E Z F) Q pc lv (.int x :: .int i :: .ref a :: st) (V, L) :=
  gd_if hf fun h hf H locs ls hI hl => va_bast C.1 C.2.1 K.1 hI.1 hI.2.1 hI.2.2 q 1 he rfl (ib_in h) hdg (fun H1 locs1 h1 h2 h3 => kk _ hf H1 locs1 ls ⟨by rw [hw] at h1; exact h1, by rw [hw] at h2; exact h2, h3⟩ hl)
theorem s_alen (C : Cx X hd cc nL own fr lo) (K : Ck X E Z) (he : (F V L)[q]? = some (a, .inl (E.2.1, n, .inl (V j)))) {r : Int32} (hr : Int32.ofNat n = r) (hdg : decode cc pc = .ok (.arraylength, 1)) (kk : Wm X nL (IF X E Z F) Q (pc + 1) lv (.int r :: st) (V, L)) : Wm X nL (IF X E Z F) Q pc lv (.ref a :: st) (V, L) :=
  fun H locs ls hI hl => va_alen C.1 C.2.1 K.1 hI.1 q 0 he (ty := .int) rfl hr hdg (kk H locs ls hI hl)
theorem s_copy (C : Cx X hd cc nL own fr lo) (K : Ck X E Z) (hl1 : Cond.methodLink own index arraycopyName ∈ wA) (hl2 : Cond.native arraycopyName ∈ wA) (hl3 : Cond.static arraycopyName ∈ wA) (hl4 : Cond.initialized "java/lang/System" ∈ wA) (hfr : 1 ≤ fr) (hlo : (st.map fun v => v.category).sum + (nativeFrameWords "java/lang/System" "arraycopy" 5 + 11) ≤ lo) {q1 j1 a1 n1 : Nat} (he : (F V L)[q]? = some (a, .inl (E.2.1, n, .inl (V j)))) (he1 : (F V L)[q1]? = some (a1, .inl (E.2.1, n1, .inl (V j1)))) (hw : ∀ g : Nat → Int32, (F V L).set q1 (a1, .inl (E.2.1, n1, .inl g)) = F (setc V j1 g) L) {sp dp m : Int32} (h1 : ¬ sp < 0) (h2 : ¬ dp < 0) (h3 : ¬ m < 0) (h4 : sp.toNatClampNeg + m.toNatClampNeg ≤ n) (h5 : dp.toNatClampNeg + m.toNatClampNeg ≤ n1) (hdg : decode cc pc = .ok (.invokestatic index, 3)) {k : (Nat → Nat → Int32) → α} (hf : bnd (setc V j1 (va_cpy (V j) (V j1) sp.toNatClampNeg dp.toNatClampNeg m.toNatClampNeg)) k = o) (kk : ∀ V2, k V2 = o → Wm X nL (IF X E Z F) Q (pc + 3) lv st (V2, L)) : Wm X nL (IF X E Z F) Q pc lv (.int m :: .int dp :: .ref a1 :: .int sp :: .ref a :: st) (V, L) := by
  have ok : ∀ w ∈ wA, w.before X.2.2.2.2.2.2.1 X.2.2.2.2.1 = true := fun w h => C.2.2.2.2.1 w (List.mem_cons_of_mem _ h)
  exact fun H locs ls hI hl => va_copyi C.1 C.2.1 (by rw [C.2.2.1]; exact hl.1.symm) C.2.2.2.1 (ok _ hl1) (ok _ hl2) (ok _ hl3) (ok _ hl4) K.1 hI.1 hI.2.1 hI.2.2 q q1 0 0 he he1 rfl rfl rfl h1 h2 h3 h4 h5 (fun i _ => rfl) (by rw [C.2.2.2.2.2.1]; exact hfr) (by rw [C.2.2.2.2.2.2]; exact hlo) hdg (fun H1 locs1 g1 g2 g3 => kk _ hf H1 locs1 ls ⟨by rw [hw] at g1; exact g1, by rw [hw] at g2; exact g2, g3⟩ hl)
end HP
end
section

def ishl (x y : Int32) : Int32 := x <<< (y &&& 31)
def ishr (x y : Int32) : Int32 := x >>> (y &&& 31)
def iushr (x y : Int32) : Int32 := (x.toUInt32 >>> (y.toUInt32 &&& Int32.toUInt32 31)).toInt32
def irem (x y : Int32) : Int32 := x - x / y * y
def lrem (x y : Int64) : Int64 := x - x / y * y
def lshl (x : Int64) (y : Int32) : Int64 := x <<< (y.toInt64 &&& 63)
def i2c (x : Int32) : Int32 := (x.toUInt32 % 65536).toInt32
def i2b (x : Int32) : Int32 := x.toInt8.toInt32
def bd1 {α β : Type} (o : Option β) (k : β → Option α) : Option α := match o with
  | none => none
  | some a => k a
def bd2 {α β γ : Type} (o : Option (β × γ)) (k : β → γ → Option α) : Option α := match o with
  | none => none
  | some (a, b) => k a b
def bd3 {α β γ δ : Type} (o : Option (β × γ × δ)) (k : β → γ → δ → Option α) : Option α := match o with
  | none => none
  | some (a, b, c) => k a b c
theorem bd1_e {α β : Type} {o : Option β} {k : β → Option α} {z : α} {P : Prop} (hf : bd1 o k = some z) (kk : ∀ a, o = some a → k a = some z → P) : P := by
  cases o with
  | none => cases hf
  | some a => exact kk a rfl hf
theorem bd2_e {α β γ : Type} {o : Option (β × γ)} {k : β → γ → Option α} {z : α} {P : Prop} (hf : bd2 o k = some z) (kk : ∀ a b, o = some (a, b) → k a b = some z → P) : P := by
  cases o with
  | none => cases hf
  | some a => exact kk a.1 a.2 rfl hf
theorem bd3_e {α β γ δ : Type} {o : Option (β × γ × δ)} {k : β → γ → δ → Option α} {z : α} {P : Prop} (hf : bd3 o k = some z) (kk : ∀ a b c, o = some (a, b, c) → k a b c = some z → P) : P := by
  cases o with
  | none => cases hf
  | some a => exact kk a.1 a.2.1 a.2.2 rfl hf
theorem none_e {α : Type} {z : α} {P : Prop} (hf : (none : Option α) = some z) : P := by cases hf
section R2
variable {S : Type} {X : XT} {hd : Cond} {cc : ByteArray} {nL : Nat} {own : String} {fr lo : Nat} {I : S → Heap → List Loc → Prop} {Q : State → Prop} {pc : Nat} {lv : List (Nat × Value)} {st : List Value} {σ σ2 : S}
theorem p_ishl (C : Cx X hd cc nL own fr lo) {x y : Int32} (hdg : decode cc pc = .ok (.ishl, 1)) (kk : Wm X nL I Q (pc + 1) lv (.int (ishl x y) :: st) σ) : Wm X nL I Q pc lv (.int y :: .int x :: st) σ := r_ishl C hdg kk
theorem p_ishr (C : Cx X hd cc nL own fr lo) {x y : Int32} (hdg : decode cc pc = .ok (.ishr, 1)) (kk : Wm X nL I Q (pc + 1) lv (.int (ishr x y) :: st) σ) : Wm X nL I Q pc lv (.int y :: .int x :: st) σ := r_ishr C hdg kk
theorem p_iushr (C : Cx X hd cc nL own fr lo) {x y : Int32} (hdg : decode cc pc = .ok (.iushr, 1)) (kk : Wm X nL I Q (pc + 1) lv (.int (iushr x y) :: st) σ) : Wm X nL I Q pc lv (.int y :: .int x :: st) σ := r_iushr C hdg kk
theorem p_irem (C : Cx X hd cc nL own fr lo) {x y : Int32} (hdg : decode cc pc = .ok (.irem, 1)) (hne : ¬ y = 0) (kk : Wm X nL I Q (pc + 1) lv (.int (irem x y) :: st) σ) : Wm X nL I Q pc lv (.int y :: .int x :: st) σ := r_irem C hdg hne kk
theorem p_lrem (C : Cx X hd cc nL own fr lo) {x y : Int64} (hdg : decode cc pc = .ok (.lrem, 1)) (hne : ¬ y = 0) (kk : Wm X nL I Q (pc + 1) lv (.long (lrem x y) :: st) σ) : Wm X nL I Q pc lv (.long y :: .long x :: st) σ := r_lrem C hdg hne kk
theorem p_lshl (C : Cx X hd cc nL own fr lo) {x : Int64} {y : Int32} (hdg : decode cc pc = .ok (.lshl, 1)) (kk : Wm X nL I Q (pc + 1) lv (.long (lshl x y) :: st) σ) : Wm X nL I Q pc lv (.int y :: .long x :: st) σ := r_lshl C hdg kk
theorem p_i2c (C : Cx X hd cc nL own fr lo) {x : Int32} (hdg : decode cc pc = .ok (.i2c, 1)) (kk : Wm X nL I Q (pc + 1) lv (.int (i2c x) :: st) σ) : Wm X nL I Q pc lv (.int x :: st) σ := r_i2c C hdg kk
theorem p_i2b (C : Cx X hd cc nL own fr lo) {x : Int32} (hdg : decode cc pc = .ok (.i2b, 1)) (kk : Wm X nL I Q (pc + 1) lv (.int (i2b x) :: st) σ) : Wm X nL I Q pc lv (.int x :: st) σ := r_i2b C hdg kk
/-- ends -/
def RI (X : XT) (nL : Nat) (cc : ByteArray) (I : S → Heap → List Loc → Prop) (Q : State → Prop) (ty : FieldType) (r : Int32) (σ : S) : Prop := ∀ (pc : Nat) (lv : List (Nat × Value)), decode cc pc = .ok (.ireturn, 1) → narrow ty (.int r) = .int r → Wm X nL I Q pc lv [.int r] σ
def RLo (X : XT) (nL : Nat) (cc : ByteArray) (I : S → Heap → List Loc → Prop) (Q : State → Prop) (r : Int64) (σ : S) : Prop := ∀ (pc : Nat) (lv : List (Nat × Value)), decode cc pc = .ok (.lreturn, 1) → Wm X nL I Q pc lv [.long r] σ
def RV (X : XT) (nL : Nat) (cc : ByteArray) (I : S → Heap → List Loc → Prop) (Q : State → Prop) (σ : S) : Prop := ∀ (pc : Nat) (lv : List (Nat × Value)), decode cc pc = .ok (.return_, 1) → Wm X nL I Q pc lv [] σ
theorem ri_OW {ty : FieldType} {r v : Int32} (h : RI X nL cc I Q ty r σ2) (hf : some (v, σ) = some (r, σ2)) (hdg : decode cc pc = .ok (.ireturn, 1)) (hn : narrow ty (.int v) = .int v) : Wm X nL I Q pc lv [.int v] σ := by
  cases hf
  exact h _ _ hdg hn
theorem ri_OR {ty : FieldType} {r v : Int32} (h : RI X nL cc I Q ty r σ) (hf : some v = some r) (hdg : decode cc pc = .ok (.ireturn, 1)) (hn : narrow ty (.int v) = .int v) : Wm X nL I Q pc lv [.int v] σ := by
  cases hf
  exact h _ _ hdg hn
theorem ri_T {ty : FieldType} {r v : Int32} (h : RI X nL cc I Q ty r σ) (hf : v = r) (hdg : decode cc pc = .ok (.ireturn, 1)) (hn : narrow ty (.int v) = .int v) : Wm X nL I Q pc lv [.int v] σ := by
  cases hf
  exact h _ _ hdg hn
theorem rl_OW {r v : Int64} (h : RLo X nL cc I Q r σ2) (hf : some (v, σ) = some (r, σ2)) (hdg : decode cc pc = .ok (.lreturn, 1)) : Wm X nL I Q pc lv [.long v] σ := by
  cases hf
  exact h _ _ hdg
theorem rl_OR {r v : Int64} (h : RLo X nL cc I Q r σ) (hf : some v = some r) (hdg : decode cc pc = .ok (.lreturn, 1)) : Wm X nL I Q pc lv [.long v] σ := by
  cases hf
  exact h _ _ hdg
theorem rl_T {r v : Int64} (h : RLo X nL cc I Q r σ) (hf : v = r) (hdg : decode cc pc = .ok (.lreturn, 1)) : Wm X nL I Q pc lv [.long v] σ := by
  cases hf
  exact h _ _ hdg
theorem rv_OV (h : RV X nL cc I Q σ2) (hf : some σ = some σ2) (hdg : decode cc pc = .ok (.return_, 1)) : Wm X nL I Q pc lv [] σ := by
  cases hf
  exact h _ _ hdg
theorem rv_TW (h : RV X nL cc I Q σ2) (hf : σ = σ2) (hdg : decode cc pc = .ok (.return_, 1)) : Wm X nL I Q pc lv [] σ := by
  cases hf
  exact h _ _ hdg
end R2
section CR
variable {X : XT} {hd : Cond} {cc : ByteArray} {nL : Nat} {own : String} {fr lo : Nat} {Q : State → Prop} {pc : Nat} {lv : List (Nat × Value)} {st rest : List Value} {E : EvT} {Z : Nat → Prop} {F : FT} {V V2 : Nat → Nat → Int32} {L L2 : Nat → Int64} {A : Nat → Nat} {j : Nat} {c c2 : Nat → Int32}
variable {y : MethodName} {bytes : ByteArray} {mL n idx : Nat} {rt : Option FieldType} {Cc : String} {rm : Room} {b : Nat} {As : List Value} {q ci N : Nat} {fs : List Value} {T : u_T}
theorem f_callI (C : Cx X hd cc nL own fr lo) (K : Ck X E Z) (cal : Cal own idx Cc y bytes mL rt n) (hrm : Rmf rm mL fr lo) {r : Int32} (hM : KI X.2.1 y (.code y bytes mL rt :: wA) rm E (F V L) (F V2 L2) (.ref b :: As) r) (he : (F V L)[q]? = some (b, .inr (ci, fs))) (hcl : vwCl[ci]? = some (Cc, T, N)) (hfst : (F V L).map Prod.fst = (F V2 L2).map Prod.fst) (hn : As.length = n) (hst : st = As.reverse ++ .ref b :: rest) (hrest : (rest.map fun v => v.category).sum ≤ 8) (hdg : decode cc pc = .ok (.invokevirtual idx, 3)) (kk : Wm X nL (IF X E Z F) Q (pc + 3) lv (.int r :: rest) (V2, L2)) : Wm X nL (IF X E Z F) Q pc lv st (V, L) :=
  fun H locs ls hI hl => call_I C K cal hrm hM he hcl hfst hn hst hrest hdg hI hl (fun H1 l1 h => kk H1 l1 ls h hl)
theorem f_callL (C : Cx X hd cc nL own fr lo) (K : Ck X E Z) (cal : Cal own idx Cc y bytes mL rt n) (hrm : Rmf rm mL fr lo) {r : Int64} (hM : KL X.2.1 y (.code y bytes mL rt :: wA) rm E (F V L) (F V2 L2) (.ref b :: As) r) (he : (F V L)[q]? = some (b, .inr (ci, fs))) (hcl : vwCl[ci]? = some (Cc, T, N)) (hfst : (F V L).map Prod.fst = (F V2 L2).map Prod.fst) (hn : As.length = n) (hst : st = As.reverse ++ .ref b :: rest) (hrest : (rest.map fun v => v.category).sum ≤ 8) (hdg : decode cc pc = .ok (.invokevirtual idx, 3)) (kk : Wm X nL (IF X E Z F) Q (pc + 3) lv (.long r :: rest) (V2, L2)) : Wm X nL (IF X E Z F) Q pc lv st (V, L) :=
  fun H locs ls hI hl => call_L C K cal hrm hM he hcl hfst hn hst hrest hdg hI hl (fun H1 l1 h => kk H1 l1 ls h hl)
theorem f_callV (C : Cx X hd cc nL own fr lo) (K : Ck X E Z) (cal : Cal own idx Cc y bytes mL rt n) (hrm : Rmf rm mL fr lo) (hM : KV X.2.1 y (.code y bytes mL rt :: wA) rm E (F V L) (F V2 L2) (.ref b :: As)) (he : (F V L)[q]? = some (b, .inr (ci, fs))) (hcl : vwCl[ci]? = some (Cc, T, N)) (hfst : (F V L).map Prod.fst = (F V2 L2).map Prod.fst) (hn : As.length = n) (hst : st = As.reverse ++ .ref b :: rest) (hrest : (rest.map fun v => v.category).sum ≤ 8) (hdg : decode cc pc = .ok (.invokevirtual idx, 3)) (kk : Wm X nL (IF X E Z F) Q (pc + 3) lv rest (V2, L2)) : Wm X nL (IF X E Z F) Q pc lv st (V, L) :=
  fun H locs ls hI hl => call_V C K cal hrm hM he hcl hfst hn hst hrest hdg hI hl (fun H1 l1 h => kk H1 l1 ls h hl)
/-- a circle calls itself -/
theorem c_callI (C : Cx X hd cc nL own fr lo) (K : Ck X E Z) (hj : isCirc j) (cal : Cal own idx RX0 y bytes mL rt n) (hrm : Rmf rm mL fr lo) {r : Int32} (hM : KI X.2.1 y (.code y bytes mL rt :: wA) rm E (cw E A (setc V j c) L) (cw E A (setc V j c2) L) (.ref (A j) :: As) r) (hn : As.length = n) (hst : st = As.reverse ++ .ref (A j) :: rest) (hrest : (rest.map fun v => v.category).sum ≤ 8) (hdg : decode cc pc = .ok (.invokevirtual idx, 3)) (kk : Wm X nL (IC X E Z A V L j) Q (pc + 3) lv (.int r :: rest) c2) : Wm X nL (IC X E Z A V L j) Q pc lv st c :=
  fun H locs ls hI hl => call_I C K cal hrm hM (cw_c hj E A (setc V j c) L) rfl (cw_fst _ _ _ _ _ _) hn hst hrest hdg hI hl (fun H1 l1 h => kk H1 l1 ls h hl)
theorem c_callL (C : Cx X hd cc nL own fr lo) (K : Ck X E Z) (hj : isCirc j) (cal : Cal own idx RX0 y bytes mL rt n) (hrm : Rmf rm mL fr lo) {r : Int64} (hM : KL X.2.1 y (.code y bytes mL rt :: wA) rm E (cw E A (setc V j c) L) (cw E A (setc V j c2) L) (.ref (A j) :: As) r) (hn : As.length = n) (hst : st = As.reverse ++ .ref (A j) :: rest) (hrest : (rest.map fun v => v.category).sum ≤ 8) (hdg : decode cc pc = .ok (.invokevirtual idx, 3)) (kk : Wm X nL (IC X E Z A V L j) Q (pc + 3) lv (.long r :: rest) c2) : Wm X nL (IC X E Z A V L j) Q pc lv st c :=
  fun H locs ls hI hl => call_L C K cal hrm hM (cw_c hj E A (setc V j c) L) rfl (cw_fst _ _ _ _ _ _) hn hst hrest hdg hI hl (fun H1 l1 h => kk H1 l1 ls h hl)
theorem c_callV (C : Cx X hd cc nL own fr lo) (K : Ck X E Z) (hj : isCirc j) (cal : Cal own idx RX0 y bytes mL rt n) (hrm : Rmf rm mL fr lo) (hM : KV X.2.1 y (.code y bytes mL rt :: wA) rm E (cw E A (setc V j c) L) (cw E A (setc V j c2) L) (.ref (A j) :: As)) (hn : As.length = n) (hst : st = As.reverse ++ .ref (A j) :: rest) (hrest : (rest.map fun v => v.category).sum ≤ 8) (hdg : decode cc pc = .ok (.invokevirtual idx, 3)) (kk : Wm X nL (IC X E Z A V L j) Q (pc + 3) lv rest c2) : Wm X nL (IC X E Z A V L j) Q pc lv st c :=
  fun H locs ls hI hl => call_V C K cal hrm hM (cw_c hj E A (setc V j c) L) rfl (cw_fst _ _ _ _ _ _) hn hst hrest hdg hI hl (fun H1 l1 h => kk H1 l1 ls h hl)
/-- another object calls the circle at j -/
theorem s_callI (C : Cx X hd cc nL own fr lo) (K : Ck X E Z) (hj : isCirc j) (cal : Cal own idx RX0 y bytes mL rt n) (hrm : Rmf rm mL fr lo) {r : Int32} (hM : KI X.2.1 y (.code y bytes mL rt :: wA) rm E (cw E A (setc V j (V j)) L) (cw E A V2 L) (.ref (A j) :: As) r) (hn : As.length = n) (hst : st = As.reverse ++ .ref (A j) :: rest) (hrest : (rest.map fun v => v.category).sum ≤ 8) (hdg : decode cc pc = .ok (.invokevirtual idx, 3)) (kk : Wm X nL (IF X E Z (cw E A)) Q (pc + 3) lv (.int r :: rest) (V2, L)) : Wm X nL (IF X E Z (cw E A)) Q pc lv st (V, L) := by
  rw [setc_self] at hM
  exact fun H locs ls hI hl => call_I C K cal hrm hM (cw_c hj E A V L) rfl (cw_fst _ _ _ _ _ _) hn hst hrest hdg hI hl (fun H1 l1 h => kk H1 l1 ls h hl)
theorem s_callL (C : Cx X hd cc nL own fr lo) (K : Ck X E Z) (hj : isCirc j) (cal : Cal own idx RX0 y bytes mL rt n) (hrm : Rmf rm mL fr lo) {r : Int64} (hM : KL X.2.1 y (.code y bytes mL rt :: wA) rm E (cw E A (setc V j (V j)) L) (cw E A V2 L) (.ref (A j) :: As) r) (hn : As.length = n) (hst : st = As.reverse ++ .ref (A j) :: rest) (hrest : (rest.map fun v => v.category).sum ≤ 8) (hdg : decode cc pc = .ok (.invokevirtual idx, 3)) (kk : Wm X nL (IF X E Z (cw E A)) Q (pc + 3) lv (.long r :: rest) (V2, L)) : Wm X nL (IF X E Z (cw E A)) Q pc lv st (V, L) := by
  rw [setc_self] at hM
  exact fun H locs ls hI hl => call_L C K cal hrm hM (cw_c hj E A V L) rfl (cw_fst _ _ _ _ _ _) hn hst hrest hdg hI hl (fun H1 l1 h => kk H1 l1 ls h hl)
theorem s_callV (C : Cx X hd cc nL own fr lo) (K : Ck X E Z) (hj : isCirc j) (cal : Cal own idx RX0 y bytes mL rt n) (hrm : Rmf rm mL fr lo) (hM : KV X.2.1 y (.code y bytes mL rt :: wA) rm E (cw E A (setc V j (V j)) L) (cw E A V2 L) (.ref (A j) :: As)) (hn : As.length = n) (hst : st = As.reverse ++ .ref (A j) :: rest) (hrest : (rest.map fun v => v.category).sum ≤ 8) (hdg : decode cc pc = .ok (.invokevirtual idx, 3)) (kk : Wm X nL (IF X E Z (cw E A)) Q (pc + 3) lv rest (V2, L)) : Wm X nL (IF X E Z (cw E A)) Q pc lv st (V, L) := by
  rw [setc_self] at hM
  exact fun H locs ls hI hl => call_V C K cal hrm hM (cw_c hj E A V L) rfl (cw_fst _ _ _ _ _ _) hn hst hrest hdg hI hl (fun H1 l1 h => kk H1 l1 ls h hl)
end CR
theorem jc6 : isCirc 6 := Or.inl rfl
theorem jc11 : isCirc 11 := Or.inr (Or.inl rfl)
theorem jc16 : isCirc 16 := Or.inr (Or.inr rfl)

theorem cw_o0 (E : EvT) (A : Nat → Nat) (V : Nat → Nat → Int32) (L : Nat → Int64) : (cw E A V L)[0]? = some (A 0, .inr (4, [.ref (A 1), .ref (A 5), .ref (A 10), .ref (A 15), .int (V 0 4), .int (V 0 5)])) := rfl
theorem cw_o1 (E : EvT) (A : Nat → Nat) (V : Nat → Nat → Int32) (L : Nat → Int64) : (cw E A V L)[1]? = some (A 1, .inr (2, [.ref (A 2), .int (V 1 1), .int (V 1 2), .int (V 1 3), .ref (A 3), .int (V 1 5), .ref (A 4), .int (V 1 7)])) := rfl
theorem cw_a2 (E : EvT) (A : Nat → Nat) (V : Nat → Nat → Int32) (L : Nat → Int64) : (cw E A V L)[2]? = some (A 2, .inl (E.2.1, 20, .inl (V 2))) := rfl
theorem cw_s2 (E : EvT) (A : Nat → Nat) (V : Nat → Nat → Int32) (L : Nat → Int64) (g : Nat → Int32) : (cw E A V L).set 2 (A 2, .inl (E.2.1, 20, .inl g)) = cw E A (setc V 2 g) L := rfl
theorem cw_a3 (E : EvT) (A : Nat → Nat) (V : Nat → Nat → Int32) (L : Nat → Int64) : (cw E A V L)[3]? = some (A 3, .inl (E.2.1, 3, .inl (V 3))) := rfl
theorem cw_s3 (E : EvT) (A : Nat → Nat) (V : Nat → Nat → Int32) (L : Nat → Int64) (g : Nat → Int32) : (cw E A V L).set 3 (A 3, .inl (E.2.1, 3, .inl g)) = cw E A (setc V 3 g) L := rfl
theorem cw_a4 (E : EvT) (A : Nat → Nat) (V : Nat → Nat → Int32) (L : Nat → Int64) : (cw E A V L)[4]? = some (A 4, .inl (E.2.1, 8, .inl (V 4))) := rfl
theorem cw_s4 (E : EvT) (A : Nat → Nat) (V : Nat → Nat → Int32) (L : Nat → Int64) (g : Nat → Int32) : (cw E A V L).set 4 (A 4, .inl (E.2.1, 8, .inl g)) = cw E A (setc V 4 g) L := rfl
theorem cw_o5 (E : EvT) (A : Nat → Nat) (V : Nat → Nat → Int32) (L : Nat → Int64) : (cw E A V L)[5]? = some (A 5, .inr (3, [.ref (A 6), .ref (A 7), .int (V 5 2), .int (V 5 3), .ref (A 8), .ref (A 9), .int (V 5 6)])) := rfl
theorem cw_o6 (E : EvT) (A : Nat → Nat) (V : Nat → Nat → Int32) (L : Nat → Int64) : (cw E A V L)[6]? = some (A 6, .inr (0, cfs (V 6))) := rfl
theorem cw_a7 (E : EvT) (A : Nat → Nat) (V : Nat → Nat → Int32) (L : Nat → Int64) : (cw E A V L)[7]? = some (A 7, .inl (E.2.1, 3, .inl (V 7))) := rfl
theorem cw_s7 (E : EvT) (A : Nat → Nat) (V : Nat → Nat → Int32) (L : Nat → Int64) (g : Nat → Int32) : (cw E A V L).set 7 (A 7, .inl (E.2.1, 3, .inl g)) = cw E A (setc V 7 g) L := rfl
theorem cw_a8 (E : EvT) (A : Nat → Nat) (V : Nat → Nat → Int32) (L : Nat → Int64) : (cw E A V L)[8]? = some (A 8, .inl (E.2.1, 6, .inl (V 8))) := rfl
theorem cw_s8 (E : EvT) (A : Nat → Nat) (V : Nat → Nat → Int32) (L : Nat → Int64) (g : Nat → Int32) : (cw E A V L).set 8 (A 8, .inl (E.2.1, 6, .inl g)) = cw E A (setc V 8 g) L := rfl
theorem cw_a9 (E : EvT) (A : Nat → Nat) (V : Nat → Nat → Int32) (L : Nat → Int64) : (cw E A V L)[9]? = some (A 9, .inl (E.2.1, 6, .inl (V 9))) := rfl
theorem cw_s9 (E : EvT) (A : Nat → Nat) (V : Nat → Nat → Int32) (L : Nat → Int64) (g : Nat → Int32) : (cw E A V L).set 9 (A 9, .inl (E.2.1, 6, .inl g)) = cw E A (setc V 9 g) L := rfl
theorem cw_o10 (E : EvT) (A : Nat → Nat) (V : Nat → Nat → Int32) (L : Nat → Int64) : (cw E A V L)[10]? = some (A 10, .inr (3, [.ref (A 11), .ref (A 12), .int (V 10 2), .int (V 10 3), .ref (A 13), .ref (A 14), .int (V 10 6)])) := rfl
theorem cw_o11 (E : EvT) (A : Nat → Nat) (V : Nat → Nat → Int32) (L : Nat → Int64) : (cw E A V L)[11]? = some (A 11, .inr (0, cfs (V 11))) := rfl
theorem cw_a12 (E : EvT) (A : Nat → Nat) (V : Nat → Nat → Int32) (L : Nat → Int64) : (cw E A V L)[12]? = some (A 12, .inl (E.2.1, 3, .inl (V 12))) := rfl
theorem cw_s12 (E : EvT) (A : Nat → Nat) (V : Nat → Nat → Int32) (L : Nat → Int64) (g : Nat → Int32) : (cw E A V L).set 12 (A 12, .inl (E.2.1, 3, .inl g)) = cw E A (setc V 12 g) L := rfl
theorem cw_a13 (E : EvT) (A : Nat → Nat) (V : Nat → Nat → Int32) (L : Nat → Int64) : (cw E A V L)[13]? = some (A 13, .inl (E.2.1, 6, .inl (V 13))) := rfl
theorem cw_s13 (E : EvT) (A : Nat → Nat) (V : Nat → Nat → Int32) (L : Nat → Int64) (g : Nat → Int32) : (cw E A V L).set 13 (A 13, .inl (E.2.1, 6, .inl g)) = cw E A (setc V 13 g) L := rfl
theorem cw_a14 (E : EvT) (A : Nat → Nat) (V : Nat → Nat → Int32) (L : Nat → Int64) : (cw E A V L)[14]? = some (A 14, .inl (E.2.1, 6, .inl (V 14))) := rfl
theorem cw_s14 (E : EvT) (A : Nat → Nat) (V : Nat → Nat → Int32) (L : Nat → Int64) (g : Nat → Int32) : (cw E A V L).set 14 (A 14, .inl (E.2.1, 6, .inl g)) = cw E A (setc V 14 g) L := rfl
theorem cw_o15 (E : EvT) (A : Nat → Nat) (V : Nat → Nat → Int32) (L : Nat → Int64) : (cw E A V L)[15]? = some (A 15, .inr (1, [.ref (A 5), .ref (A 16), .ref (A 17), .long (L 3), .ref (A 18), .long (L 5), .ref (A 19), .int (V 15 7)])) := rfl
theorem cw_o16 (E : EvT) (A : Nat → Nat) (V : Nat → Nat → Int32) (L : Nat → Int64) : (cw E A V L)[16]? = some (A 16, .inr (0, cfs (V 16))) := rfl
theorem cw_a17 (E : EvT) (A : Nat → Nat) (V : Nat → Nat → Int32) (L : Nat → Int64) : (cw E A V L)[17]? = some (A 17, .inl (E.2.1, 61, .inl (V 17))) := rfl
theorem cw_s17 (E : EvT) (A : Nat → Nat) (V : Nat → Nat → Int32) (L : Nat → Int64) (g : Nat → Int32) : (cw E A V L).set 17 (A 17, .inl (E.2.1, 61, .inl g)) = cw E A (setc V 17 g) L := rfl
theorem cw_a18 (E : EvT) (A : Nat → Nat) (V : Nat → Nat → Int32) (L : Nat → Int64) : (cw E A V L)[18]? = some (A 18, .inl (E.2.1, 8, .inl (V 18))) := rfl
theorem cw_s18 (E : EvT) (A : Nat → Nat) (V : Nat → Nat → Int32) (L : Nat → Int64) (g : Nat → Int32) : (cw E A V L).set 18 (A 18, .inl (E.2.1, 8, .inl g)) = cw E A (setc V 18 g) L := rfl
theorem cw_a19 (E : EvT) (A : Nat → Nat) (V : Nat → Nat → Int32) (L : Nat → Int64) : (cw E A V L)[19]? = some (A 19, .inl (E.2.1, 8, .inl (V 19))) := rfl
theorem cw_s19 (E : EvT) (A : Nat → Nat) (V : Nat → Nat → Int32) (L : Nat → Int64) (g : Nat → Int32) : (cw E A V L).set 19 (A 19, .inl (E.2.1, 8, .inl g)) = cw E A (setc V 19 g) L := rfl
theorem mw_o0 (E : EvT) (A : Nat → Nat) (V : Nat → Nat → Int32) (L : Nat → Int64) : (mw E A V L)[0]? = some (A 0, .inr (5, mfs A V L)) := rfl
theorem mw_a3 (E : EvT) (A : Nat → Nat) (V : Nat → Nat → Int32) (L : Nat → Int64) : (mw E A V L)[1]? = some (A 3, .inl (E.2.1, 3, .inl (V 3))) := rfl
theorem mw_s3 (E : EvT) (A : Nat → Nat) (V : Nat → Nat → Int32) (L : Nat → Int64) (g : Nat → Int32) : (mw E A V L).set 1 (A 3, .inl (E.2.1, 3, .inl g)) = mw E A (setc V 3 g) L := rfl
theorem mw_a4 (E : EvT) (A : Nat → Nat) (V : Nat → Nat → Int32) (L : Nat → Int64) : (mw E A V L)[2]? = some (A 4, .inl (E.2.1, 9, .inl (V 4))) := rfl
theorem mw_s4 (E : EvT) (A : Nat → Nat) (V : Nat → Nat → Int32) (L : Nat → Int64) (g : Nat → Int32) : (mw E A V L).set 2 (A 4, .inl (E.2.1, 9, .inl g)) = mw E A (setc V 4 g) L := rfl
theorem mw_a11 (E : EvT) (A : Nat → Nat) (V : Nat → Nat → Int32) (L : Nat → Int64) : (mw E A V L)[3]? = some (A 11, .inl (E.2.1, 6, .inl (V 11))) := rfl
theorem mw_s11 (E : EvT) (A : Nat → Nat) (V : Nat → Nat → Int32) (L : Nat → Int64) (g : Nat → Int32) : (mw E A V L).set 3 (A 11, .inl (E.2.1, 6, .inl g)) = mw E A (setc V 11 g) L := rfl
theorem mw_a12 (E : EvT) (A : Nat → Nat) (V : Nat → Nat → Int32) (L : Nat → Int64) : (mw E A V L)[4]? = some (A 12, .inl (E.2.1, 6, .inl (V 12))) := rfl
theorem mw_s12 (E : EvT) (A : Nat → Nat) (V : Nat → Nat → Int32) (L : Nat → Int64) (g : Nat → Int32) : (mw E A V L).set 4 (A 12, .inl (E.2.1, 6, .inl g)) = mw E A (setc V 12 g) L := rfl
theorem mw_a14 (E : EvT) (A : Nat → Nat) (V : Nat → Nat → Int32) (L : Nat → Int64) : (mw E A V L)[5]? = some (A 14, .inl (E.2.2.1, 20, .inl (V 14))) := rfl
theorem mw_s14 (E : EvT) (A : Nat → Nat) (V : Nat → Nat → Int32) (L : Nat → Int64) (g : Nat → Int32) : (mw E A V L).set 5 (A 14, .inl (E.2.2.1, 20, .inl g)) = mw E A (setc V 14 g) L := rfl
theorem mw_a22 (E : EvT) (A : Nat → Nat) (V : Nat → Nat → Int32) (L : Nat → Int64) : (mw E A V L)[6]? = some (A 22, .inl (E.2.1, 2187, .inl (V 22))) := rfl
theorem mw_s22 (E : EvT) (A : Nat → Nat) (V : Nat → Nat → Int32) (L : Nat → Int64) (g : Nat → Int32) : (mw E A V L).set 6 (A 22, .inl (E.2.1, 2187, .inl g)) = mw E A (setc V 22 g) L := rfl
theorem mw_a24 (E : EvT) (A : Nat → Nat) (V : Nat → Nat → Int32) (L : Nat → Int64) : (mw E A V L)[7]? = some (A 24, .inl (E.2.1, 8, .inl (V 24))) := rfl
theorem mw_s24 (E : EvT) (A : Nat → Nat) (V : Nat → Nat → Int32) (L : Nat → Int64) (g : Nat → Int32) : (mw E A V L).set 7 (A 24, .inl (E.2.1, 8, .inl g)) = mw E A (setc V 24 g) L := rfl
theorem mw_a25 (E : EvT) (A : Nat → Nat) (V : Nat → Nat → Int32) (L : Nat → Int64) : (mw E A V L)[8]? = some (A 25, .inl (E.2.1, 8, .inl (V 25))) := rfl
theorem mw_s25 (E : EvT) (A : Nat → Nat) (V : Nat → Nat → Int32) (L : Nat → Int64) (g : Nat → Int32) : (mw E A V L).set 8 (A 25, .inl (E.2.1, 8, .inl g)) = mw E A (setc V 25 g) L := rfl
theorem mw_a26 (E : EvT) (A : Nat → Nat) (V : Nat → Nat → Int32) (L : Nat → Int64) : (mw E A V L)[9]? = some (A 26, .inl (E.2.1, 8, .inl (V 26))) := rfl
theorem mw_s26 (E : EvT) (A : Nat → Nat) (V : Nat → Nat → Int32) (L : Nat → Int64) (g : Nat → Int32) : (mw E A V L).set 9 (A 26, .inl (E.2.1, 8, .inl g)) = mw E A (setc V 26 g) L := rfl
theorem mw_a27 (E : EvT) (A : Nat → Nat) (V : Nat → Nat → Int32) (L : Nat → Int64) : (mw E A V L)[10]? = some (A 27, .inl (E.2.1, 8, .inl (V 27))) := rfl
theorem mw_s27 (E : EvT) (A : Nat → Nat) (V : Nat → Nat → Int32) (L : Nat → Int64) (g : Nat → Int32) : (mw E A V L).set 10 (A 27, .inl (E.2.1, 8, .inl g)) = mw E A (setc V 27 g) L := rfl
theorem mw_a28 (E : EvT) (A : Nat → Nat) (V : Nat → Nat → Int32) (L : Nat → Int64) : (mw E A V L)[11]? = some (A 28, .inl (E.2.1, 8, .inl (V 28))) := rfl
theorem mw_s28 (E : EvT) (A : Nat → Nat) (V : Nat → Nat → Int32) (L : Nat → Int64) (g : Nat → Int32) : (mw E A V L).set 11 (A 28, .inl (E.2.1, 8, .inl g)) = mw E A (setc V 28 g) L := rfl
theorem mw_a29 (E : EvT) (A : Nat → Nat) (V : Nat → Nat → Int32) (L : Nat → Int64) : (mw E A V L)[12]? = some (A 29, .inl (E.2.1, 8, .inl (V 29))) := rfl
theorem mw_s29 (E : EvT) (A : Nat → Nat) (V : Nat → Nat → Int32) (L : Nat → Int64) (g : Nat → Int32) : (mw E A V L).set 12 (A 29, .inl (E.2.1, 8, .inl g)) = mw E A (setc V 29 g) L := rfl
theorem mw_a30 (E : EvT) (A : Nat → Nat) (V : Nat → Nat → Int32) (L : Nat → Int64) : (mw E A V L)[13]? = some (A 30, .inl (E.2.1, 24, .inl (V 30))) := rfl
theorem mw_s30 (E : EvT) (A : Nat → Nat) (V : Nat → Nat → Int32) (L : Nat → Int64) (g : Nat → Int32) : (mw E A V L).set 13 (A 30, .inl (E.2.1, 24, .inl g)) = mw E A (setc V 30 g) L := rfl
theorem mw_a31 (E : EvT) (A : Nat → Nat) (V : Nat → Nat → Int32) (L : Nat → Int64) : (mw E A V L)[14]? = some (A 31, .inl (E.2.1, 24, .inl (V 31))) := rfl
theorem mw_s31 (E : EvT) (A : Nat → Nat) (V : Nat → Nat → Int32) (L : Nat → Int64) (g : Nat → Int32) : (mw E A V L).set 14 (A 31, .inl (E.2.1, 24, .inl g)) = mw E A (setc V 31 g) L := rfl
theorem mw_a32 (E : EvT) (A : Nat → Nat) (V : Nat → Nat → Int32) (L : Nat → Int64) : (mw E A V L)[15]? = some (A 32, .inl (E.2.1, 24, .inl (V 32))) := rfl
theorem mw_s32 (E : EvT) (A : Nat → Nat) (V : Nat → Nat → Int32) (L : Nat → Int64) (g : Nat → Int32) : (mw E A V L).set 15 (A 32, .inl (E.2.1, 24, .inl g)) = mw E A (setc V 32 g) L := rfl
theorem mw_a33 (E : EvT) (A : Nat → Nat) (V : Nat → Nat → Int32) (L : Nat → Int64) : (mw E A V L)[16]? = some (A 33, .inl (E.2.1, 24, .inl (V 33))) := rfl
theorem mw_s33 (E : EvT) (A : Nat → Nat) (V : Nat → Nat → Int32) (L : Nat → Int64) (g : Nat → Int32) : (mw E A V L).set 16 (A 33, .inl (E.2.1, 24, .inl g)) = mw E A (setc V 33 g) L := rfl
theorem mw_a34 (E : EvT) (A : Nat → Nat) (V : Nat → Nat → Int32) (L : Nat → Int64) : (mw E A V L)[17]? = some (A 34, .inl (E.2.1, 8, .inl (V 34))) := rfl
theorem mw_s34 (E : EvT) (A : Nat → Nat) (V : Nat → Nat → Int32) (L : Nat → Int64) (g : Nat → Int32) : (mw E A V L).set 17 (A 34, .inl (E.2.1, 8, .inl g)) = mw E A (setc V 34 g) L := rfl
theorem mw_a35 (E : EvT) (A : Nat → Nat) (V : Nat → Nat → Int32) (L : Nat → Int64) : (mw E A V L)[18]? = some (A 35, .inl (E.2.1, 8, .inl (V 35))) := rfl
theorem mw_s35 (E : EvT) (A : Nat → Nat) (V : Nat → Nat → Int32) (L : Nat → Int64) (g : Nat → Int32) : (mw E A V L).set 18 (A 35, .inl (E.2.1, 8, .inl g)) = mw E A (setc V 35 g) L := rfl
theorem mw_a45 (E : EvT) (A : Nat → Nat) (V : Nat → Nat → Int32) (L : Nat → Int64) : (mw E A V L)[19]? = some (A 45, .inl (E.2.1, 8, .inl (V 45))) := rfl
theorem mw_s45 (E : EvT) (A : Nat → Nat) (V : Nat → Nat → Int32) (L : Nat → Int64) (g : Nat → Int32) : (mw E A V L).set 19 (A 45, .inl (E.2.1, 8, .inl g)) = mw E A (setc V 45 g) L := rfl
theorem mw_a46 (E : EvT) (A : Nat → Nat) (V : Nat → Nat → Int32) (L : Nat → Int64) : (mw E A V L)[20]? = some (A 46, .inl (E.2.1, 3, .inl (V 46))) := rfl
theorem mw_s46 (E : EvT) (A : Nat → Nat) (V : Nat → Nat → Int32) (L : Nat → Int64) (g : Nat → Int32) : (mw E A V L).set 20 (A 46, .inl (E.2.1, 3, .inl g)) = mw E A (setc V 46 g) L := rfl
theorem mw_a47 (E : EvT) (A : Nat → Nat) (V : Nat → Nat → Int32) (L : Nat → Int64) : (mw E A V L)[21]? = some (A 47, .inl (E.2.1, 6, .inl (V 47))) := rfl
theorem mw_s47 (E : EvT) (A : Nat → Nat) (V : Nat → Nat → Int32) (L : Nat → Int64) (g : Nat → Int32) : (mw E A V L).set 21 (A 47, .inl (E.2.1, 6, .inl g)) = mw E A (setc V 47 g) L := rfl
theorem mw_a48 (E : EvT) (A : Nat → Nat) (V : Nat → Nat → Int32) (L : Nat → Int64) : (mw E A V L)[22]? = some (A 48, .inl (E.2.1, 6, .inl (V 48))) := rfl
theorem mw_s48 (E : EvT) (A : Nat → Nat) (V : Nat → Nat → Int32) (L : Nat → Int64) (g : Nat → Int32) : (mw E A V L).set 22 (A 48, .inl (E.2.1, 6, .inl g)) = mw E A (setc V 48 g) L := rfl
theorem ki_m1 : Int32.ofInt (-1) = (-1) := by decide
theorem ki_0 : Int32.ofInt 0 = 0 := by decide
theorem ki_1 : Int32.ofInt 1 = 1 := by decide
theorem ki_2 : Int32.ofInt 2 = 2 := by decide
theorem ki_3 : Int32.ofInt 3 = 3 := by decide
theorem ki_4 : Int32.ofInt 4 = 4 := by decide
theorem ki_5 : Int32.ofInt 5 = 5 := by decide
theorem ki_8 : Int32.ofInt 8 = 8 := by decide
theorem ki_16 : Int32.ofInt 16 = 16 := by decide
theorem kb_m104 : (Int8.ofInt (-104)).toInt32 = (-104) := by decide
theorem kb_m103 : (Int8.ofInt (-103)).toInt32 = (-103) := by decide
theorem kb_m102 : (Int8.ofInt (-102)).toInt32 = (-102) := by decide
theorem kb_m101 : (Int8.ofInt (-101)).toInt32 = (-101) := by decide
theorem kb_6 : (Int8.ofInt 6).toInt32 = 6 := by decide
theorem kb_7 : (Int8.ofInt 7).toInt32 = 7 := by decide
theorem kb_8 : (Int8.ofInt 8).toInt32 = 8 := by decide
theorem kb_9 : (Int8.ofInt 9).toInt32 = 9 := by decide
theorem kb_10 : (Int8.ofInt 10).toInt32 = 10 := by decide
theorem kb_11 : (Int8.ofInt 11).toInt32 = 11 := by decide
theorem kb_15 : (Int8.ofInt 15).toInt32 = 15 := by decide
theorem kb_16 : (Int8.ofInt 16).toInt32 = 16 := by decide
theorem kb_18 : (Int8.ofInt 18).toInt32 = 18 := by decide
theorem kb_20 : (Int8.ofInt 20).toInt32 = 20 := by decide
theorem kb_22 : (Int8.ofInt 22).toInt32 = 22 := by decide
theorem kb_23 : (Int8.ofInt 23).toInt32 = 23 := by decide
theorem kb_24 : (Int8.ofInt 24).toInt32 = 24 := by decide
theorem kb_25 : (Int8.ofInt 25).toInt32 = 25 := by decide
theorem kb_31 : (Int8.ofInt 31).toInt32 = 31 := by decide
theorem kb_32 : (Int8.ofInt 32).toInt32 = 32 := by decide
theorem kb_44 : (Int8.ofInt 44).toInt32 = 44 := by decide
theorem kb_48 : (Int8.ofInt 48).toInt32 = 48 := by decide
theorem kb_57 : (Int8.ofInt 57).toInt32 = 57 := by decide
theorem kb_59 : (Int8.ofInt 59).toInt32 = 59 := by decide
theorem kb_60 : (Int8.ofInt 60).toInt32 = 60 := by decide
theorem kb_61 : (Int8.ofInt 61).toInt32 = 61 := by decide
theorem kb_63 : (Int8.ofInt 63).toInt32 = 63 := by decide
theorem kb_99 : (Int8.ofInt 99).toInt32 = 99 := by decide
theorem kb_126 : (Int8.ofInt 126).toInt32 = 126 := by decide
theorem ks_255 : (Int16.ofInt 255).toInt32 = 255 := by decide
theorem ks_256 : (Int16.ofInt 256).toInt32 = 256 := by decide
theorem ks_511 : (Int16.ofInt 511).toInt32 = 511 := by decide
theorem ks_999 : (Int16.ofInt 999).toInt32 = 999 := by decide
theorem ks_2187 : (Int16.ofInt 2187).toInt32 = 2187 := by decide
theorem kn_m1 (x : Int32) : x + Int32.ofInt (-1) = x + (-1) := by rw [ki_m1]
theorem kn_1 (x : Int32) : x + Int32.ofInt 1 = x + 1 := by rw [ki_1]
theorem kn_2 (x : Int32) : x + Int32.ofInt 2 = x + 2 := by rw [ki_2]
theorem kn_4 (x : Int32) : x + Int32.ofInt 4 = x + 4 := by rw [ki_4]
theorem kn_8 (x : Int32) : x + Int32.ofInt 8 = x + 8 := by rw [ki_8]
theorem kn_16 (x : Int32) : x + Int32.ofInt 16 = x + 16 := by rw [ki_16]
end
