section
-- ===== PART A: goes FIRST, ahead of the names: the tables' words, and 'selects' of the private methods out of them =====
/-- a private method of a class that the tables say can be made, by its rows of tables_1 -/
def lw_okq (q : MethodName × Nat) : Prop := (q.1.cls ≠ "java/lang/invoke/MethodHandle" ∧ q.1.cls ≠ "java/lang/invoke/VarHandle") ∧ Cond.instantiable q.1.cls q.2 ∈ tables_1 ∧ Cond.privateMethod q.1 ∈ tables_1 ∧ Cond.instanceMethod q.1 ∈ tables_1
theorem lw_p0 : lw_okq (⟨"PlayedBack", "isSet", "(I)Z"⟩, 9) := ⟨⟨by decide +kernel, by decide +kernel⟩, List.mem_of_getElem? (i := 21) (by decide +kernel), List.mem_of_getElem? (i := 321) (by decide +kernel), List.mem_of_getElem? (i := 322) (by decide +kernel)⟩
theorem lw_p1 : lw_okq (⟨"PlayedBack", "wrong", "(I)I"⟩, 9) := ⟨⟨by decide +kernel, by decide +kernel⟩, List.mem_of_getElem? (i := 21) (by decide +kernel), List.mem_of_getElem? (i := 330) (by decide +kernel), List.mem_of_getElem? (i := 331) (by decide +kernel)⟩
theorem lw_p2 : lw_okq (⟨"PlayedBack", "stands", "(I)Z"⟩, 9) := ⟨⟨by decide +kernel, by decide +kernel⟩, List.mem_of_getElem? (i := 21) (by decide +kernel), List.mem_of_getElem? (i := 360) (by decide +kernel), List.mem_of_getElem? (i := 361) (by decide +kernel)⟩
theorem lw_p3 : lw_okq (⟨"PlayedBack", "isPlace", "(I)Z"⟩, 9) := ⟨⟨by decide +kernel, by decide +kernel⟩, List.mem_of_getElem? (i := 21) (by decide +kernel), List.mem_of_getElem? (i := 457) (by decide +kernel), List.mem_of_getElem? (i := 458) (by decide +kernel)⟩
theorem lw_p4 : lw_okq (⟨"PlayedBack$Law", "worth", "(III)I"⟩, 3) := ⟨⟨by decide +kernel, by decide +kernel⟩, List.mem_of_getElem? (i := 112) (by decide +kernel), List.mem_of_getElem? (i := 504) (by decide +kernel), List.mem_of_getElem? (i := 505) (by decide +kernel)⟩
theorem lw_p5 : lw_okq (⟨"PlayedBack$Reader", "readsLevel", "(II)Z"⟩, 4) := ⟨⟨by decide +kernel, by decide +kernel⟩, List.mem_of_getElem? (i := 228) (by decide +kernel), List.mem_of_getElem? (i := 587) (by decide +kernel), List.mem_of_getElem? (i := 588) (by decide +kernel)⟩
theorem lw_p6 : lw_okq (⟨"PlayedBack$Reader", "readsInnermost", "(I)Z"⟩, 4) := ⟨⟨by decide +kernel, by decide +kernel⟩, List.mem_of_getElem? (i := 228) (by decide +kernel), List.mem_of_getElem? (i := 591) (by decide +kernel), List.mem_of_getElem? (i := 592) (by decide +kernel)⟩
theorem lw_p7 : lw_okq (⟨"PlayedBack$Reader", "here", "()I"⟩, 4) := ⟨⟨by decide +kernel, by decide +kernel⟩, List.mem_of_getElem? (i := 228) (by decide +kernel), List.mem_of_getElem? (i := 595) (by decide +kernel), List.mem_of_getElem? (i := 596) (by decide +kernel)⟩
theorem lw_p8 : lw_okq (⟨"PlayedBack$Reader", "readNumber", "()V"⟩, 4) := ⟨⟨by decide +kernel, by decide +kernel⟩, List.mem_of_getElem? (i := 228) (by decide +kernel), List.mem_of_getElem? (i := 603) (by decide +kernel), List.mem_of_getElem? (i := 604) (by decide +kernel)⟩
theorem lw_p9 : lw_okq (⟨"PlayedBack$Reader", "readsNegated", "(I)Z"⟩, 4) := ⟨⟨by decide +kernel, by decide +kernel⟩, List.mem_of_getElem? (i := 228) (by decide +kernel), List.mem_of_getElem? (i := 690) (by decide +kernel), List.mem_of_getElem? (i := 691) (by decide +kernel)⟩
theorem lw_p10 : lw_okq (⟨"PlayedBack$Reader", "readsClosing", "()Z"⟩, 4) := ⟨⟨by decide +kernel, by decide +kernel⟩, List.mem_of_getElem? (i := 228) (by decide +kernel), List.mem_of_getElem? (i := 694) (by decide +kernel), List.mem_of_getElem? (i := 695) (by decide +kernel)⟩
theorem lw_p11 : lw_okq (⟨"PlayedBack$Choices", "askGuesses", "()V"⟩, 7) := ⟨⟨by decide +kernel, by decide +kernel⟩, List.mem_of_getElem? (i := 181) (by decide +kernel), List.mem_of_getElem? (i := 735) (by decide +kernel), List.mem_of_getElem? (i := 736) (by decide +kernel)⟩
theorem lw_p12 : lw_okq (⟨"PlayedBack$Choices", "weighGuesses", "()V"⟩, 7) := ⟨⟨by decide +kernel, by decide +kernel⟩, List.mem_of_getElem? (i := 181) (by decide +kernel), List.mem_of_getElem? (i := 741) (by decide +kernel), List.mem_of_getElem? (i := 742) (by decide +kernel)⟩
theorem lw_p13 : lw_okq (⟨"PlayedBack$Choices", "guessAfter", "(II)I"⟩, 7) := ⟨⟨by decide +kernel, by decide +kernel⟩, List.mem_of_getElem? (i := 181) (by decide +kernel), List.mem_of_getElem? (i := 749) (by decide +kernel), List.mem_of_getElem? (i := 750) (by decide +kernel)⟩
theorem lw_p14 : lw_okq (⟨"PlayedBack$Choices", "leastNext", "(I)I"⟩, 7) := ⟨⟨by decide +kernel, by decide +kernel⟩, List.mem_of_getElem? (i := 181) (by decide +kernel), List.mem_of_getElem? (i := 759) (by decide +kernel), List.mem_of_getElem? (i := 760) (by decide +kernel)⟩
theorem lw_p15 : lw_okq (⟨"PlayedBack$Choices", "weighHands", "()V"⟩, 7) := ⟨⟨by decide +kernel, by decide +kernel⟩, List.mem_of_getElem? (i := 181) (by decide +kernel), List.mem_of_getElem? (i := 772) (by decide +kernel), List.mem_of_getElem? (i := 773) (by decide +kernel)⟩
def lw_privs_1 : List (MethodName × Nat) := [(⟨"PlayedBack", "isSet", "(I)Z"⟩, 9), (⟨"PlayedBack", "wrong", "(I)I"⟩, 9), (⟨"PlayedBack", "stands", "(I)Z"⟩, 9), (⟨"PlayedBack", "isPlace", "(I)Z"⟩, 9), (⟨"PlayedBack$Law", "worth", "(III)I"⟩, 3), (⟨"PlayedBack$Reader", "readsLevel", "(II)Z"⟩, 4), (⟨"PlayedBack$Reader", "readsInnermost", "(I)Z"⟩, 4), (⟨"PlayedBack$Reader", "here", "()I"⟩, 4), (⟨"PlayedBack$Reader", "readNumber", "()V"⟩, 4), (⟨"PlayedBack$Reader", "readsNegated", "(I)Z"⟩, 4), (⟨"PlayedBack$Reader", "readsClosing", "()Z"⟩, 4), (⟨"PlayedBack$Choices", "askGuesses", "()V"⟩, 7), (⟨"PlayedBack$Choices", "weighGuesses", "()V"⟩, 7), (⟨"PlayedBack$Choices", "guessAfter", "(II)I"⟩, 7), (⟨"PlayedBack$Choices", "leastNext", "(I)I"⟩, 7), (⟨"PlayedBack$Choices", "weighHands", "()V"⟩, 7)]
theorem lw_r1 : ∀ q ∈ lw_privs_1, lw_okq q := List.forall_mem_cons.mpr ⟨lw_p0, List.forall_mem_cons.mpr ⟨lw_p1, List.forall_mem_cons.mpr ⟨lw_p2, List.forall_mem_cons.mpr ⟨lw_p3, List.forall_mem_cons.mpr ⟨lw_p4, List.forall_mem_cons.mpr ⟨lw_p5, List.forall_mem_cons.mpr ⟨lw_p6, List.forall_mem_cons.mpr ⟨lw_p7, List.forall_mem_cons.mpr ⟨lw_p8, List.forall_mem_cons.mpr ⟨lw_p9, List.forall_mem_cons.mpr ⟨lw_p10, List.forall_mem_cons.mpr ⟨lw_p11, List.forall_mem_cons.mpr ⟨lw_p12, List.forall_mem_cons.mpr ⟨lw_p13, List.forall_mem_cons.mpr ⟨lw_p14, List.forall_mem_cons.mpr ⟨lw_p15, fun _ h => absurd h List.not_mem_nil⟩⟩⟩⟩⟩⟩⟩⟩⟩⟩⟩⟩⟩⟩⟩⟩
theorem lw_p16 : lw_okq (⟨"PlayedBack$Choices", "fewestAfter", "(III)I"⟩, 7) := ⟨⟨by decide +kernel, by decide +kernel⟩, List.mem_of_getElem? (i := 181) (by decide +kernel), List.mem_of_getElem? (i := 776) (by decide +kernel), List.mem_of_getElem? (i := 777) (by decide +kernel)⟩
theorem lw_p17 : lw_okq (⟨"PlayedBack$Choices", "handsBy", "(III)I"⟩, 7) := ⟨⟨by decide +kernel, by decide +kernel⟩, List.mem_of_getElem? (i := 181) (by decide +kernel), List.mem_of_getElem? (i := 780) (by decide +kernel), List.mem_of_getElem? (i := 781) (by decide +kernel)⟩
theorem lw_p18 : lw_okq (⟨"PlayedBack$Choices", "handiestNext", "(I)I"⟩, 7) := ⟨⟨by decide +kernel, by decide +kernel⟩, List.mem_of_getElem? (i := 181) (by decide +kernel), List.mem_of_getElem? (i := 797) (by decide +kernel), List.mem_of_getElem? (i := 798) (by decide +kernel)⟩
theorem lw_p19 : lw_okq (⟨"PlayedBack$Choices", "countUpTo", "(III)I"⟩, 7) := ⟨⟨by decide +kernel, by decide +kernel⟩, List.mem_of_getElem? (i := 181) (by decide +kernel), List.mem_of_getElem? (i := 815) (by decide +kernel), List.mem_of_getElem? (i := 816) (by decide +kernel)⟩
theorem lw_p20 : lw_okq (⟨"PlayedBack", "errorOfEvenings", "(I)I"⟩, 9) := ⟨⟨by decide +kernel, by decide +kernel⟩, List.mem_of_getElem? (i := 21) (by decide +kernel), List.mem_of_getElem? (i := 867) (by decide +kernel), List.mem_of_getElem? (i := 868) (by decide +kernel)⟩
theorem lw_p21 : lw_okq (⟨"PlayedBack$Voices", "run", "(ILPlayedBack$Scene;III)I"⟩, 1) := ⟨⟨by decide +kernel, by decide +kernel⟩, List.mem_of_getElem? (i := 252) (by decide +kernel), List.mem_of_getElem? (i := 931) (by decide +kernel), List.mem_of_getElem? (i := 932) (by decide +kernel)⟩
theorem lw_p22 : lw_okq (⟨"PlayedBack", "sheetAt", "(I)LPlayedBack$Sheet;"⟩, 9) := ⟨⟨by decide +kernel, by decide +kernel⟩, List.mem_of_getElem? (i := 21) (by decide +kernel), List.mem_of_getElem? (i := 947) (by decide +kernel), List.mem_of_getElem? (i := 948) (by decide +kernel)⟩
theorem lw_p23 : lw_okq (⟨"PlayedBack", "errorOfSheet", "(I)I"⟩, 9) := ⟨⟨by decide +kernel, by decide +kernel⟩, List.mem_of_getElem? (i := 21) (by decide +kernel), List.mem_of_getElem? (i := 965) (by decide +kernel), List.mem_of_getElem? (i := 966) (by decide +kernel)⟩
theorem lw_p24 : lw_okq (⟨"PlayedBackModel", "finds", "(I)I"⟩, 25) := ⟨⟨by decide +kernel, by decide +kernel⟩, List.mem_of_getElem? (i := 1038) (by decide +kernel), List.mem_of_getElem? (i := 1128) (by decide +kernel), List.mem_of_getElem? (i := 1129) (by decide +kernel)⟩
theorem lw_p25 : lw_okq (⟨"PlayedBackModel", "worked", "(III)I"⟩, 25) := ⟨⟨by decide +kernel, by decide +kernel⟩, List.mem_of_getElem? (i := 1038) (by decide +kernel), List.mem_of_getElem? (i := 1138) (by decide +kernel), List.mem_of_getElem? (i := 1139) (by decide +kernel)⟩
theorem lw_p26 : lw_okq (⟨"PlayedBackModel", "either", "()I"⟩, 25) := ⟨⟨by decide +kernel, by decide +kernel⟩, List.mem_of_getElem? (i := 1038) (by decide +kernel), List.mem_of_getElem? (i := 1142) (by decide +kernel), List.mem_of_getElem? (i := 1143) (by decide +kernel)⟩
theorem lw_p27 : lw_okq (⟨"PlayedBackModel", "both", "()I"⟩, 25) := ⟨⟨by decide +kernel, by decide +kernel⟩, List.mem_of_getElem? (i := 1038) (by decide +kernel), List.mem_of_getElem? (i := 1146) (by decide +kernel), List.mem_of_getElem? (i := 1147) (by decide +kernel)⟩
theorem lw_p28 : lw_okq (⟨"PlayedBackModel", "compared", "()I"⟩, 25) := ⟨⟨by decide +kernel, by decide +kernel⟩, List.mem_of_getElem? (i := 1038) (by decide +kernel), List.mem_of_getElem? (i := 1150) (by decide +kernel), List.mem_of_getElem? (i := 1151) (by decide +kernel)⟩
theorem lw_p29 : lw_okq (⟨"PlayedBackModel", "sum", "()I"⟩, 25) := ⟨⟨by decide +kernel, by decide +kernel⟩, List.mem_of_getElem? (i := 1038) (by decide +kernel), List.mem_of_getElem? (i := 1154) (by decide +kernel), List.mem_of_getElem? (i := 1155) (by decide +kernel)⟩
theorem lw_p30 : lw_okq (⟨"PlayedBackModel", "product", "()I"⟩, 25) := ⟨⟨by decide +kernel, by decide +kernel⟩, List.mem_of_getElem? (i := 1038) (by decide +kernel), List.mem_of_getElem? (i := 1158) (by decide +kernel), List.mem_of_getElem? (i := 1159) (by decide +kernel)⟩
theorem lw_p31 : lw_okq (⟨"PlayedBackModel", "unit", "()I"⟩, 25) := ⟨⟨by decide +kernel, by decide +kernel⟩, List.mem_of_getElem? (i := 1038) (by decide +kernel), List.mem_of_getElem? (i := 1162) (by decide +kernel), List.mem_of_getElem? (i := 1163) (by decide +kernel)⟩
def lw_privs_2 : List (MethodName × Nat) := [(⟨"PlayedBack$Choices", "fewestAfter", "(III)I"⟩, 7), (⟨"PlayedBack$Choices", "handsBy", "(III)I"⟩, 7), (⟨"PlayedBack$Choices", "handiestNext", "(I)I"⟩, 7), (⟨"PlayedBack$Choices", "countUpTo", "(III)I"⟩, 7), (⟨"PlayedBack", "errorOfEvenings", "(I)I"⟩, 9), (⟨"PlayedBack$Voices", "run", "(ILPlayedBack$Scene;III)I"⟩, 1), (⟨"PlayedBack", "sheetAt", "(I)LPlayedBack$Sheet;"⟩, 9), (⟨"PlayedBack", "errorOfSheet", "(I)I"⟩, 9), (⟨"PlayedBackModel", "finds", "(I)I"⟩, 25), (⟨"PlayedBackModel", "worked", "(III)I"⟩, 25), (⟨"PlayedBackModel", "either", "()I"⟩, 25), (⟨"PlayedBackModel", "both", "()I"⟩, 25), (⟨"PlayedBackModel", "compared", "()I"⟩, 25), (⟨"PlayedBackModel", "sum", "()I"⟩, 25), (⟨"PlayedBackModel", "product", "()I"⟩, 25), (⟨"PlayedBackModel", "unit", "()I"⟩, 25)]
theorem lw_r2 : ∀ q ∈ lw_privs_2, lw_okq q := List.forall_mem_cons.mpr ⟨lw_p16, List.forall_mem_cons.mpr ⟨lw_p17, List.forall_mem_cons.mpr ⟨lw_p18, List.forall_mem_cons.mpr ⟨lw_p19, List.forall_mem_cons.mpr ⟨lw_p20, List.forall_mem_cons.mpr ⟨lw_p21, List.forall_mem_cons.mpr ⟨lw_p22, List.forall_mem_cons.mpr ⟨lw_p23, List.forall_mem_cons.mpr ⟨lw_p24, List.forall_mem_cons.mpr ⟨lw_p25, List.forall_mem_cons.mpr ⟨lw_p26, List.forall_mem_cons.mpr ⟨lw_p27, List.forall_mem_cons.mpr ⟨lw_p28, List.forall_mem_cons.mpr ⟨lw_p29, List.forall_mem_cons.mpr ⟨lw_p30, List.forall_mem_cons.mpr ⟨lw_p31, fun _ h => absurd h List.not_mem_nil⟩⟩⟩⟩⟩⟩⟩⟩⟩⟩⟩⟩⟩⟩⟩⟩
theorem lw_p32 : lw_okq (⟨"PlayedBackModel", "here", "()I"⟩, 25) := ⟨⟨by decide +kernel, by decide +kernel⟩, List.mem_of_getElem? (i := 1038) (by decide +kernel), List.mem_of_getElem? (i := 1166) (by decide +kernel), List.mem_of_getElem? (i := 1167) (by decide +kernel)⟩
theorem lw_p33 : lw_okq (⟨"PlayedBackModel", "wrong", "()I"⟩, 25) := ⟨⟨by decide +kernel, by decide +kernel⟩, List.mem_of_getElem? (i := 1038) (by decide +kernel), List.mem_of_getElem? (i := 1170) (by decide +kernel), List.mem_of_getElem? (i := 1171) (by decide +kernel)⟩
theorem lw_p34 : lw_okq (⟨"PlayedBackModel", "takes", "(I)Z"⟩, 25) := ⟨⟨by decide +kernel, by decide +kernel⟩, List.mem_of_getElem? (i := 1038) (by decide +kernel), List.mem_of_getElem? (i := 1174) (by decide +kernel), List.mem_of_getElem? (i := 1175) (by decide +kernel)⟩
theorem lw_p35 : lw_okq (⟨"PlayedBackModel", "nameOf", "(I)I"⟩, 25) := ⟨⟨by decide +kernel, by decide +kernel⟩, List.mem_of_getElem? (i := 1038) (by decide +kernel), List.mem_of_getElem? (i := 1178) (by decide +kernel), List.mem_of_getElem? (i := 1179) (by decide +kernel)⟩
theorem lw_p36 : lw_okq (⟨"PlayedBackModel", "textGives", "(IIII)I"⟩, 25) := ⟨⟨by decide +kernel, by decide +kernel⟩, List.mem_of_getElem? (i := 1038) (by decide +kernel), List.mem_of_getElem? (i := 1188) (by decide +kernel), List.mem_of_getElem? (i := 1189) (by decide +kernel)⟩
theorem lw_p37 : lw_okq (⟨"PlayedBackModel", "puts", "(III)V"⟩, 25) := ⟨⟨by decide +kernel, by decide +kernel⟩, List.mem_of_getElem? (i := 1038) (by decide +kernel), List.mem_of_getElem? (i := 1202) (by decide +kernel), List.mem_of_getElem? (i := 1203) (by decide +kernel)⟩
theorem lw_p38 : lw_okq (⟨"PlayedBackModel", "isScene", "(I)Z"⟩, 25) := ⟨⟨by decide +kernel, by decide +kernel⟩, List.mem_of_getElem? (i := 1038) (by decide +kernel), List.mem_of_getElem? (i := 1210) (by decide +kernel), List.mem_of_getElem? (i := 1211) (by decide +kernel)⟩
theorem lw_p39 : lw_okq (⟨"PlayedBackModel", "its", "(II)I"⟩, 25) := ⟨⟨by decide +kernel, by decide +kernel⟩, List.mem_of_getElem? (i := 1038) (by decide +kernel), List.mem_of_getElem? (i := 1221) (by decide +kernel), List.mem_of_getElem? (i := 1222) (by decide +kernel)⟩
theorem lw_p40 : lw_okq (⟨"PlayedBackModel", "allComing", "()I"⟩, 25) := ⟨⟨by decide +kernel, by decide +kernel⟩, List.mem_of_getElem? (i := 1038) (by decide +kernel), List.mem_of_getElem? (i := 1225) (by decide +kernel), List.mem_of_getElem? (i := 1226) (by decide +kernel)⟩
theorem lw_p41 : lw_okq (⟨"PlayedBackModel", "happens", "(II)Z"⟩, 25) := ⟨⟨by decide +kernel, by decide +kernel⟩, List.mem_of_getElem? (i := 1038) (by decide +kernel), List.mem_of_getElem? (i := 1229) (by decide +kernel), List.mem_of_getElem? (i := 1230) (by decide +kernel)⟩
theorem lw_p42 : lw_okq (⟨"PlayedBackModel", "shock", "(I)I"⟩, 25) := ⟨⟨by decide +kernel, by decide +kernel⟩, List.mem_of_getElem? (i := 1038) (by decide +kernel), List.mem_of_getElem? (i := 1236) (by decide +kernel), List.mem_of_getElem? (i := 1237) (by decide +kernel)⟩
theorem lw_p43 : lw_okq (⟨"PlayedBackModel", "kills", "(II)I"⟩, 25) := ⟨⟨by decide +kernel, by decide +kernel⟩, List.mem_of_getElem? (i := 1038) (by decide +kernel), List.mem_of_getElem? (i := 1240) (by decide +kernel), List.mem_of_getElem? (i := 1241) (by decide +kernel)⟩
theorem lw_p44 : lw_okq (⟨"PlayedBackModel", "isBroken", "(I)Z"⟩, 25) := ⟨⟨by decide +kernel, by decide +kernel⟩, List.mem_of_getElem? (i := 1038) (by decide +kernel), List.mem_of_getElem? (i := 1244) (by decide +kernel), List.mem_of_getElem? (i := 1245) (by decide +kernel)⟩
theorem lw_p45 : lw_okq (⟨"PlayedBackModel", "placeOf", "(I)I"⟩, 25) := ⟨⟨by decide +kernel, by decide +kernel⟩, List.mem_of_getElem? (i := 1038) (by decide +kernel), List.mem_of_getElem? (i := 1276) (by decide +kernel), List.mem_of_getElem? (i := 1277) (by decide +kernel)⟩
theorem lw_p46 : lw_okq (⟨"PlayedBackModel", "guessOf", "(I)I"⟩, 25) := ⟨⟨by decide +kernel, by decide +kernel⟩, List.mem_of_getElem? (i := 1038) (by decide +kernel), List.mem_of_getElem? (i := 1288) (by decide +kernel), List.mem_of_getElem? (i := 1289) (by decide +kernel)⟩
theorem lw_p47 : lw_okq (⟨"PlayedBackModel", "rowAsGiven", "()V"⟩, 25) := ⟨⟨by decide +kernel, by decide +kernel⟩, List.mem_of_getElem? (i := 1038) (by decide +kernel), List.mem_of_getElem? (i := 1292) (by decide +kernel), List.mem_of_getElem? (i := 1293) (by decide +kernel)⟩
def lw_privs_3 : List (MethodName × Nat) := [(⟨"PlayedBackModel", "here", "()I"⟩, 25), (⟨"PlayedBackModel", "wrong", "()I"⟩, 25), (⟨"PlayedBackModel", "takes", "(I)Z"⟩, 25), (⟨"PlayedBackModel", "nameOf", "(I)I"⟩, 25), (⟨"PlayedBackModel", "textGives", "(IIII)I"⟩, 25), (⟨"PlayedBackModel", "puts", "(III)V"⟩, 25), (⟨"PlayedBackModel", "isScene", "(I)Z"⟩, 25), (⟨"PlayedBackModel", "its", "(II)I"⟩, 25), (⟨"PlayedBackModel", "allComing", "()I"⟩, 25), (⟨"PlayedBackModel", "happens", "(II)Z"⟩, 25), (⟨"PlayedBackModel", "shock", "(I)I"⟩, 25), (⟨"PlayedBackModel", "kills", "(II)I"⟩, 25), (⟨"PlayedBackModel", "isBroken", "(I)Z"⟩, 25), (⟨"PlayedBackModel", "placeOf", "(I)I"⟩, 25), (⟨"PlayedBackModel", "guessOf", "(I)I"⟩, 25), (⟨"PlayedBackModel", "rowAsGiven", "()V"⟩, 25)]
theorem lw_r3 : ∀ q ∈ lw_privs_3, lw_okq q := List.forall_mem_cons.mpr ⟨lw_p32, List.forall_mem_cons.mpr ⟨lw_p33, List.forall_mem_cons.mpr ⟨lw_p34, List.forall_mem_cons.mpr ⟨lw_p35, List.forall_mem_cons.mpr ⟨lw_p36, List.forall_mem_cons.mpr ⟨lw_p37, List.forall_mem_cons.mpr ⟨lw_p38, List.forall_mem_cons.mpr ⟨lw_p39, List.forall_mem_cons.mpr ⟨lw_p40, List.forall_mem_cons.mpr ⟨lw_p41, List.forall_mem_cons.mpr ⟨lw_p42, List.forall_mem_cons.mpr ⟨lw_p43, List.forall_mem_cons.mpr ⟨lw_p44, List.forall_mem_cons.mpr ⟨lw_p45, List.forall_mem_cons.mpr ⟨lw_p46, List.forall_mem_cons.mpr ⟨lw_p47, fun _ h => absurd h List.not_mem_nil⟩⟩⟩⟩⟩⟩⟩⟩⟩⟩⟩⟩⟩⟩⟩⟩
theorem lw_p48 : lw_okq (⟨"PlayedBackModel", "findGuesses", "()V"⟩, 25) := ⟨⟨by decide +kernel, by decide +kernel⟩, List.mem_of_getElem? (i := 1038) (by decide +kernel), List.mem_of_getElem? (i := 1296) (by decide +kernel), List.mem_of_getElem? (i := 1297) (by decide +kernel)⟩
theorem lw_p49 : lw_okq (⟨"PlayedBackModel", "guessAt", "(II)I"⟩, 25) := ⟨⟨by decide +kernel, by decide +kernel⟩, List.mem_of_getElem? (i := 1038) (by decide +kernel), List.mem_of_getElem? (i := 1300) (by decide +kernel), List.mem_of_getElem? (i := 1301) (by decide +kernel)⟩
theorem lw_p50 : lw_okq (⟨"PlayedBackModel", "bestTold", "(ZI)I"⟩, 25) := ⟨⟨by decide +kernel, by decide +kernel⟩, List.mem_of_getElem? (i := 1038) (by decide +kernel), List.mem_of_getElem? (i := 1320) (by decide +kernel), List.mem_of_getElem? (i := 1321) (by decide +kernel)⟩
theorem lw_p51 : lw_okq (⟨"PlayedBackModel", "goThrough", "(ZI)V"⟩, 25) := ⟨⟨by decide +kernel, by decide +kernel⟩, List.mem_of_getElem? (i := 1038) (by decide +kernel), List.mem_of_getElem? (i := 1325) (by decide +kernel), List.mem_of_getElem? (i := 1326) (by decide +kernel)⟩
theorem lw_p52 : lw_okq (⟨"PlayedBackModel", "handsOfRow", "()I"⟩, 25) := ⟨⟨by decide +kernel, by decide +kernel⟩, List.mem_of_getElem? (i := 1038) (by decide +kernel), List.mem_of_getElem? (i := 1329) (by decide +kernel), List.mem_of_getElem? (i := 1330) (by decide +kernel)⟩
theorem lw_p53 : lw_okq (⟨"PlayedBackModel", "guessedOfRow", "()I"⟩, 25) := ⟨⟨by decide +kernel, by decide +kernel⟩, List.mem_of_getElem? (i := 1038) (by decide +kernel), List.mem_of_getElem? (i := 1333) (by decide +kernel), List.mem_of_getElem? (i := 1334) (by decide +kernel)⟩
theorem lw_p54 : lw_okq (⟨"PlayedBackModel", "nextRow", "()Z"⟩, 25) := ⟨⟨by decide +kernel, by decide +kernel⟩, List.mem_of_getElem? (i := 1038) (by decide +kernel), List.mem_of_getElem? (i := 1337) (by decide +kernel), List.mem_of_getElem? (i := 1338) (by decide +kernel)⟩
theorem lw_p55 : lw_okq (⟨"PlayedBackModel", "roots", "()I"⟩, 25) := ⟨⟨by decide +kernel, by decide +kernel⟩, List.mem_of_getElem? (i := 1038) (by decide +kernel), List.mem_of_getElem? (i := 1354) (by decide +kernel), List.mem_of_getElem? (i := 1355) (by decide +kernel)⟩
theorem lw_p56 : lw_okq (⟨"PlayedBackModel", "comingBy", "(I)I"⟩, 25) := ⟨⟨by decide +kernel, by decide +kernel⟩, List.mem_of_getElem? (i := 1038) (by decide +kernel), List.mem_of_getElem? (i := 1358) (by decide +kernel), List.mem_of_getElem? (i := 1359) (by decide +kernel)⟩
theorem lw_p57 : lw_okq (⟨"PlayedBackModel", "keepWills", "()V"⟩, 25) := ⟨⟨by decide +kernel, by decide +kernel⟩, List.mem_of_getElem? (i := 1038) (by decide +kernel), List.mem_of_getElem? (i := 1362) (by decide +kernel), List.mem_of_getElem? (i := 1363) (by decide +kernel)⟩
theorem lw_p58 : lw_okq (⟨"PlayedBackModel", "putWillsBack", "()V"⟩, 25) := ⟨⟨by decide +kernel, by decide +kernel⟩, List.mem_of_getElem? (i := 1038) (by decide +kernel), List.mem_of_getElem? (i := 1366) (by decide +kernel), List.mem_of_getElem? (i := 1367) (by decide +kernel)⟩
theorem lw_p59 : lw_okq (⟨"PlayedBackModel", "thoughts", "(I)I"⟩, 25) := ⟨⟨by decide +kernel, by decide +kernel⟩, List.mem_of_getElem? (i := 1038) (by decide +kernel), List.mem_of_getElem? (i := 1374) (by decide +kernel), List.mem_of_getElem? (i := 1375) (by decide +kernel)⟩
theorem lw_p60 : lw_okq (⟨"PlayedBackModel", "evening", "()V"⟩, 25) := ⟨⟨by decide +kernel, by decide +kernel⟩, List.mem_of_getElem? (i := 1038) (by decide +kernel), List.mem_of_getElem? (i := 1391) (by decide +kernel), List.mem_of_getElem? (i := 1392) (by decide +kernel)⟩
theorem lw_p61 : lw_okq (⟨"PlayedBackModel", "guessed", "()I"⟩, 25) := ⟨⟨by decide +kernel, by decide +kernel⟩, List.mem_of_getElem? (i := 1038) (by decide +kernel), List.mem_of_getElem? (i := 1395) (by decide +kernel), List.mem_of_getElem? (i := 1396) (by decide +kernel)⟩
theorem lw_p62 : lw_okq (⟨"PlayedBackModel", "hands", "()I"⟩, 25) := ⟨⟨by decide +kernel, by decide +kernel⟩, List.mem_of_getElem? (i := 1038) (by decide +kernel), List.mem_of_getElem? (i := 1399) (by decide +kernel), List.mem_of_getElem? (i := 1400) (by decide +kernel)⟩
theorem lw_p63 : lw_okq (⟨"PlayedBackModel", "rises", "()I"⟩, 25) := ⟨⟨by decide +kernel, by decide +kernel⟩, List.mem_of_getElem? (i := 1038) (by decide +kernel), List.mem_of_getElem? (i := 1403) (by decide +kernel), List.mem_of_getElem? (i := 1404) (by decide +kernel)⟩
def lw_privs_4 : List (MethodName × Nat) := [(⟨"PlayedBackModel", "findGuesses", "()V"⟩, 25), (⟨"PlayedBackModel", "guessAt", "(II)I"⟩, 25), (⟨"PlayedBackModel", "bestTold", "(ZI)I"⟩, 25), (⟨"PlayedBackModel", "goThrough", "(ZI)V"⟩, 25), (⟨"PlayedBackModel", "handsOfRow", "()I"⟩, 25), (⟨"PlayedBackModel", "guessedOfRow", "()I"⟩, 25), (⟨"PlayedBackModel", "nextRow", "()Z"⟩, 25), (⟨"PlayedBackModel", "roots", "()I"⟩, 25), (⟨"PlayedBackModel", "comingBy", "(I)I"⟩, 25), (⟨"PlayedBackModel", "keepWills", "()V"⟩, 25), (⟨"PlayedBackModel", "putWillsBack", "()V"⟩, 25), (⟨"PlayedBackModel", "thoughts", "(I)I"⟩, 25), (⟨"PlayedBackModel", "evening", "()V"⟩, 25), (⟨"PlayedBackModel", "guessed", "()I"⟩, 25), (⟨"PlayedBackModel", "hands", "()I"⟩, 25), (⟨"PlayedBackModel", "rises", "()I"⟩, 25)]
theorem lw_r4 : ∀ q ∈ lw_privs_4, lw_okq q := List.forall_mem_cons.mpr ⟨lw_p48, List.forall_mem_cons.mpr ⟨lw_p49, List.forall_mem_cons.mpr ⟨lw_p50, List.forall_mem_cons.mpr ⟨lw_p51, List.forall_mem_cons.mpr ⟨lw_p52, List.forall_mem_cons.mpr ⟨lw_p53, List.forall_mem_cons.mpr ⟨lw_p54, List.forall_mem_cons.mpr ⟨lw_p55, List.forall_mem_cons.mpr ⟨lw_p56, List.forall_mem_cons.mpr ⟨lw_p57, List.forall_mem_cons.mpr ⟨lw_p58, List.forall_mem_cons.mpr ⟨lw_p59, List.forall_mem_cons.mpr ⟨lw_p60, List.forall_mem_cons.mpr ⟨lw_p61, List.forall_mem_cons.mpr ⟨lw_p62, List.forall_mem_cons.mpr ⟨lw_p63, fun _ h => absurd h List.not_mem_nil⟩⟩⟩⟩⟩⟩⟩⟩⟩⟩⟩⟩⟩⟩⟩⟩
theorem lw_p64 : lw_okq (⟨"PlayedBackModel", "drawn", "()I"⟩, 25) := ⟨⟨by decide +kernel, by decide +kernel⟩, List.mem_of_getElem? (i := 1038) (by decide +kernel), List.mem_of_getElem? (i := 1413) (by decide +kernel), List.mem_of_getElem? (i := 1414) (by decide +kernel)⟩
theorem lw_p65 : lw_okq (⟨"PlayedBackModel", "own", "()I"⟩, 25) := ⟨⟨by decide +kernel, by decide +kernel⟩, List.mem_of_getElem? (i := 1038) (by decide +kernel), List.mem_of_getElem? (i := 1427) (by decide +kernel), List.mem_of_getElem? (i := 1428) (by decide +kernel)⟩
theorem lw_p66 : lw_okq (⟨"PlayedBackModel", "opensBy", "(II)I"⟩, 25) := ⟨⟨by decide +kernel, by decide +kernel⟩, List.mem_of_getElem? (i := 1038) (by decide +kernel), List.mem_of_getElem? (i := 1431) (by decide +kernel), List.mem_of_getElem? (i := 1432) (by decide +kernel)⟩
theorem lw_p67 : lw_okq (⟨"PlayedBackModel", "ran", "(I)V"⟩, 25) := ⟨⟨by decide +kernel, by decide +kernel⟩, List.mem_of_getElem? (i := 1038) (by decide +kernel), List.mem_of_getElem? (i := 1435) (by decide +kernel), List.mem_of_getElem? (i := 1436) (by decide +kernel)⟩
theorem lw_p68 : lw_okq (⟨"PlayedBackModel", "playsBy", "(II)I"⟩, 25) := ⟨⟨by decide +kernel, by decide +kernel⟩, List.mem_of_getElem? (i := 1038) (by decide +kernel), List.mem_of_getElem? (i := 1439) (by decide +kernel), List.mem_of_getElem? (i := 1440) (by decide +kernel)⟩
theorem lw_p69 : lw_okq (⟨"PlayedBackModel", "closesBy", "(II)I"⟩, 25) := ⟨⟨by decide +kernel, by decide +kernel⟩, List.mem_of_getElem? (i := 1038) (by decide +kernel), List.mem_of_getElem? (i := 1443) (by decide +kernel), List.mem_of_getElem? (i := 1444) (by decide +kernel)⟩
theorem lw_p70 : lw_okq (⟨"PlayedBackModel", "tellsBy", "(II)I"⟩, 25) := ⟨⟨by decide +kernel, by decide +kernel⟩, List.mem_of_getElem? (i := 1038) (by decide +kernel), List.mem_of_getElem? (i := 1447) (by decide +kernel), List.mem_of_getElem? (i := 1448) (by decide +kernel)⟩
theorem lw_p71 : lw_okq (⟨"PlayedBackModel", "areScenes", "(I)Z"⟩, 25) := ⟨⟨by decide +kernel, by decide +kernel⟩, List.mem_of_getElem? (i := 1038) (by decide +kernel), List.mem_of_getElem? (i := 1474) (by decide +kernel), List.mem_of_getElem? (i := 1475) (by decide +kernel)⟩
theorem lw_p72 : lw_okq (⟨"PlayedBackModel", "longOfAll", "()I"⟩, 25) := ⟨⟨by decide +kernel, by decide +kernel⟩, List.mem_of_getElem? (i := 1038) (by decide +kernel), List.mem_of_getElem? (i := 1502) (by decide +kernel), List.mem_of_getElem? (i := 1503) (by decide +kernel)⟩
def lw_privs_5 : List (MethodName × Nat) := [(⟨"PlayedBackModel", "drawn", "()I"⟩, 25), (⟨"PlayedBackModel", "own", "()I"⟩, 25), (⟨"PlayedBackModel", "opensBy", "(II)I"⟩, 25), (⟨"PlayedBackModel", "ran", "(I)V"⟩, 25), (⟨"PlayedBackModel", "playsBy", "(II)I"⟩, 25), (⟨"PlayedBackModel", "closesBy", "(II)I"⟩, 25), (⟨"PlayedBackModel", "tellsBy", "(II)I"⟩, 25), (⟨"PlayedBackModel", "areScenes", "(I)Z"⟩, 25), (⟨"PlayedBackModel", "longOfAll", "()I"⟩, 25)]
theorem lw_r5 : ∀ q ∈ lw_privs_5, lw_okq q := List.forall_mem_cons.mpr ⟨lw_p64, List.forall_mem_cons.mpr ⟨lw_p65, List.forall_mem_cons.mpr ⟨lw_p66, List.forall_mem_cons.mpr ⟨lw_p67, List.forall_mem_cons.mpr ⟨lw_p68, List.forall_mem_cons.mpr ⟨lw_p69, List.forall_mem_cons.mpr ⟨lw_p70, List.forall_mem_cons.mpr ⟨lw_p71, List.forall_mem_cons.mpr ⟨lw_p72, fun _ h => absurd h List.not_mem_nil⟩⟩⟩⟩⟩⟩⟩⟩⟩
def lw_privs : List (MethodName × Nat) := lw_privs_1 ++ (lw_privs_2 ++ (lw_privs_3 ++ (lw_privs_4 ++ (lw_privs_5))))
def lw_tbl : List Cond := k2_sels lw_privs ++ tables_1
theorem lw_privs_ok : ∀ q ∈ lw_privs, lw_okq q := by
  show ∀ q ∈ lw_privs_1 ++ (lw_privs_2 ++ (lw_privs_3 ++ (lw_privs_4 ++ (lw_privs_5)))), lw_okq q
  exact List.forall_mem_append.mpr ⟨lw_r1, List.forall_mem_append.mpr ⟨lw_r2, List.forall_mem_append.mpr ⟨lw_r3, List.forall_mem_append.mpr ⟨lw_r4, lw_r5⟩⟩⟩⟩
end
section
def RX0 : String := "PlayedBack$Choices"
def RX1 : String := "PlayedBack$Law"
def RX2 : String := "PlayedBack$Play"
def RX3 : String := "PlayedBack$Reader"
def RX4 : String := "PlayedBack$Row"
def RX5 : String := "PlayedBack$Scene"
def RX6 : String := "PlayedBack$Sheet"
def RX7 : String := "PlayedBack$Voices"
def RX8 : String := "PlayedBack$Worlds"
def RX9 : String := "PlayedBack"
def RX10 : String := "PlayedBackModel"
def RJ11 : String := "java/lang/Character"
def RJ6 : String := "java/lang/Integer"
def RJ9 : String := "java/lang/Math"
def RJ0 : String := "java/lang/String"
def RJ1 : String := "java/lang/StringLatin1"
def RJ2 : String := "java/lang/StringUTF16"
def RJ10 : String := "java/lang/System"
def RJ3 : String := "jdk/internal/util/Preconditions"
def RL : String := "PlayedBackLaw"
def TX0 : u_T := fun k => match k with
  | 0 => ("PlayedBack$Choices", "play", "LPlayedBack$Play;", true)
  | 1 => ("PlayedBack$Choices", "guesses", "LPlayedBack$Row;", true)
  | 2 => ("PlayedBack$Choices", "leastLeft", "LPlayedBack$Row;", true)
  | 3 => ("PlayedBack$Choices", "mostLeft", "LPlayedBack$Row;", true)
  | 4 => ("PlayedBack$Choices", "handsLeft", "LPlayedBack$Row;", true)
  | 5 => ("PlayedBack$Choices", "latestWith", "LPlayedBack$Row;", true)
  | _ => ("PlayedBack$Choices", "best", "LPlayedBack$Row;", true)
def tyX0 : Nat → FieldType := fun k => match k with
  | 0 => .object "PlayedBack$Play"
  | 1 => .object "PlayedBack$Row"
  | 2 => .object "PlayedBack$Row"
  | 3 => .object "PlayedBack$Row"
  | 4 => .object "PlayedBack$Row"
  | 5 => .object "PlayedBack$Row"
  | _ => .object "PlayedBack$Row"
def TX1 : u_T := fun k => match k with
  | 0 => ("PlayedBack$Law", "use", "I", true)
  | 1 => ("PlayedBack$Law", "stack", "LPlayedBack$Row;", true)
  | _ => ("PlayedBack$Law", "code", "LPlayedBack$Row;", true)
def tyX1 : Nat → FieldType := fun k => match k with
  | 0 => .int
  | 1 => .object "PlayedBack$Row"
  | _ => .object "PlayedBack$Row"
def TX2 : u_T := fun k => match k with
  | 0 => ("PlayedBack$Play", "scenes", "[LPlayedBack$Scene;", true)
  | 1 => ("PlayedBack$Play", "spots", "LPlayedBack$Row;", true)
  | 2 => ("PlayedBack$Play", "guessing", "LPlayedBack$Law;", true)
  | 3 => ("PlayedBack$Play", "clapping", "LPlayedBack$Law;", true)
  | 4 => ("PlayedBack$Play", "row", "LPlayedBack$Row;", true)
  | 5 => ("PlayedBack$Play", "tape", "LPlayedBack$Row;", true)
  | 6 => ("PlayedBack$Play", "waiting", "LPlayedBack$Row;", true)
  | 7 => ("PlayedBack$Play", "size", "I", false)
  | 8 => ("PlayedBack$Play", "backwards", "I", false)
  | 9 => ("PlayedBack$Play", "takings", "I", false)
  | 10 => ("PlayedBack$Play", "evenings", "I", false)
  | _ => ("PlayedBack$Play", "z", "I", false)
def tyX2 : Nat → FieldType := fun k => match k with
  | 0 => .array (.object "PlayedBack$Scene")
  | 1 => .object "PlayedBack$Row"
  | 2 => .object "PlayedBack$Law"
  | 3 => .object "PlayedBack$Law"
  | 4 => .object "PlayedBack$Row"
  | 5 => .object "PlayedBack$Row"
  | 6 => .object "PlayedBack$Row"
  | 7 => .int
  | 8 => .int
  | 9 => .int
  | 10 => .int
  | _ => .int
def TX3 : u_T := fun k => match k with
  | 0 => ("PlayedBack$Reader", "tape", "LPlayedBack$Row;", true)
  | 1 => ("PlayedBack$Reader", "names", "Ljava/lang/String;", false)
  | 2 => ("PlayedBack$Reader", "at", "I", false)
  | _ => ("PlayedBack$Reader", "code", "LPlayedBack$Row;", true)
def tyX3 : Nat → FieldType := fun k => match k with
  | 0 => .object "PlayedBack$Row"
  | 1 => .object "java/lang/String"
  | 2 => .int
  | _ => .object "PlayedBack$Row"
def TX4 : u_T := fun k => match k with
  | 0 => ("PlayedBack$Row", "items", "[I", true)
  | _ => ("PlayedBack$Row", "size", "I", false)
def tyX4 : Nat → FieldType := fun k => match k with
  | 0 => .array .int
  | _ => .int
def TX5 : u_T := fun k => match k with
  | 0 => ("PlayedBack$Scene", "number", "I", true)
  | 1 => ("PlayedBack$Scene", "kind", "I", false)
  | 2 => ("PlayedBack$Scene", "m", "I", false)
  | 3 => ("PlayedBack$Scene", "causes", "I", false)
  | 4 => ("PlayedBack$Scene", "minutes", "I", false)
  | 5 => ("PlayedBack$Scene", "cast", "I", false)
  | 6 => ("PlayedBack$Scene", "prop", "I", false)
  | 7 => ("PlayedBack$Scene", "takenAt", "I", false)
  | 8 => ("PlayedBack$Scene", "leftAt", "I", false)
  | _ => ("PlayedBack$Scene", "will", "I", false)
def tyX5 : Nat → FieldType := fun k => match k with
  | 0 => .int
  | 1 => .int
  | 2 => .int
  | 3 => .int
  | 4 => .int
  | 5 => .int
  | 6 => .int
  | 7 => .int
  | 8 => .int
  | _ => .int
def TX6 : u_T := fun k => match k with
  | 0 => ("PlayedBack$Sheet", "numbers", "LPlayedBack$Row;", true)
  | _ => ("PlayedBack$Sheet", "bits", "I", false)
def tyX6 : Nat → FieldType := fun k => match k with
  | 0 => .object "PlayedBack$Row"
  | _ => .int
def TX7 : u_T := fun k => match k with
  | _ => ("PlayedBack$Voices", "bodies", "LPlayedBack$Row;", true)
def tyX7 : Nat → FieldType := fun k => match k with
  | _ => .object "PlayedBack$Row"
def TX8 : u_T := fun k => match k with
  | 0 => ("PlayedBack$Worlds", "play", "LPlayedBack$Play;", true)
  | _ => ("PlayedBack$Worlds", "differences", "LPlayedBack$Row;", true)
def tyX8 : Nat → FieldType := fun k => match k with
  | 0 => .object "PlayedBack$Play"
  | _ => .object "PlayedBack$Row"
def TX9 : u_T := fun k => match k with
  | 0 => ("PlayedBack", "play", "LPlayedBack$Play;", true)
  | 1 => ("PlayedBack", "kept", "LPlayedBack$Play;", true)
  | 2 => ("PlayedBack", "choices", "LPlayedBack$Choices;", true)
  | 3 => ("PlayedBack", "worlds", "LPlayedBack$Worlds;", true)
  | 4 => ("PlayedBack", "reader", "LPlayedBack$Reader;", true)
  | 5 => ("PlayedBack", "voices", "LPlayedBack$Voices;", true)
  | 6 => ("PlayedBack", "sheets", "[LPlayedBack$Sheet;", true)
  | 7 => ("PlayedBack", "errors", "[I", true)
  | _ => ("PlayedBack", "images", "I", false)
def tyX9 : Nat → FieldType := fun k => match k with
  | 0 => .object "PlayedBack$Play"
  | 1 => .object "PlayedBack$Play"
  | 2 => .object "PlayedBack$Choices"
  | 3 => .object "PlayedBack$Worlds"
  | 4 => .object "PlayedBack$Reader"
  | 5 => .object "PlayedBack$Voices"
  | 6 => .array (.object "PlayedBack$Sheet")
  | 7 => .array .int
  | _ => .int
def TX10 : u_T := fun k => match k with
  | 0 => ("PlayedBackModel", "d", "[I", true)
  | 1 => ("PlayedBackModel", "kept", "[I", true)
  | 2 => ("PlayedBackModel", "images", "I", false)
  | 3 => ("PlayedBackModel", "found", "[I", true)
  | 4 => ("PlayedBackModel", "base", "I", false)
  | 5 => ("PlayedBackModel", "at", "I", false)
  | 6 => ("PlayedBackModel", "size", "I", false)
  | 7 => ("PlayedBackModel", "fault", "I", false)
  | 8 => ("PlayedBackModel", "opened", "I", false)
  | 9 => ("PlayedBackModel", "isClap", "Z", false)
  | 10 => ("PlayedBackModel", "names", "[I", true)
  | 11 => ("PlayedBackModel", "row", "[I", true)
  | 12 => ("PlayedBackModel", "guessBy", "[I", true)
  | 13 => ("PlayedBackModel", "lies", "[I", true)
  | 14 => ("PlayedBackModel", "bestRow", "[I", true)
  | 15 => ("PlayedBackModel", "bestOf", "I", false)
  | 16 => ("PlayedBackModel", "manyOrders", "I", false)
  | 17 => ("PlayedBackModel", "wills", "[I", true)
  | 18 => ("PlayedBackModel", "traced", "[I", true)
  | 19 => ("PlayedBackModel", "traceMany", "I", false)
  | 20 => ("PlayedBackModel", "who", "I", false)
  | 21 => ("PlayedBackModel", "bitsOf", "[I", true)
  | 22 => ("PlayedBackModel", "sizeOf", "[I", true)
  | 23 => ("PlayedBackModel", "number", "[I", true)
  | _ => ("PlayedBackModel", "lifted", "[I", true)
def tyX10 : Nat → FieldType := fun k => match k with
  | 0 => .array .int
  | 1 => .array .int
  | 2 => .int
  | 3 => .array .int
  | 4 => .int
  | 5 => .int
  | 6 => .int
  | 7 => .int
  | 8 => .int
  | 9 => .boolean
  | 10 => .array .int
  | 11 => .array .int
  | 12 => .array .int
  | 13 => .array .int
  | 14 => .array .int
  | 15 => .int
  | 16 => .int
  | 17 => .array .int
  | 18 => .array .int
  | 19 => .int
  | 20 => .int
  | 21 => .array .int
  | 22 => .array .int
  | 23 => .array .int
  | _ => .array .int
theorem nmX0 : ∀ a, a < 7 → ∀ b, b < 7 → a ≠ b → (TX0 a).2.1 ≠ (TX0 b).2.1 := by decide +kernel
theorem tyX0_ok : ∀ k, k < 7 → parseFieldDescriptor (TX0 k).2.2.1 = some (tyX0 k) := by decide +kernel
theorem nmX1 : ∀ a, a < 3 → ∀ b, b < 3 → a ≠ b → (TX1 a).2.1 ≠ (TX1 b).2.1 := by decide +kernel
theorem tyX1_ok : ∀ k, k < 3 → parseFieldDescriptor (TX1 k).2.2.1 = some (tyX1 k) := by decide +kernel
theorem nmX2 : ∀ a, a < 12 → ∀ b, b < 12 → a ≠ b → (TX2 a).2.1 ≠ (TX2 b).2.1 := by decide +kernel
theorem tyX2_ok : ∀ k, k < 12 → parseFieldDescriptor (TX2 k).2.2.1 = some (tyX2 k) := by decide +kernel
theorem nmX3 : ∀ a, a < 4 → ∀ b, b < 4 → a ≠ b → (TX3 a).2.1 ≠ (TX3 b).2.1 := by decide +kernel
theorem tyX3_ok : ∀ k, k < 4 → parseFieldDescriptor (TX3 k).2.2.1 = some (tyX3 k) := by decide +kernel
theorem nmX4 : ∀ a, a < 2 → ∀ b, b < 2 → a ≠ b → (TX4 a).2.1 ≠ (TX4 b).2.1 := by decide +kernel
theorem tyX4_ok : ∀ k, k < 2 → parseFieldDescriptor (TX4 k).2.2.1 = some (tyX4 k) := by decide +kernel
theorem nmX5 : ∀ a, a < 10 → ∀ b, b < 10 → a ≠ b → (TX5 a).2.1 ≠ (TX5 b).2.1 := by decide +kernel
theorem tyX5_ok : ∀ k, k < 10 → parseFieldDescriptor (TX5 k).2.2.1 = some (tyX5 k) := by decide +kernel
theorem nmX6 : ∀ a, a < 2 → ∀ b, b < 2 → a ≠ b → (TX6 a).2.1 ≠ (TX6 b).2.1 := by decide +kernel
theorem tyX6_ok : ∀ k, k < 2 → parseFieldDescriptor (TX6 k).2.2.1 = some (tyX6 k) := by decide +kernel
theorem nmX7 : ∀ a, a < 1 → ∀ b, b < 1 → a ≠ b → (TX7 a).2.1 ≠ (TX7 b).2.1 := by decide +kernel
theorem tyX7_ok : ∀ k, k < 1 → parseFieldDescriptor (TX7 k).2.2.1 = some (tyX7 k) := by decide +kernel
theorem nmX8 : ∀ a, a < 2 → ∀ b, b < 2 → a ≠ b → (TX8 a).2.1 ≠ (TX8 b).2.1 := by decide +kernel
theorem tyX8_ok : ∀ k, k < 2 → parseFieldDescriptor (TX8 k).2.2.1 = some (tyX8 k) := by decide +kernel
theorem nmX9 : ∀ a, a < 9 → ∀ b, b < 9 → a ≠ b → (TX9 a).2.1 ≠ (TX9 b).2.1 := by decide +kernel
theorem tyX9_ok : ∀ k, k < 9 → parseFieldDescriptor (TX9 k).2.2.1 = some (tyX9 k) := by decide +kernel
theorem nmX10 : ∀ a, a < 25 → ∀ b, b < 25 → a ≠ b → (TX10 a).2.1 ≠ (TX10 b).2.1 := by decide +kernel
theorem tyX10_ok : ∀ k, k < 25 → parseFieldDescriptor (TX10 k).2.2.1 = some (tyX10 k) := by decide +kernel
abbrev vwCl : List vw_C := [(RX0, TX0, 7), (RX1, TX1, 3), (RX2, TX2, 12), (RX3, TX3, 4), (RX4, TX4, 2), (RX5, TX5, 10), (RX6, TX6, 2), (RX7, TX7, 1), (RX8, TX8, 2), (RX9, TX9, 9), (RX10, TX10, 25)]
def TS : u_T := fun k => match k with
  | 0 => ("java/lang/String", "value", "[B", true)
  | _ => ("java/lang/String", "coder", "B", true)
/-- class numbers -/
def cNm : Nat → String
  | 0 => RX0
  | 1 => RX1
  | 2 => RX2
  | 3 => RX3
  | 4 => RX4
  | 5 => RX5
  | 6 => RX6
  | 7 => RX7
  | 8 => RX8
  | 9 => RX9
  | 10 => RX10
  | 11 => RJ0
  | 12 => RJ1
  | 13 => RJ6
  | 14 => RJ9
  | _ => RL
def cTt : Nat → u_T
  | 0 => TX0
  | 1 => TX1
  | 2 => TX2
  | 3 => TX3
  | 4 => TX4
  | 5 => TX5
  | 6 => TX6
  | 7 => TX7
  | 8 => TX8
  | 9 => TX9
  | 10 => TX10
  | _ => TS
def cTy : Nat → Nat → FieldType
  | 0 => tyX0
  | 1 => tyX1
  | 2 => tyX2
  | 3 => tyX3
  | 4 => tyX4
  | 5 => tyX5
  | 6 => tyX6
  | 7 => tyX7
  | 8 => tyX8
  | 9 => tyX9
  | _ => tyX10
def cNf : Nat → Nat
  | 0 => 7
  | 1 => 3
  | 2 => 12
  | 3 => 4
  | 4 => 2
  | 5 => 10
  | 6 => 2
  | 7 => 1
  | 8 => 2
  | 9 => 9
  | 10 => 25
  | 11 => 2
  | _ => 0
/-- kinds of fields: 0 int, 1 boolean, 2 reference -/
def cKd : Nat → List Nat
  | 0 => [2, 2, 2, 2, 2, 2, 2]
  | 1 => [0, 2, 2]
  | 2 => [2, 2, 2, 2, 2, 2, 2, 0, 0, 0, 0, 0]
  | 3 => [2, 2, 0, 2]
  | 4 => [2, 0]
  | 5 => [0, 0, 0, 0, 0, 0, 0, 0, 0, 0]
  | 6 => [2, 0]
  | 7 => [2]
  | 8 => [2, 2]
  | 9 => [2, 2, 2, 2, 2, 2, 2, 2, 0]
  | 10 => [2, 2, 0, 2, 0, 0, 0, 0, 0, 1, 2, 2, 2, 2, 2, 0, 0, 2, 2, 0, 0, 2, 2, 2, 2]
  | 11 => [2, 0]
  | _ => []
/-- methods: class, name, descriptor, bytes, locals, what it returns, kinds of what it takes (0 int, 1 long, 2 reference), static; places of its words: code, instanceMethod or static, selects -/
abbrev pM : Type := Nat × String × String × ByteArray × Nat × Option FieldType × List Nat × Bool × Nat × Nat × Nat
def pMs0 : List pM := [(0, "<init>", "(LPlayedBack$Play;)V", prog_2_method_1_code, 2, none, [2, 2], false, 257, 256, 0),
  (0, "has", "(II)Z", prog_2_method_2_code, 2, (some .boolean), [0, 0], true, 820, 819, 0),
  (0, "waysOf", "(I)I", prog_2_method_3_code, 1, (some .int), [0], true, 883, 882, 0),
  (0, "askGuesses", "()V", prog_2_method_4_code, 3, none, [2], false, 810, 809, 11),
  (0, "guessAfter", "(II)I", prog_2_method_5_code, 3, (some .int), [2, 0, 0], false, 824, 823, 13),
  (0, "weighGuesses", "()V", prog_2_method_6_code, 8, none, [2], false, 816, 815, 12),
  (0, "findLeastGuessed", "()I", prog_2_method_7_code, 4, (some .int), [2], false, 806, 804, 805),
  (0, "leastNext", "(I)I", prog_2_method_8_code, 3, (some .int), [2, 0], false, 834, 833, 14),
  (0, "howManyUpTo", "(I)I", prog_2_method_9_code, 2, (some .int), [2, 0], false, 880, 878, 879),
  (0, "countUpTo", "(III)I", prog_2_method_10_code, 8, (some .int), [2, 0, 0, 0], false, 890, 889, 19),
  (0, "findFewestHands", "()I", prog_2_method_11_code, 5, (some .int), [2], false, 843, 841, 842),
  (0, "weighHands", "()V", prog_2_method_12_code, 4, none, [2], false, 847, 846, 15),
  (0, "fewestAfter", "(III)I", prog_2_method_13_code, 6, (some .int), [2, 0, 0, 0], false, 851, 850, 16),
  (0, "handsBy", "(III)I", prog_2_method_14_code, 5, (some .int), [2, 0, 0, 0], false, 855, 854, 17),
  (0, "handiestNext", "(I)I", prog_2_method_15_code, 5, (some .int), [2, 0], false, 872, 871, 18),
  (1, "<init>", "(I)V", prog_3_method_1_code, 2, none, [2, 0], false, 188, 187, 0)]
def pMs1 : List pM := [(1, "gives", "(III)I", prog_3_method_2_code, 4, (some .int), [2, 0, 0, 0], false, 575, 573, 574),
  (1, "worth", "(III)I", prog_3_method_3_code, 7, (some .int), [2, 0, 0, 0], false, 579, 578, 4),
  (1, "joined", "(III)I", prog_3_method_4_code, 3, (some .int), [0, 0, 0], true, 595, 594, 0),
  (2, "<init>", "()V", prog_4_method_1_code, 2, none, [2], false, 105, 104, 0),
  (2, "at", "(I)LPlayedBack$Scene;", prog_4_method_2_code, 2, (some (.object "PlayedBack$Scene")), [2, 0], false, 415, 413, 414),
  (2, "lawOf", "(I)LPlayedBack$Law;", prog_4_method_3_code, 2, (some (.object "PlayedBack$Law")), [2, 0], false, 777, 775, 776),
  (2, "all", "()I", prog_4_method_4_code, 1, (some .int), [2], false, 400, 398, 399),
  (2, "open", "(IIII)I", prog_4_method_5_code, 6, (some .int), [2, 0, 0, 0, 0], false, 411, 409, 410),
  (2, "wills", "()I", prog_4_method_6_code, 3, (some .int), [2], false, 449, 447, 448),
  (2, "starts", "()I", prog_4_method_7_code, 3, (some .int), [2], false, 902, 900, 901),
  (2, "happening", "()I", prog_4_method_8_code, 1, (some .int), [2], false, 445, 443, 444),
  (2, "outcome", "(III)I", prog_4_method_9_code, 8, (some .int), [2, 0, 0, 0], false, 453, 451, 452),
  (2, "killedBy", "(II)I", prog_4_method_10_code, 5, (some .int), [2, 0, 0], false, 471, 469, 470),
  (2, "isBroken", "(II)Z", prog_4_method_11_code, 5, (some .boolean), [2, 0, 0], false, 487, 485, 486),
  (2, "firstBroken", "()I", prog_4_method_12_code, 3, (some .int), [2], false, 619, 617, 618),
  (2, "givenAhead", "(I)I", prog_4_method_13_code, 4, (some .int), [2, 0], false, 567, 565, 566)]
def pMs2 : List pM := [(2, "guessAt", "(I)I", prog_4_method_14_code, 3, (some .int), [2, 0], false, 562, 560, 561),
  (2, "guessOf", "(II)I", prog_4_method_15_code, 4, (some .int), [2, 0, 0], false, 571, 569, 570),
  (2, "guessed", "()I", prog_4_method_16_code, 5, (some .int), [2], false, 951, 949, 950),
  (2, "firstWrongGuess", "()I", prog_4_method_17_code, 2, (some .int), [2], false, 1093, 1091, 1092),
  (2, "understoodBy", "(I)I", prog_4_method_18_code, 5, (some .int), [2, 0], false, 611, 609, 610),
  (2, "hands", "()I", prog_4_method_19_code, 5, (some .int), [2], false, 955, 953, 954),
  (2, "rises", "()I", prog_4_method_20_code, 6, (some .int), [2], false, 963, 961, 962),
  (2, "minutes", "()I", prog_4_method_21_code, 3, (some .int), [2], false, 1105, 1103, 1104),
  (2, "isWholeOrder", "(LPlayedBack$Row;)Z", prog_4_method_22_code, 5, (some .boolean), [2, 2], false, 1059, 1057, 1058),
  (2, "clap", "()I", prog_4_method_23_code, 1, (some .int), [2], false, 947, 945, 946),
  (2, "giveEvening", "(I)V", prog_4_method_24_code, 2, none, [2, 0], false, 967, 965, 966),
  (2, "loosen", "()V", prog_4_method_25_code, 3, none, [2], false, 978, 976, 977),
  (2, "copyFrom", "(LPlayedBack$Play;)V", prog_4_method_26_code, 3, none, [2, 2], false, 1072, 1070, 1071),
  (3, "<init>", "(LPlayedBack$Row;)V", prog_5_method_1_code, 2, none, [2, 2], false, 304, 303, 0),
  (3, "faultIn", "(I)I", prog_5_method_2_code, 3, (some .int), [2, 0], false, 655, 653, 654),
  (3, "here", "()I", prog_5_method_3_code, 1, (some .int), [2], false, 670, 669, 7)]
def pMs3 : List pM := [(3, "levelOf", "(I)I", prog_5_method_4_code, 1, (some .int), [0], true, 772, 771, 0),
  (3, "readsLevel", "(II)Z", prog_5_method_5_code, 6, (some .boolean), [2, 0, 0], false, 662, 661, 5),
  (3, "readsInnermost", "(I)Z", prog_5_method_6_code, 4, (some .boolean), [2, 0], false, 666, 665, 6),
  (3, "readsNegated", "(I)Z", prog_5_method_7_code, 2, (some .boolean), [2, 0], false, 765, 764, 9),
  (3, "readsClosing", "()Z", prog_5_method_8_code, 1, (some .boolean), [2], false, 769, 768, 10),
  (3, "readNumber", "()V", prog_5_method_9_code, 3, none, [2], false, 678, 677, 8),
  (3, "isDigit", "(I)Z", prog_5_method_10_code, 1, (some .boolean), [0], true, 674, 673, 0),
  (4, "<init>", "(I)V", prog_6_method_1_code, 2, none, [2, 0], false, 166, 165, 0),
  (4, "full", "(I)LPlayedBack$Row;", prog_6_method_2_code, 2, (some (.object "PlayedBack$Row")), [0], true, 161, 160, 0),
  (4, "at", "(I)I", prog_6_method_3_code, 2, (some .int), [2, 0], false, 536, 534, 535),
  (4, "change", "(II)V", prog_6_method_4_code, 3, none, [2, 0, 0], false, 638, 636, 637),
  (4, "add", "(I)V", prog_6_method_5_code, 2, none, [2, 0], false, 588, 586, 587),
  (4, "takeLast", "()I", prog_6_method_6_code, 1, (some .int), [2], false, 592, 590, 591),
  (4, "insert", "(II)V", prog_6_method_7_code, 4, none, [2, 0, 0], false, 427, 425, 426),
  (4, "removeAt", "(I)V", prog_6_method_8_code, 3, none, [2, 0], false, 549, 547, 548),
  (4, "find", "(I)I", prog_6_method_9_code, 3, (some .int), [2, 0], false, 544, 542, 543)]
def pMs4 : List pM := [(4, "swap", "(II)V", prog_6_method_10_code, 4, none, [2, 0, 0], false, 634, 632, 633),
  (4, "reverse", "()V", prog_6_method_11_code, 2, none, [2], false, 630, 628, 629),
  (4, "clear", "()V", prog_6_method_12_code, 1, none, [2], false, 583, 581, 582),
  (4, "resize", "(I)V", prog_6_method_13_code, 2, none, [2, 0], false, 1030, 1028, 1029),
  (4, "changeAll", "(I)V", prog_6_method_14_code, 3, none, [2, 0], false, 868, 866, 867),
  (4, "copyFrom", "(LPlayedBack$Row;)V", prog_6_method_15_code, 2, none, [2, 2], false, 781, 779, 780),
  (4, "spans", "(II)Z", prog_6_method_16_code, 3, (some .boolean), [2, 0, 0], false, 790, 788, 789),
  (4, "overwrite", "(ILPlayedBack$Row;II)V", prog_6_method_17_code, 5, none, [2, 0, 2, 0, 0], false, 786, 784, 785),
  (5, "<init>", "(I)V", prog_7_method_1_code, 2, none, [2, 0], false, 112, 111, 0),
  (5, "begin", "(IIII)V", prog_7_method_2_code, 5, none, [2, 0, 0, 0, 0], false, 419, 417, 418),
  (5, "carry", "(III)V", prog_7_method_3_code, 4, none, [2, 0, 0, 0], false, 423, 421, 422),
  (5, "own", "(I)I", prog_7_method_4_code, 2, (some .int), [2, 0], false, 493, 491, 492),
  (5, "mayHave", "(II)Z", prog_7_method_5_code, 2, (some .boolean), [0, 0], true, 514, 513, 0),
  (5, "change", "(II)I", prog_7_method_6_code, 4, (some .int), [2, 0, 0], false, 519, 517, 518),
  (5, "shock", "()I", prog_7_method_7_code, 1, (some .int), [2], false, 497, 495, 496),
  (5, "comesOf", "(II)Z", prog_7_method_8_code, 4, (some .boolean), [2, 0, 0], false, 463, 461, 462)]
def pMs5 : List pM := [(5, "beginsAt", "(I)I", prog_7_method_9_code, 2, (some .int), [2, 0], false, 863, 861, 862),
  (5, "endsAt", "(I)I", prog_7_method_10_code, 2, (some .int), [2, 0], false, 859, 857, 858),
  (5, "copyFrom", "(LPlayedBack$Scene;)V", prog_7_method_11_code, 2, none, [2, 2], false, 1076, 1074, 1075),
  (6, "<init>", "()V", prog_8_method_1_code, 1, none, [2], false, 342, 341, 0),
  (6, "lay", "(II)V", prog_8_method_2_code, 3, none, [2, 0, 0], false, 1026, 1024, 1025),
  (6, "write", "(II)V", prog_8_method_3_code, 4, none, [2, 0, 0], false, 1044, 1042, 1043),
  (7, "<init>", "()V", prog_9_method_1_code, 1, none, [2], false, 328, 327, 0),
  (7, "ownerOf", "(II)I", prog_9_method_2_code, 4, (some .int), [0, 0], true, 995, 994, 0),
  (7, "bodyOf", "(II)I", prog_9_method_3_code, 3, (some .int), [0, 0], true, 998, 997, 0),
  (7, "speak", "(LPlayedBack$Scene;IIII)I", prog_9_method_4_code, 8, (some .int), [2, 2, 0, 0, 0, 0], false, 992, 990, 991),
  (7, "run", "(ILPlayedBack$Scene;III)I", prog_9_method_5_code, 7, (some .int), [2, 0, 2, 0, 0, 0], false, 1006, 1005, 21),
  (8, "<init>", "(LPlayedBack$Play;)V", prog_10_method_1_code, 2, none, [2, 2], false, 289, 288, 0),
  (8, "leastChange", "(II)I", prog_10_method_2_code, 8, (some .int), [2, 0, 0], false, 898, 896, 897),
  (8, "compare", "()V", prog_10_method_3_code, 4, none, [2], false, 914, 912, 913),
  (8, "likeUpTo", "(I)I", prog_10_method_4_code, 5, (some .int), [2, 0], false, 921, 919, 920),
  (9, "<init>", "()V", prog_1_method_1_code, 2, none, [2], false, 97, 96, 0)]
def pMs6 : List pM := [(9, "scene", "(IIII)I", prog_1_method_2_code, 5, (some .int), [2, 0, 0, 0, 0], false, 386, 384, 385),
  (9, "prop", "(IIII)I", prog_1_method_3_code, 5, (some .int), [2, 0, 0, 0, 0], false, 431, 429, 430),
  (9, "ofScene", "(II)I", prog_1_method_4_code, 4, (some .int), [2, 0, 0], false, 441, 439, 440),
  (9, "become", "(II)I", prog_1_method_5_code, 5, (some .int), [2, 0, 0], false, 501, 499, 500),
  (9, "as", "(II)I", prog_1_method_6_code, 3, (some .int), [2, 0, 0], false, 505, 503, 504),
  (9, "set", "(III)I", prog_1_method_7_code, 4, (some .int), [2, 0, 0, 0], false, 511, 509, 510),
  (9, "comes", "()I", prog_1_method_8_code, 1, (some .int), [2], false, 524, 522, 523),
  (9, "given", "(I)I", prog_1_method_9_code, 2, (some .int), [2, 0], false, 528, 526, 527),
  (9, "place", "(II)I", prog_1_method_10_code, 4, (some .int), [2, 0, 0], false, 540, 538, 539),
  (9, "back", "(I)I", prog_1_method_11_code, 3, (some .int), [2, 0], false, 554, 552, 553),
  (9, "guess", "(I)I", prog_1_method_12_code, 2, (some .int), [2, 0], false, 558, 556, 557),
  (9, "understood", "(I)I", prog_1_method_13_code, 2, (some .int), [2, 0], false, 607, 605, 606),
  (9, "flaw", "()I", prog_1_method_14_code, 2, (some .int), [2], false, 615, 613, 614),
  (9, "turn", "()I", prog_1_method_15_code, 1, (some .int), [2], false, 626, 624, 625),
  (9, "feed", "(JI)I", prog_1_method_16_code, 5, (some .int), [2, 1, 0], false, 642, 640, 641),
  (9, "text", "(I)I", prog_1_method_17_code, 3, (some .int), [2, 0], false, 648, 646, 647)]
def pMs7 : List pM := [(9, "law", "(IIII)I", prog_1_method_18_code, 5, (some .int), [2, 0, 0, 0, 0], false, 797, 795, 796),
  (9, "least", "(I)I", prog_1_method_19_code, 3, (some .int), [2, 0], false, 802, 800, 801),
  (9, "fewest", "(I)I", prog_1_method_20_code, 3, (some .int), [2, 0], false, 839, 837, 838),
  (9, "orders", "(I)I", prog_1_method_21_code, 2, (some .int), [2, 0], false, 876, 874, 875),
  (9, "mended", "(III)I", prog_1_method_22_code, 5, (some .int), [2, 0, 0, 0], false, 894, 892, 893),
  (9, "thought", "(I)I", prog_1_method_23_code, 2, (some .int), [2, 0], false, 910, 908, 909),
  (9, "sure", "()I", prog_1_method_24_code, 2, (some .int), [2], false, 928, 926, 927),
  (9, "explained", "(II)I", prog_1_method_25_code, 5, (some .int), [2, 0, 0], false, 932, 930, 931),
  (9, "evenings", "(I)I", prog_1_method_26_code, 5, (some .int), [2, 0], false, 938, 936, 937),
  (9, "loose", "(I)I", prog_1_method_27_code, 4, (some .int), [2, 0], false, 974, 972, 973),
  (9, "seed", "(I)I", prog_1_method_28_code, 3, (some .int), [2, 0], false, 984, 982, 983),
  (9, "voice", "(III)I", prog_1_method_29_code, 4, (some .int), [2, 0, 0, 0], false, 988, 986, 987),
  (9, "trace", "(I)I", prog_1_method_30_code, 2, (some .int), [2, 0], false, 1011, 1009, 1010),
  (9, "sheet", "(III)I", prog_1_method_31_code, 4, (some .int), [2, 0, 0, 0], false, 1015, 1013, 1014),
  (9, "put", "(III)I", prog_1_method_32_code, 5, (some .int), [2, 0, 0, 0], false, 1036, 1034, 1035),
  (9, "move", "(IIIII)I", prog_1_method_33_code, 8, (some .int), [2, 0, 0, 0, 0, 0], false, 1049, 1047, 1048)]
def pMs8 : List pM := [(9, "order", "(I)I", prog_1_method_34_code, 3, (some .int), [2, 0], false, 1055, 1053, 1054),
  (9, "judge", "(I)I", prog_1_method_35_code, 7, (some .int), [2, 0], false, 1064, 1062, 1063),
  (9, "image", "()I", prog_1_method_36_code, 1, (some .int), [2], false, 1068, 1066, 1067),
  (9, "restore", "()I", prog_1_method_37_code, 1, (some .int), [2], false, 1081, 1079, 1080),
  (9, "tell", "(I)I", prog_1_method_38_code, 2, (some .int), [2, 0], false, 1085, 1083, 1084),
  (9, "check", "()I", prog_1_method_39_code, 2, (some .int), [2], false, 1089, 1087, 1088),
  (9, "count", "(I)I", prog_1_method_40_code, 2, (some .int), [2, 0], false, 1098, 1096, 1097),
  (9, "told", "(I)I", prog_1_method_41_code, 2, (some .int), [2, 0], false, 1109, 1107, 1108),
  (9, "wrong", "(I)I", prog_1_method_42_code, 3, (some .int), [2, 0], false, 405, 404, 1),
  (9, "stands", "(I)Z", prog_1_method_43_code, 2, (some .boolean), [2, 0], false, 435, 434, 2),
  (9, "isPlace", "(I)Z", prog_1_method_44_code, 2, (some .boolean), [2, 0], false, 532, 531, 3),
  (9, "isSet", "(I)Z", prog_1_method_45_code, 2, (some .boolean), [2, 0], false, 396, 395, 0),
  (9, "isKindAndM", "(I)Z", prog_1_method_46_code, 1, (some .boolean), [0], true, 389, 388, 0),
  (9, "isUse", "(I)Z", prog_1_method_47_code, 1, (some .boolean), [0], true, 651, 650, 0),
  (9, "isSheet", "(I)Z", prog_1_method_48_code, 1, (some .boolean), [0], true, 1018, 1017, 0),
  (9, "sheetAt", "(I)LPlayedBack$Sheet;", prog_1_method_49_code, 2, (some (.object "PlayedBack$Sheet")), [2, 0], false, 1022, 1021, 22)]
def pMs9 : List pM := [(9, "errorOfSheet", "(I)I", prog_1_method_50_code, 2, (some .int), [2, 0], false, 1040, 1039, 23),
  (9, "errorOfEvenings", "(I)I", prog_1_method_51_code, 2, (some .int), [2, 0], false, 942, 941, 20),
  (9, "within", "(III)Z", prog_1_method_52_code, 3, (some .boolean), [0, 0, 0], true, 392, 391, 0),
  (9, "held", "(III)I", prog_1_method_53_code, 3, (some .int), [0, 0, 0], true, 598, 597, 0),
  (9, "truth", "(Z)I", prog_1_method_54_code, 1, (some .int), [0], true, 467, 466, 0),
  (9, "leastOf", "(I)I", prog_1_method_55_code, 1, (some .int), [0], true, 482, 481, 0),
  (9, "aboveOf", "(I)I", prog_1_method_56_code, 1, (some .int), [0], true, 477, 476, 0),
  (9, "isUnder", "(II)Z", prog_1_method_57_code, 4, (some .boolean), [0, 0], true, 474, 473, 0),
  (10, "<init>", "()V", prog_12_method_1_code, 1, none, [2], false, 1114, 1113, 0),
  (10, "finds", "(I)I", prog_12_method_3_code, 2, (some .int), [2, 0], false, 1203, 1202, 24),
  (10, "in", "(JJJ)Z", prog_12_method_4_code, 6, (some .boolean), [1, 1, 1], true, 1199, 1198, 0),
  (10, "held", "(III)I", prog_12_method_5_code, 3, (some .int), [0, 0, 0], true, 1266, 1265, 0),
  (10, "isScene", "(I)Z", prog_12_method_6_code, 2, (some .boolean), [2, 0], false, 1285, 1284, 38),
  (10, "its", "(II)I", prog_12_method_7_code, 3, (some .int), [2, 0, 0], false, 1296, 1295, 39),
  (10, "puts", "(III)V", prog_12_method_8_code, 4, none, [2, 0, 0, 0], false, 1277, 1276, 37),
  (10, "ones", "(I)I", prog_12_method_9_code, 3, (some .int), [0], true, 1307, 1306, 0)]
def pMs10 : List pM := [(10, "here", "()I", prog_12_method_10_code, 1, (some .int), [2], false, 1241, 1240, 32),
  (10, "wrong", "()I", prog_12_method_11_code, 1, (some .int), [2], false, 1245, 1244, 33),
  (10, "takes", "(I)Z", prog_12_method_12_code, 2, (some .boolean), [2, 0], false, 1249, 1248, 34),
  (10, "nameOf", "(I)I", prog_12_method_13_code, 2, (some .int), [2, 0], false, 1253, 1252, 35),
  (10, "either", "()I", prog_12_method_14_code, 3, (some .int), [2], false, 1217, 1216, 26),
  (10, "both", "()I", prog_12_method_15_code, 3, (some .int), [2], false, 1221, 1220, 27),
  (10, "compared", "()I", prog_12_method_16_code, 4, (some .int), [2], false, 1225, 1224, 28),
  (10, "sum", "()I", prog_12_method_17_code, 4, (some .int), [2], false, 1229, 1228, 29),
  (10, "product", "()I", prog_12_method_18_code, 4, (some .int), [2], false, 1233, 1232, 30),
  (10, "unit", "()I", prog_12_method_19_code, 5, (some .int), [2], false, 1237, 1236, 31),
  (10, "worked", "(III)I", prog_12_method_20_code, 5, (some .int), [2, 0, 0, 0], false, 1213, 1212, 25),
  (10, "feed", "(JI)I", prog_12_method_21_code, 5, (some .int), [2, 1, 0], false, 1195, 1193, 1194),
  (10, "text", "(I)I", prog_12_method_22_code, 5, (some .int), [2, 0], false, 1209, 1207, 1208),
  (10, "textGives", "(IIII)I", prog_12_method_23_code, 6, (some .int), [2, 0, 0, 0, 0], false, 1263, 1262, 36),
  (10, "law", "(IIII)I", prog_12_method_24_code, 5, (some .int), [2, 0, 0, 0, 0], false, 1259, 1257, 1258),
  (10, "above", "(I)I", prog_12_method_25_code, 1, (some .int), [0], true, 1331, 1330, 0)]
def pMs11 : List pM := [(10, "happens", "(II)Z", prog_12_method_26_code, 7, (some .boolean), [2, 0, 0], false, 1304, 1303, 41),
  (10, "allComing", "()I", prog_12_method_27_code, 3, (some .int), [2], false, 1300, 1299, 40),
  (10, "shock", "(I)I", prog_12_method_28_code, 3, (some .int), [2, 0], false, 1311, 1310, 42),
  (10, "kills", "(II)I", prog_12_method_29_code, 5, (some .int), [2, 0, 0], false, 1315, 1314, 43),
  (10, "isBroken", "(I)Z", prog_12_method_30_code, 5, (some .boolean), [2, 0], false, 1319, 1318, 44),
  (10, "scene", "(IIII)I", prog_12_method_31_code, 7, (some .int), [2, 0, 0, 0, 0], false, 1270, 1268, 1269),
  (10, "prop", "(IIII)I", prog_12_method_32_code, 6, (some .int), [2, 0, 0, 0, 0], false, 1281, 1279, 1280),
  (10, "ofScene", "(II)I", prog_12_method_33_code, 3, (some .int), [2, 0, 0], false, 1291, 1289, 1290),
  (10, "become", "(II)I", prog_12_method_34_code, 4, (some .int), [2, 0, 0], false, 1323, 1321, 1322),
  (10, "as", "(II)I", prog_12_method_35_code, 4, (some .int), [2, 0, 0], false, 1327, 1325, 1326),
  (10, "set", "(III)I", prog_12_method_36_code, 7, (some .int), [2, 0, 0, 0], false, 1335, 1333, 1334),
  (10, "comes", "()I", prog_12_method_37_code, 1, (some .int), [2], false, 1339, 1337, 1338),
  (10, "rowAsGiven", "()V", prog_12_method_38_code, 2, none, [2], false, 1367, 1366, 47),
  (10, "findGuesses", "()V", prog_12_method_39_code, 4, none, [2], false, 1371, 1370, 48),
  (10, "guessAt", "(II)I", prog_12_method_40_code, 4, (some .int), [2, 0, 0], false, 1375, 1374, 49),
  (10, "guessedOfRow", "()I", prog_12_method_41_code, 4, (some .int), [2], false, 1408, 1407, 53)]
def pMs12 : List pM := [(10, "handsOfRow", "()I", prog_12_method_42_code, 5, (some .int), [2], false, 1404, 1403, 52),
  (10, "guessed", "()I", prog_12_method_43_code, 1, (some .int), [2], false, 1470, 1469, 61),
  (10, "hands", "()I", prog_12_method_44_code, 1, (some .int), [2], false, 1474, 1473, 62),
  (10, "rises", "()I", prog_12_method_45_code, 7, (some .int), [2], false, 1478, 1477, 63),
  (10, "given", "(I)I", prog_12_method_46_code, 2, (some .int), [2, 0], false, 1343, 1341, 1342),
  (10, "placeOf", "(I)I", prog_12_method_47_code, 3, (some .int), [2, 0], false, 1351, 1350, 45),
  (10, "place", "(II)I", prog_12_method_48_code, 5, (some .int), [2, 0, 0], false, 1347, 1345, 1346),
  (10, "back", "(I)I", prog_12_method_49_code, 3, (some .int), [2, 0], false, 1355, 1353, 1354),
  (10, "guessOf", "(I)I", prog_12_method_50_code, 4, (some .int), [2, 0], false, 1363, 1362, 46),
  (10, "guess", "(I)I", prog_12_method_51_code, 2, (some .int), [2, 0], false, 1359, 1357, 1358),
  (10, "understood", "(I)I", prog_12_method_52_code, 5, (some .int), [2, 0], false, 1379, 1377, 1378),
  (10, "flaw", "()I", prog_12_method_53_code, 2, (some .int), [2], false, 1383, 1381, 1382),
  (10, "turn", "()I", prog_12_method_54_code, 2, (some .int), [2], false, 1387, 1385, 1386),
  (10, "nextRow", "()Z", prog_12_method_55_code, 6, (some .boolean), [2], false, 1412, 1411, 54),
  (10, "goThrough", "(ZI)V", prog_12_method_56_code, 6, none, [2, 0, 0], false, 1400, 1399, 51),
  (10, "bestTold", "(ZI)I", prog_12_method_57_code, 3, (some .int), [2, 0, 0], false, 1395, 1394, 50)]
def pMs13 : List pM := [(10, "least", "(I)I", prog_12_method_58_code, 2, (some .int), [2, 0], false, 1391, 1389, 1390),
  (10, "fewest", "(I)I", prog_12_method_59_code, 2, (some .int), [2, 0], false, 1416, 1414, 1415),
  (10, "orders", "(I)I", prog_12_method_60_code, 2, (some .int), [2, 0], false, 1420, 1418, 1419),
  (10, "keepWills", "()V", prog_12_method_61_code, 2, none, [2], false, 1437, 1436, 57),
  (10, "putWillsBack", "()V", prog_12_method_62_code, 2, none, [2], false, 1441, 1440, 58),
  (10, "roots", "()I", prog_12_method_63_code, 3, (some .int), [2], false, 1429, 1428, 55),
  (10, "comingBy", "(I)I", prog_12_method_64_code, 3, (some .int), [2, 0], false, 1433, 1432, 56),
  (10, "mended", "(III)I", prog_12_method_65_code, 8, (some .int), [2, 0, 0, 0], false, 1425, 1423, 1424),
  (10, "thoughts", "(I)I", prog_12_method_66_code, 7, (some .int), [2, 0], false, 1449, 1448, 59),
  (10, "thought", "(I)I", prog_12_method_67_code, 2, (some .int), [2, 0], false, 1445, 1443, 1444),
  (10, "sure", "()I", prog_12_method_68_code, 2, (some .int), [2], false, 1453, 1451, 1452),
  (10, "explained", "(II)I", prog_12_method_69_code, 6, (some .int), [2, 0, 0], false, 1457, 1455, 1456),
  (10, "evening", "()V", prog_12_method_70_code, 1, none, [2], false, 1466, 1465, 60),
  (10, "evenings", "(I)I", prog_12_method_71_code, 3, (some .int), [2, 0], false, 1461, 1459, 1460),
  (10, "drawn", "()I", prog_12_method_72_code, 1, (some .int), [2], false, 1488, 1487, 64),
  (10, "loose", "(I)I", prog_12_method_73_code, 5, (some .int), [2, 0], false, 1484, 1482, 1483)]
def pMs14 : List pM := [(10, "seed", "(I)I", prog_12_method_74_code, 3, (some .int), [2, 0], false, 1493, 1491, 1492),
  (10, "ran", "(I)V", prog_12_method_75_code, 2, none, [2, 0], false, 1510, 1509, 67),
  (10, "own", "()I", prog_12_method_76_code, 1, (some .int), [2], false, 1502, 1501, 65),
  (10, "opensBy", "(II)I", prog_12_method_77_code, 3, (some .int), [2, 0, 0], false, 1506, 1505, 66),
  (10, "playsBy", "(II)I", prog_12_method_78_code, 4, (some .int), [2, 0, 0], false, 1514, 1513, 68),
  (10, "closesBy", "(II)I", prog_12_method_79_code, 3, (some .int), [2, 0, 0], false, 1518, 1517, 69),
  (10, "tellsBy", "(II)I", prog_12_method_80_code, 4, (some .int), [2, 0, 0], false, 1522, 1521, 70),
  (10, "voice", "(III)I", prog_12_method_81_code, 5, (some .int), [2, 0, 0, 0], false, 1497, 1495, 1496),
  (10, "trace", "(I)I", prog_12_method_82_code, 2, (some .int), [2, 0], false, 1526, 1524, 1525),
  (10, "isSheet", "(I)Z", prog_12_method_83_code, 1, (some .boolean), [0], true, 1533, 1532, 0),
  (10, "sheet", "(III)I", prog_12_method_84_code, 5, (some .int), [2, 0, 0, 0], false, 1530, 1528, 1529),
  (10, "put", "(III)I", prog_12_method_85_code, 4, (some .int), [2, 0, 0, 0], false, 1537, 1535, 1536),
  (10, "move", "(IIIII)I", prog_12_method_86_code, 7, (some .int), [2, 0, 0, 0, 0, 0], false, 1541, 1539, 1540),
  (10, "areScenes", "(I)Z", prog_12_method_87_code, 6, (some .boolean), [2, 0], false, 1549, 1548, 71),
  (10, "order", "(I)I", prog_12_method_88_code, 3, (some .int), [2, 0], false, 1545, 1543, 1544),
  (10, "judge", "(I)I", prog_12_method_89_code, 4, (some .int), [2, 0], false, 1553, 1551, 1552)]
def pMs15 : List pM := [(10, "image", "()I", prog_12_method_90_code, 2, (some .int), [2], false, 1557, 1555, 1556),
  (10, "restore", "()I", prog_12_method_91_code, 2, (some .int), [2], false, 1561, 1559, 1560),
  (10, "tell", "(I)I", prog_12_method_92_code, 2, (some .int), [2, 0], false, 1565, 1563, 1564),
  (10, "check", "()I", prog_12_method_93_code, 3, (some .int), [2], false, 1569, 1567, 1568),
  (10, "longOfAll", "()I", prog_12_method_94_code, 3, (some .int), [2], false, 1577, 1576, 72),
  (10, "count", "(I)I", prog_12_method_95_code, 2, (some .int), [2, 0], false, 1573, 1571, 1572),
  (10, "told", "(I)I", prog_12_method_96_code, 2, (some .int), [2, 0], false, 1581, 1579, 1580),
  (11, "length", "()I", prog_16_method_54_code, 1, (some .int), [2], false, 697, 695, 696),
  (11, "indexOf", "(I)I", prog_16_method_79_code, 2, (some .int), [2, 0], false, 683, 681, 682),
  (11, "indexOf", "(II)I", prog_16_method_80_code, 3, (some .int), [2, 0, 0], false, 687, 685, 686),
  (11, "coder", "()B", prog_16_method_152_code, 1, (some .byte), [2], false, 701, 699, 700),
  (11, "isLatin1", "()Z", prog_16_method_154_code, 1, (some .boolean), [2], false, 691, 689, 690),
  (12, "canEncode", "(I)Z", prog_17_method_4_code, 1, (some .boolean), [0], true, 707, 706, 0),
  (12, "indexOf", "([BIII)I", prog_17_method_22_code, 4, (some .int), [2, 0, 0, 0], true, 704, 703, 0),
  (12, "indexOfChar", "([BIII)I", prog_17_method_23_code, 6, (some .int), [2, 0, 0, 0], true, 712, 711, 0),
  (13, "bitCount", "(I)I", prog_14_method_49_code, 1, (some .int), [0], true, 456, 455, 0)]
def pMs16 : List pM := [(15, "law", "([I)Z", code, 4, (some .boolean), [2], true, 0, 0, 0)]
def pMs : List (List pM) := [pMs0, pMs1, pMs2, pMs3, pMs4, pMs5, pMs6, pMs7, pMs8, pMs9, pMs10, pMs11, pMs12, pMs13, pMs14, pMs15, pMs16]
def pM0 : pM := (15, "", "", code, 0, none, [], true, 0, 0, 0)
def pMt (k : Nat) : pM := (pMs.getD (k / 16) []).getD (k % 16) pM0
def mOwn (k : Nat) : Nat := (pMt k).1
def mYn (k : Nat) : MethodName := ⟨cNm (pMt k).1, (pMt k).2.1, (pMt k).2.2.1⟩
def mCode (k : Nat) : ByteArray := (pMt k).2.2.2.1
def mMax (k : Nat) : Nat := (pMt k).2.2.2.2.1
def mRet (k : Nat) : Option FieldType := (pMt k).2.2.2.2.2.1
def mSig (k : Nat) : List Nat := (pMt k).2.2.2.2.2.2.1
def mSt (k : Nat) : Bool := (pMt k).2.2.2.2.2.2.2.1
def nM : Nat := 257
/-- an instruction, what it means (a constant, a field, a method, a target), a switch's table -/
abbrev pE : Type := Instr × Int × List (Int × Nat)
def pC0 : List (List (Nat × pE)) := [[(0, .aload_n 0, 0, []), (1, .invokespecial 3, (-1), []), (4, .aload_n 0, 0, []), (5, .aload_n 1, 0, []), (6, .putfield 9, 0, []), (9, .aload_n 0, 0, []), (10, .bipush 49, 49, []), (12, .invokestatic 15, 56, []), (15, .putfield 21, 1, []), (18, .aload_n 0, 0, []), (19, .sipush 128, 128, []), (22, .invokestatic 15, 56, []), (25, .putfield 25, 2, []), (28, .aload_n 0, 0, []), (29, .sipush 128, 128, [])],
  [(32, .invokestatic 15, 56, []), (35, .putfield 28, 3, []), (38, .aload_n 0, 0, []), (39, .sipush 896, 896, []), (42, .invokestatic 15, 56, []), (45, .putfield 31, 4, []), (48, .aload_n 0, 0, []), (49, .iconst 4, 4, []), (50, .invokestatic 15, 56, []), (53, .putfield 34, 5, []), (56, .aload_n 0, 0, []), (57, .new 16, 4, []), (60, .dup, 0, []), (61, .bipush 7, 7, []), (63, .invokespecial 37, 55, [])],
  [(66, .putfield 40, 6, []), (69, .return_, 0, [])]] -- X0_init
def pC1 : List (List (Nat × pE)) := [[(0, .iload_n 0, 0, []), (1, .iload_n 1, 0, []), (2, .ishr, 0, []), (3, .iconst 1, 1, []), (4, .iand, 0, []), (5, .iconst 1, 1, []), (6, .if_icmp .ne 7, 13, []), (9, .iconst 1, 1, []), (10, .goto 4, 14, []), (13, .iconst 0, 0, []), (14, .ireturn, 0, [])]] -- X0_has
def pC2 : List (List (Nat × pE)) := [[(0, .iload_n 0, 0, []), (1, .iconst 0, 0, []), (2, .getstatic 43, 1, []), (5, .arraylength, 0, []), (6, .iconst 1, 1, []), (7, .isub, 0, []), (8, .invokestatic 47, 146, []), (11, .ifCond .eq 11, 22, []), (14, .getstatic 43, 1, []), (17, .iload_n 0, 0, []), (18, .iaload, 0, []), (19, .goto 4, 23, []), (22, .iconst 0, 0, []), (23, .ireturn, 0, [])]] -- X0_waysOf
def pC3 : List (List (Nat × pE)) := [[(0, .iconst 0, 0, []), (1, .istore_n 1, 0, []), (2, .iload_n 1, 0, []), (3, .aload_n 0, 0, []), (4, .getfield 9, 0, []), (7, .getfield 51, 71, []), (10, .if_icmp .ge 44, 54, []), (13, .iconst 0, 0, []), (14, .istore_n 2, 0, []), (15, .iload_n 2, 0, []), (16, .iload_n 1, 0, []), (17, .if_icmp .gt 31, 48, []), (20, .aload_n 0, 0, []), (21, .getfield 21, 1, []), (24, .iload_n 1, 0, []), (25, .bipush 7, 7, []), (27, .imul, 0, []), (28, .iload_n 2, 0, []), (29, .iadd, 0, []), (30, .aload_n 0, 0, []), (31, .getfield 9, 0, [])],
  [(34, .iload_n 1, 0, []), (35, .iload_n 2, 0, []), (36, .invokevirtual 57, 33, []), (39, .invokevirtual 61, 58, []), (42, .iinc 2 1, 0, []), (45, .goto (-30), 15, []), (48, .iinc 1 1, 0, []), (51, .goto (-49), 2, []), (54, .return_, 0, [])]] -- X0_askGuesses
def pC4 : List (List (Nat × pE)) := [[(0, .aload_n 0, 0, []), (1, .getfield 21, 1, []), (4, .iload_n 2, 0, []), (5, .bipush 7, 7, []), (7, .imul, 0, []), (8, .aload_n 0, 0, []), (9, .getfield 9, 0, []), (12, .iload_n 2, 0, []), (13, .invokevirtual 65, 20, []), (16, .getfield 69, 163, []), (19, .iload_n 1, 0, []), (20, .iconst (-1), (-1), []), (21, .ixor, 0, []), (22, .iand, 0, []), (23, .invokestatic 74, 255, []), (26, .iadd, 0, []), (27, .invokevirtual 80, 57, []), (30, .ireturn, 0, [])]] -- X0_guessAfter
def pC5 : List (List (Nat × pE)) := [[(0, .aload_n 0, 0, []), (1, .getfield 9, 0, []), (4, .invokevirtual 82, 22, []), (7, .istore_n 1, 0, []), (8, .aload_n 0, 0, []), (9, .getfield 25, 2, []), (12, .iload_n 1, 0, []), (13, .iconst 0, 0, []), (14, .invokevirtual 61, 58, []), (17, .aload_n 0, 0, []), (18, .getfield 28, 3, []), (21, .iload_n 1, 0, []), (22, .iconst 0, 0, []), (23, .invokevirtual 61, 58, []), (26, .iload_n 1, 0, []), (27, .iconst 1, 1, []), (28, .isub, 0, []), (29, .istore_n 2, 0, []), (30, .iload_n 2, 0, []), (31, .ifCond .lt 118, 149, [])],
  [(34, .sipush 9999, 9999, []), (37, .istore_n 3, 0, []), (38, .iconst 0, 0, []), (39, .istore 4, 0, []), (41, .iconst 0, 0, []), (42, .istore 5, 0, []), (44, .iload 5, 0, []), (46, .aload_n 0, 0, []), (47, .getfield 9, 0, []), (50, .getfield 51, 71, []), (53, .if_icmp .ge 71, 124, []), (56, .iload_n 2, 0, []), (57, .iload 5, 0, []), (59, .invokestatic 86, 1, []), (62, .ifCond .ne 56, 118, [])],
  [(65, .iload_n 2, 0, []), (66, .iconst 1, 1, []), (67, .iload 5, 0, []), (69, .ishl, 0, []), (70, .ior, 0, []), (71, .istore 6, 0, []), (73, .aload_n 0, 0, []), (74, .iload_n 2, 0, []), (75, .iload 5, 0, []), (77, .invokevirtual 90, 4, []), (80, .istore 7, 0, []), (82, .iload_n 3, 0, []), (83, .iload 7, 0, []), (85, .aload_n 0, 0, []), (86, .getfield 25, 2, []), (89, .iload 6, 0, []), (91, .invokevirtual 80, 57, []), (94, .iadd, 0, []), (95, .invokestatic 93, (-4), [])],
  [(98, .istore_n 3, 0, []), (99, .iload 4, 0, []), (101, .iload 7, 0, []), (103, .aload_n 0, 0, []), (104, .getfield 28, 3, []), (107, .iload 6, 0, []), (109, .invokevirtual 80, 57, []), (112, .iadd, 0, []), (113, .invokestatic 98, (-3), []), (116, .istore 4, 0, []), (118, .iinc 5 1, 0, []), (121, .goto (-77), 44, []), (124, .aload_n 0, 0, []), (125, .getfield 25, 2, [])],
  [(128, .iload_n 2, 0, []), (129, .iload_n 3, 0, []), (130, .invokevirtual 61, 58, []), (133, .aload_n 0, 0, []), (134, .getfield 28, 3, []), (137, .iload_n 2, 0, []), (138, .iload 4, 0, []), (140, .invokevirtual 61, 58, []), (143, .iinc 2 (-1), 0, []), (146, .goto (-116), 30, []), (149, .return_, 0, [])]] -- X0_weighGuesses
def pC6 : List (List (Nat × pE)) := [[(0, .aload_n 0, 0, []), (1, .invokevirtual 101, 3, []), (4, .aload_n 0, 0, []), (5, .invokevirtual 104, 5, []), (8, .aload_n 0, 0, []), (9, .getfield 40, 6, []), (12, .invokevirtual 107, 66, []), (15, .iconst 0, 0, []), (16, .istore_n 1, 0, []), (17, .iconst 0, 0, []), (18, .istore_n 2, 0, []), (19, .iload_n 2, 0, []), (20, .aload_n 0, 0, []), (21, .getfield 9, 0, []), (24, .getfield 51, 71, []), (27, .if_icmp .ge 29, 56, []), (30, .aload_n 0, 0, []), (31, .iload_n 1, 0, [])],
  [(32, .invokevirtual 110, 7, []), (35, .istore_n 3, 0, []), (36, .aload_n 0, 0, []), (37, .getfield 40, 6, []), (40, .iload_n 3, 0, []), (41, .invokevirtual 113, 59, []), (44, .iload_n 1, 0, []), (45, .iconst 1, 1, []), (46, .iload_n 3, 0, []), (47, .ishl, 0, []), (48, .ior, 0, []), (49, .istore_n 1, 0, []), (50, .iinc 2 1, 0, []), (53, .goto (-34), 19, []), (56, .aload_n 0, 0, []), (57, .getfield 25, 2, []), (60, .iconst 0, 0, []), (61, .invokevirtual 80, 57, [])],
  [(64, .ireturn, 0, [])]] -- X0_findLeastGuessed
def pC7 : List (List (Nat × pE)) := [[(0, .iconst 0, 0, []), (1, .istore_n 2, 0, []), (2, .iload_n 2, 0, []), (3, .aload_n 0, 0, []), (4, .getfield 9, 0, []), (7, .getfield 51, 71, []), (10, .if_icmp .ge 49, 59, []), (13, .iload_n 1, 0, []), (14, .iload_n 2, 0, []), (15, .invokestatic 86, 1, []), (18, .ifCond .ne 35, 53, []), (21, .aload_n 0, 0, []), (22, .iload_n 1, 0, []), (23, .iload_n 2, 0, []), (24, .invokevirtual 90, 4, []), (27, .aload_n 0, 0, []), (28, .getfield 25, 2, []), (31, .iload_n 1, 0, [])],
  [(32, .iconst 1, 1, []), (33, .iload_n 2, 0, []), (34, .ishl, 0, []), (35, .ior, 0, []), (36, .invokevirtual 80, 57, []), (39, .iadd, 0, []), (40, .aload_n 0, 0, []), (41, .getfield 25, 2, []), (44, .iload_n 1, 0, []), (45, .invokevirtual 80, 57, []), (48, .if_icmp .ne 5, 53, []), (51, .iload_n 2, 0, []), (52, .ireturn, 0, []), (53, .iinc 2 1, 0, []), (56, .goto (-54), 2, []), (59, .iconst 0, 0, []), (60, .ireturn, 0, [])]] -- X0_leastNext
def pC8 : List (List (Nat × pE)) := [[(0, .aload_n 0, 0, []), (1, .invokevirtual 101, 3, []), (4, .aload_n 0, 0, []), (5, .invokevirtual 104, 5, []), (8, .aload_n 0, 0, []), (9, .getfield 28, 3, []), (12, .iconst 0, 0, []), (13, .invokevirtual 80, 57, []), (16, .iload_n 1, 0, []), (17, .if_icmp .gt 16, 33, []), (20, .aload_n 0, 0, []), (21, .getfield 9, 0, []), (24, .getfield 51, 71, []), (27, .invokestatic 116, 2, []), (30, .goto 16, 46, [])],
  [(33, .aload_n 0, 0, []), (34, .iload_n 1, 0, []), (35, .iconst 0, 0, []), (36, .aload_n 0, 0, []), (37, .getfield 9, 0, []), (40, .getfield 51, 71, []), (43, .invokevirtual 119, 9, []), (46, .ireturn, 0, [])]] -- X0_howManyUpTo
def pC9 : List (List (Nat × pE)) := [[(0, .iconst 0, 0, []), (1, .istore 4, 0, []), (3, .iconst 0, 0, []), (4, .istore 5, 0, []), (6, .iload 5, 0, []), (8, .aload_n 0, 0, []), (9, .getfield 9, 0, []), (12, .getfield 51, 71, []), (15, .if_icmp .ge 99, 114, []), (18, .iload_n 3, 0, []), (19, .ifCond .le 95, 114, []), (22, .iload_n 2, 0, []), (23, .iload 5, 0, []), (25, .invokestatic 86, 1, []), (28, .ifCond .ne 80, 108, []), (31, .iload_n 2, 0, [])],
  [(32, .iconst 1, 1, []), (33, .iload 5, 0, []), (35, .ishl, 0, []), (36, .ior, 0, []), (37, .istore 6, 0, []), (39, .iload_n 1, 0, []), (40, .aload_n 0, 0, []), (41, .iload_n 2, 0, []), (42, .iload 5, 0, []), (44, .invokevirtual 90, 4, []), (47, .isub, 0, []), (48, .istore 7, 0, []), (50, .aload_n 0, 0, []), (51, .getfield 28, 3, []), (54, .iload 6, 0, []), (56, .invokevirtual 80, 57, []), (59, .iload 7, 0, []), (61, .if_icmp .gt 17, 78, [])],
  [(64, .iload 4, 0, []), (66, .iload_n 3, 0, []), (67, .iconst 1, 1, []), (68, .isub, 0, []), (69, .invokestatic 116, 2, []), (72, .iadd, 0, []), (73, .istore 4, 0, []), (75, .goto 33, 108, []), (78, .aload_n 0, 0, []), (79, .getfield 25, 2, []), (82, .iload 6, 0, []), (84, .invokevirtual 80, 57, []), (87, .iload 7, 0, []), (89, .if_icmp .gt 19, 108, []), (92, .iload 4, 0, []), (94, .aload_n 0, 0, []), (95, .iload 7, 0, [])],
  [(97, .iload 6, 0, []), (99, .iload_n 3, 0, []), (100, .iconst 1, 1, []), (101, .isub, 0, []), (102, .invokevirtual 119, 9, []), (105, .iadd, 0, []), (106, .istore 4, 0, []), (108, .iinc 5 1, 0, []), (111, .goto (-105), 6, []), (114, .iload 4, 0, []), (116, .ireturn, 0, [])]] -- X0_countUpTo
def pC10 : List (List (Nat × pE)) := [[(0, .aload_n 0, 0, []), (1, .invokevirtual 123, 11, []), (4, .aload_n 0, 0, []), (5, .getfield 34, 5, []), (8, .iconst (-1), (-1), []), (9, .invokevirtual 126, 68, []), (12, .iconst 0, 0, []), (13, .istore_n 1, 0, []), (14, .iconst 0, 0, []), (15, .istore_n 2, 0, []), (16, .iload_n 2, 0, []), (17, .iconst 4, 4, []), (18, .if_icmp .ge 19, 37, []), (21, .iload_n 1, 0, []), (22, .aload_n 0, 0, []), (23, .iload_n 2, 0, []), (24, .iconst 0, 0, []), (25, .iconst (-1), (-1), []), (26, .invokevirtual 129, 12, []), (29, .iadd, 0, []), (30, .istore_n 1, 0, []), (31, .iinc 2 1, 0, [])],
  [(34, .goto (-18), 16, []), (37, .aload_n 0, 0, []), (38, .getfield 40, 6, []), (41, .invokevirtual 107, 66, []), (44, .iconst 0, 0, []), (45, .istore_n 2, 0, []), (46, .iconst 0, 0, []), (47, .istore_n 3, 0, []), (48, .iload_n 3, 0, []), (49, .aload_n 0, 0, []), (50, .getfield 9, 0, []), (53, .getfield 51, 71, []), (56, .if_icmp .ge 53, 109, []), (59, .aload_n 0, 0, []), (60, .iload_n 2, 0, []), (61, .invokevirtual 132, 14, [])],
  [(64, .istore 4, 0, []), (66, .aload_n 0, 0, []), (67, .getfield 40, 6, []), (70, .iload 4, 0, []), (72, .invokevirtual 113, 59, []), (75, .iload_n 2, 0, []), (76, .iconst 1, 1, []), (77, .iload 4, 0, []), (79, .ishl, 0, []), (80, .ior, 0, []), (81, .istore_n 2, 0, []), (82, .aload_n 0, 0, []), (83, .getfield 34, 5, []), (86, .aload_n 0, 0, []), (87, .getfield 9, 0, []), (90, .iload 4, 0, []), (92, .invokevirtual 65, 20, []), (95, .getfield 135, 166, [])],
  [(98, .iload 4, 0, []), (100, .invokevirtual 61, 58, []), (103, .iinc 3 1, 0, []), (106, .goto (-58), 48, []), (109, .iload_n 1, 0, []), (110, .ireturn, 0, [])]] -- X0_findFewestHands
def pC11 : List (List (Nat × pE)) := [[(0, .aload_n 0, 0, []), (1, .getfield 9, 0, []), (4, .invokevirtual 82, 22, []), (7, .istore_n 1, 0, []), (8, .iload_n 1, 0, []), (9, .ifCond .lt 73, 82, []), (12, .iconst 0, 0, []), (13, .istore_n 2, 0, []), (14, .iload_n 2, 0, []), (15, .aload_n 0, 0, []), (16, .getfield 9, 0, []), (19, .getfield 51, 71, []), (22, .if_icmp .ge 54, 76, []), (25, .aload_n 0, 0, []), (26, .getfield 9, 0, []), (29, .iload_n 2, 0, []), (30, .invokevirtual 65, 20, [])],
  [(33, .getfield 135, 166, []), (36, .istore_n 3, 0, []), (37, .iload_n 1, 0, []), (38, .iload_n 2, 0, []), (39, .invokestatic 86, 1, []), (42, .ifCond .eq 28, 70, []), (45, .iload_n 3, 0, []), (46, .iconst 4, 4, []), (47, .if_icmp .eq 23, 70, []), (50, .aload_n 0, 0, []), (51, .getfield 31, 4, []), (54, .iload_n 1, 0, []), (55, .bipush 7, 7, []), (57, .imul, 0, []), (58, .iload_n 2, 0, []), (59, .iadd, 0, []), (60, .aload_n 0, 0, []), (61, .iload_n 3, 0, []), (62, .iload_n 1, 0, []), (63, .iload_n 2, 0, [])],
  [(64, .invokevirtual 129, 12, []), (67, .invokevirtual 61, 58, []), (70, .iinc 2 1, 0, []), (73, .goto (-59), 14, []), (76, .iinc 1 (-1), 0, []), (79, .goto (-71), 8, []), (82, .return_, 0, [])]] -- X0_weighHands
def pC12 : List (List (Nat × pE)) := [[(0, .bipush 99, 99, []), (2, .istore 4, 0, []), (4, .iconst 0, 0, []), (5, .istore 5, 0, []), (7, .iload 5, 0, []), (9, .aload_n 0, 0, []), (10, .getfield 9, 0, []), (13, .getfield 51, 71, []), (16, .if_icmp .ge 49, 65, []), (19, .iload_n 2, 0, []), (20, .iload 5, 0, []), (22, .invokestatic 86, 1, []), (25, .ifCond .ne 34, 59, []), (28, .aload_n 0, 0, []), (29, .getfield 9, 0, [])],
  [(32, .iload 5, 0, []), (34, .invokevirtual 65, 20, []), (37, .getfield 135, 166, []), (40, .iload_n 1, 0, []), (41, .if_icmp .ne 18, 59, []), (44, .iload 4, 0, []), (46, .aload_n 0, 0, []), (47, .iload_n 2, 0, []), (48, .iload_n 3, 0, []), (49, .iload 5, 0, []), (51, .invokevirtual 138, 13, []), (54, .invokestatic 93, (-4), []), (57, .istore 4, 0, []), (59, .iinc 5 1, 0, []), (62, .goto (-55), 7, [])],
  [(65, .iload 4, 0, []), (67, .bipush 99, 99, []), (69, .if_icmp .ne 7, 76, []), (72, .iconst 0, 0, []), (73, .goto 5, 78, []), (76, .iload 4, 0, []), (78, .ireturn, 0, [])]] -- X0_fewestAfter
def pC13 : List (List (Nat × pE)) := [[(0, .iconst 0, 0, []), (1, .istore 4, 0, []), (3, .iload_n 2, 0, []), (4, .ifCond .lt 52, 56, []), (7, .aload_n 0, 0, []), (8, .getfield 9, 0, []), (11, .iload_n 2, 0, []), (12, .invokevirtual 65, 20, []), (15, .aload_n 0, 0, []), (16, .getfield 9, 0, []), (19, .getfield 141, 72, []), (22, .invokevirtual 144, 81, []), (25, .aload_n 0, 0, []), (26, .getfield 9, 0, []), (29, .iload_n 3, 0, []), (30, .invokevirtual 65, 20, [])],
  [(33, .aload_n 0, 0, []), (34, .getfield 9, 0, []), (37, .getfield 141, 72, []), (40, .invokevirtual 147, 80, []), (43, .if_icmp .eq 7, 50, []), (46, .iconst 1, 1, []), (47, .goto 4, 51, []), (50, .iconst 0, 0, []), (51, .invokestatic 150, 148, []), (54, .istore 4, 0, []), (56, .iload 4, 0, []), (58, .aload_n 0, 0, []), (59, .getfield 31, 4, []), (62, .iload_n 1, 0, []), (63, .iconst 1, 1, [])],
  [(64, .iload_n 3, 0, []), (65, .ishl, 0, []), (66, .ior, 0, []), (67, .bipush 7, 7, []), (69, .imul, 0, []), (70, .iload_n 3, 0, []), (71, .iadd, 0, []), (72, .invokevirtual 80, 57, []), (75, .iadd, 0, []), (76, .ireturn, 0, [])]] -- X0_handsBy
def pC14 : List (List (Nat × pE)) := [[(0, .iconst 0, 0, []), (1, .istore_n 2, 0, []), (2, .iload_n 2, 0, []), (3, .aload_n 0, 0, []), (4, .getfield 9, 0, []), (7, .getfield 51, 71, []), (10, .if_icmp .ge 65, 75, []), (13, .iload_n 1, 0, []), (14, .iload_n 2, 0, []), (15, .invokestatic 86, 1, []), (18, .ifCond .ne 51, 69, []), (21, .aload_n 0, 0, []), (22, .getfield 9, 0, []), (25, .iload_n 2, 0, []), (26, .invokevirtual 65, 20, []), (29, .getfield 135, 166, [])],
  [(32, .istore_n 3, 0, []), (33, .aload_n 0, 0, []), (34, .getfield 34, 5, []), (37, .iload_n 3, 0, []), (38, .invokevirtual 80, 57, []), (41, .istore 4, 0, []), (43, .iload_n 3, 0, []), (44, .iconst 4, 4, []), (45, .if_icmp .eq 22, 67, []), (48, .aload_n 0, 0, []), (49, .iload_n 1, 0, []), (50, .iload 4, 0, []), (52, .iload_n 2, 0, []), (53, .invokevirtual 138, 13, []), (56, .aload_n 0, 0, []), (57, .iload_n 3, 0, []), (58, .iload_n 1, 0, []), (59, .iload 4, 0, []), (61, .invokevirtual 129, 12, [])],
  [(64, .if_icmp .ne 5, 69, []), (67, .iload_n 2, 0, []), (68, .ireturn, 0, []), (69, .iinc 2 1, 0, []), (72, .goto (-70), 2, []), (75, .iconst 0, 0, []), (76, .ireturn, 0, [])]] -- X0_handiestNext
def pC15 : List (List (Nat × pE)) := [[(0, .aload_n 0, 0, []), (1, .invokespecial 3, (-1), []), (4, .aload_n 0, 0, []), (5, .iload_n 1, 0, []), (6, .putfield 9, 32, []), (9, .aload_n 0, 0, []), (10, .new 15, 4, []), (13, .dup, 0, []), (14, .bipush 50, 50, []), (16, .invokespecial 17, 55, []), (19, .putfield 20, 33, []), (22, .aload_n 0, 0, []), (23, .new 15, 4, []), (26, .dup, 0, []), (27, .bipush 50, 50, []), (29, .invokespecial 17, 55, [])],
  [(32, .putfield 24, 34, []), (35, .return_, 0, [])]] -- X1_init
def pC16 : List (List (Nat × pE)) := [[(0, .aload_n 0, 0, []), (1, .getfield 9, 32, []), (4, .ifCond .ne 34, 38, []), (7, .aload_n 0, 0, []), (8, .getfield 24, 34, []), (11, .getfield 27, 129, []), (14, .ifCond .ne 10, 24, []), (17, .iload_n 1, 0, []), (18, .bipush 10, 10, []), (20, .imul, 0, []), (21, .goto 10, 31, []), (24, .aload_n 0, 0, []), (25, .iload_n 1, 0, []), (26, .iload_n 2, 0, []), (27, .iload_n 3, 0, []), (28, .invokevirtual 30, 17, []), (31, .iconst 0, 0, [])],
  [(32, .bipush 99, 99, []), (34, .invokestatic 34, 147, []), (37, .ireturn, 0, []), (38, .aload_n 0, 0, []), (39, .getfield 24, 34, []), (42, .getfield 27, 129, []), (45, .ifCond .ne 14, 59, []), (48, .bipush 100, 100, []), (50, .iload_n 1, 0, []), (51, .isub, 0, []), (52, .iload_n 2, 0, []), (53, .iconst 5, 5, []), (54, .imul, 0, []), (55, .isub, 0, []), (56, .goto 10, 66, []), (59, .aload_n 0, 0, []), (60, .iload_n 1, 0, []), (61, .iload_n 2, 0, []), (62, .iload_n 3, 0, []), (63, .invokevirtual 30, 17, [])],
  [(66, .sipush (-999), (-999), []), (69, .sipush 999, 999, []), (72, .invokestatic 34, 147, []), (75, .ireturn, 0, [])]] -- X1_gives
def pC17 : List (List (Nat × pE)) := [[(0, .aload_n 0, 0, []), (1, .getfield 20, 33, []), (4, .invokevirtual 37, 66, []), (7, .iconst 0, 0, []), (8, .istore 4, 0, []), (10, .iload 4, 0, []), (12, .aload_n 0, 0, []), (13, .getfield 24, 34, []), (16, .getfield 27, 129, []), (19, .if_icmp .ge 127, 146, []), (22, .aload_n 0, 0, []), (23, .getfield 24, 34, []), (26, .iload 4, 0, []), (28, .invokevirtual 40, 57, []), (31, .istore 5, 0, [])],
  [(33, .iload 5, 0, []), (35, .ifCond .lt 15, 50, []), (38, .aload_n 0, 0, []), (39, .getfield 20, 33, []), (42, .iload 5, 0, []), (44, .invokevirtual 44, 59, []), (47, .goto 93, 140, []), (50, .iload 5, 0, []), (52, .bipush (-3), (-3), []), (54, .if_icmp .lt 35, 89, []), (57, .aload_n 0, 0, []), (58, .getfield 20, 33, []), (61, .iload 5, 0, []), (63, .iconst (-1), (-1), [])],
  [(64, .if_icmp .ne 7, 71, []), (67, .iload_n 1, 0, []), (68, .goto 15, 83, []), (71, .iload 5, 0, []), (73, .bipush (-2), (-2), []), (75, .if_icmp .ne 7, 82, []), (78, .iload_n 2, 0, []), (79, .goto 4, 83, []), (82, .iload_n 3, 0, []), (83, .invokevirtual 44, 59, []), (86, .goto 54, 140, []), (89, .aload_n 0, 0, []), (90, .getfield 20, 33, []), (93, .invokevirtual 47, 60, [])],
  [(96, .istore 6, 0, []), (98, .aload_n 0, 0, []), (99, .getfield 20, 33, []), (102, .iload 5, 0, []), (104, .bipush (-33), (-33), []), (106, .if_icmp .ne 16, 122, []), (109, .iload 6, 0, []), (111, .ifCond .ne 7, 118, []), (114, .iconst 1, 1, []), (115, .goto 22, 137, []), (118, .iconst 0, 0, []), (119, .goto 18, 137, []), (122, .iload 5, 0, []), (124, .ineg, 0, []), (125, .aload_n 0, 0, []), (126, .getfield 20, 33, [])],
  [(129, .invokevirtual 47, 60, []), (132, .iload 6, 0, []), (134, .invokestatic 51, 18, []), (137, .invokevirtual 44, 59, []), (140, .iinc 4 1, 0, []), (143, .goto (-133), 10, []), (146, .aload_n 0, 0, []), (147, .getfield 20, 33, []), (150, .invokevirtual 47, 60, []), (153, .ireturn, 0, [])]] -- X1_worth
def pC18 : List (List (Nat × pE)) := [[(0, .iload_n 0, 0, []), (1, .lookupswitch 168 #[(38, 97), (42, 152), (43, 144), (45, 148), (47, 156), (60, 111), (61, 122), (62, 133), (124, 83)], 169, [(38, 98), (42, 153), (43, 145), (45, 149), (47, 157), (60, 112), (61, 123), (62, 134), (124, 84)])],
  [],
  [(84, .iload_n 1, 0, []), (85, .ifCond .ne 7, 92, []), (88, .iload_n 2, 0, []), (89, .ifCond .eq 7, 96, []), (92, .iconst 1, 1, []), (93, .goto 4, 97, [])],
  [(96, .iconst 0, 0, []), (97, .ireturn, 0, []), (98, .iload_n 1, 0, []), (99, .ifCond .eq 11, 110, []), (102, .iload_n 2, 0, []), (103, .ifCond .eq 7, 110, []), (106, .iconst 1, 1, []), (107, .goto 4, 111, []), (110, .iconst 0, 0, []), (111, .ireturn, 0, []), (112, .iload_n 1, 0, []), (113, .iload_n 2, 0, []), (114, .if_icmp .ge 7, 121, []), (117, .iconst 1, 1, []), (118, .goto 4, 122, []), (121, .iconst 0, 0, []), (122, .ireturn, 0, []), (123, .iload_n 1, 0, []), (124, .iload_n 2, 0, []), (125, .if_icmp .ne 7, 132, [])],
  [(128, .iconst 1, 1, []), (129, .goto 4, 133, []), (132, .iconst 0, 0, []), (133, .ireturn, 0, []), (134, .iload_n 1, 0, []), (135, .iload_n 2, 0, []), (136, .if_icmp .le 7, 143, []), (139, .iconst 1, 1, []), (140, .goto 4, 144, []), (143, .iconst 0, 0, []), (144, .ireturn, 0, []), (145, .iload_n 1, 0, []), (146, .iload_n 2, 0, []), (147, .iadd, 0, []), (148, .ireturn, 0, []), (149, .iload_n 1, 0, []), (150, .iload_n 2, 0, []), (151, .isub, 0, []), (152, .ireturn, 0, []), (153, .iload_n 1, 0, []), (154, .iload_n 2, 0, []), (155, .imul, 0, []), (156, .ireturn, 0, []), (157, .iload_n 2, 0, []), (158, .ifCond .ne 7, 165, [])],
  [(161, .iconst 0, 0, []), (162, .goto 6, 168, []), (165, .iload_n 1, 0, []), (166, .iload_n 2, 0, []), (167, .idiv, 0, []), (168, .ireturn, 0, []), (169, .iload_n 2, 0, []), (170, .ifCond .ne 7, 177, []), (173, .iconst 0, 0, []), (174, .goto 6, 180, []), (177, .iload_n 1, 0, []), (178, .iload_n 2, 0, []), (179, .irem, 0, []), (180, .ireturn, 0, [])]] -- X1_joined
def pC19 : List (List (Nat × pE)) := [[(0, .aload_n 0, 0, []), (1, .invokespecial 3, (-1), []), (4, .aload_n 0, 0, []), (5, .bipush 7, 7, []), (7, .anewarray 9, 2, []), (10, .putfield 11, 64, []), (13, .iconst 0, 0, []), (14, .istore_n 1, 0, []), (15, .iload_n 1, 0, []), (16, .aload_n 0, 0, []), (17, .getfield 11, 64, []), (20, .arraylength, 0, []), (21, .if_icmp .ge 23, 44, []), (24, .aload_n 0, 0, []), (25, .getfield 11, 64, []), (28, .iload_n 1, 0, []), (29, .new 9, 5, [])],
  [(32, .dup, 0, []), (33, .iload_n 1, 0, []), (34, .invokespecial 17, 72, []), (37, .aastore, 0, []), (38, .iinc 1 1, 0, []), (41, .goto (-26), 15, []), (44, .aload_n 0, 0, []), (45, .iconst 4, 4, []), (46, .invokestatic 20, 56, []), (49, .putfield 26, 65, []), (52, .aload_n 0, 0, []), (53, .new 30, 1, []), (56, .dup, 0, []), (57, .iconst 0, 0, []), (58, .invokespecial 32, 15, []), (61, .putfield 33, 66, [])],
  [(64, .aload_n 0, 0, []), (65, .new 30, 1, []), (68, .dup, 0, []), (69, .iconst 1, 1, []), (70, .invokespecial 32, 15, []), (73, .putfield 37, 67, []), (76, .aload_n 0, 0, []), (77, .new 21, 4, []), (80, .dup, 0, []), (81, .bipush 7, 7, []), (83, .invokespecial 40, 55, []), (86, .putfield 41, 68, []), (89, .aload_n 0, 0, []), (90, .new 21, 4, []), (93, .dup, 0, []), (94, .bipush 50, 50, [])],
  [(96, .invokespecial 40, 55, []), (99, .putfield 44, 69, []), (102, .aload_n 0, 0, []), (103, .new 21, 4, []), (106, .dup, 0, []), (107, .bipush 20, 20, []), (109, .invokespecial 40, 55, []), (112, .putfield 47, 70, []), (115, .aload_n 0, 0, []), (116, .iconst 1, 1, []), (117, .putfield 50, 72, []), (120, .aload_n 0, 0, []), (121, .iconst 1, 1, []), (122, .putfield 54, 75, []), (125, .return_, 0, [])]] -- X2_init
def pC20 : List (List (Nat × pE)) := [[(0, .aload_n 0, 0, []), (1, .getfield 11, 64, []), (4, .iload_n 1, 0, []), (5, .ifCond .lt 16, 21, []), (8, .iload_n 1, 0, []), (9, .aload_n 0, 0, []), (10, .getfield 11, 64, []), (13, .arraylength, 0, []), (14, .if_icmp .ge 7, 21, []), (17, .iload_n 1, 0, []), (18, .goto 4, 22, []), (21, .iconst 0, 0, []), (22, .aaload, 0, []), (23, .areturn, 0, [])]] -- X2_at
def pC21 : List (List (Nat × pE)) := [[(0, .iload_n 1, 0, []), (1, .ifCond .ne 10, 11, []), (4, .aload_n 0, 0, []), (5, .getfield 33, 66, []), (8, .goto 7, 15, []), (11, .aload_n 0, 0, []), (12, .getfield 37, 67, []), (15, .areturn, 0, [])]] -- X2_lawOf
def pC22 : List (List (Nat × pE)) := [[(0, .iconst 1, 1, []), (1, .aload_n 0, 0, []), (2, .getfield 57, 71, []), (5, .ishl, 0, []), (6, .iconst 1, 1, []), (7, .isub, 0, []), (8, .ireturn, 0, [])]] -- X2_all
def pC23 : List (List (Nat × pE)) := [[(0, .aload_n 0, 0, []), (1, .getfield 57, 71, []), (4, .istore 5, 0, []), (6, .aload_n 0, 0, []), (7, .iload 5, 0, []), (9, .invokevirtual 60, 20, []), (12, .iload_n 1, 0, []), (13, .iload_n 2, 0, []), (14, .iload_n 3, 0, []), (15, .iload 4, 0, []), (17, .invokevirtual 64, 73, []), (20, .aload_n 0, 0, []), (21, .getfield 41, 68, []), (24, .iconst 0, 0, []), (25, .iload 5, 0, []), (27, .invokevirtual 68, 61, []), (30, .aload_n 0, 0, []), (31, .dup, 0, [])],
  [(32, .getfield 57, 71, []), (35, .iconst 1, 1, []), (36, .iadd, 0, []), (37, .putfield 57, 71, []), (40, .iload 5, 0, []), (42, .ireturn, 0, [])]] -- X2_open
def pC24 : List (List (Nat × pE)) := [[(0, .iconst 0, 0, []), (1, .istore_n 1, 0, []), (2, .iconst 0, 0, []), (3, .istore_n 2, 0, []), (4, .iload_n 2, 0, []), (5, .aload_n 0, 0, []), (6, .getfield 57, 71, []), (9, .if_icmp .ge 22, 31, []), (12, .iload_n 1, 0, []), (13, .aload_n 0, 0, []), (14, .iload_n 2, 0, []), (15, .invokevirtual 60, 20, []), (18, .getfield 72, 169, []), (21, .iload_n 2, 0, []), (22, .ishl, 0, []), (23, .ior, 0, []), (24, .istore_n 1, 0, []), (25, .iinc 2 1, 0, []), (28, .goto (-24), 4, []), (31, .iload_n 1, 0, [])],
  [(32, .ireturn, 0, [])]] -- X2_wills
def pC25 : List (List (Nat × pE)) := [[(0, .iconst 0, 0, []), (1, .istore_n 1, 0, []), (2, .iconst 0, 0, []), (3, .istore_n 2, 0, []), (4, .iload_n 2, 0, []), (5, .aload_n 0, 0, []), (6, .getfield 57, 71, []), (9, .if_icmp .ge 33, 42, []), (12, .iload_n 1, 0, []), (13, .aload_n 0, 0, []), (14, .iload_n 2, 0, []), (15, .invokevirtual 60, 20, []), (18, .getfield 75, 163, []), (21, .ifCond .ne 7, 28, []), (24, .iconst 1, 1, []), (25, .goto 4, 29, []), (28, .iconst 0, 0, []), (29, .invokestatic 78, 148, [])],
  [(32, .iload_n 2, 0, []), (33, .ishl, 0, []), (34, .ior, 0, []), (35, .istore_n 1, 0, []), (36, .iinc 2 1, 0, []), (39, .goto (-35), 4, []), (42, .iload_n 1, 0, []), (43, .ireturn, 0, [])]] -- X2_starts
def pC26 : List (List (Nat × pE)) := [[(0, .aload_n 0, 0, []), (1, .aload_n 0, 0, []), (2, .invokevirtual 82, 24, []), (5, .iconst (-1), (-1), []), (6, .iconst 0, 0, []), (7, .invokevirtual 86, 27, []), (10, .ireturn, 0, [])]] -- X2_happening
def pC27 : List (List (Nat × pE)) := [[(0, .iconst 0, 0, []), (1, .istore 4, 0, []), (3, .iconst 0, 0, []), (4, .istore 5, 0, []), (6, .iload 5, 0, []), (8, .aload_n 0, 0, []), (9, .getfield 57, 71, []), (12, .if_icmp .ge 91, 103, []), (15, .aload_n 0, 0, []), (16, .iload 5, 0, []), (18, .invokevirtual 60, 20, []), (21, .astore 6, 0, []), (23, .aload 6, 0, []), (25, .getfield 75, 163, []), (28, .ifCond .ne 23, 51, []), (31, .iload_n 1, 0, [])],
  [(32, .iload 5, 0, []), (34, .ishr, 0, []), (35, .iconst 1, 1, []), (36, .iand, 0, []), (37, .iconst 1, 1, []), (38, .if_icmp .ne 7, 45, []), (41, .iconst 1, 1, []), (42, .goto 4, 46, []), (45, .iconst 0, 0, []), (46, .istore 7, 0, []), (48, .goto 36, 84, []), (51, .aload 6, 0, []), (53, .aload 6, 0, []), (55, .getfield 75, 163, []), (58, .iload 4, 0, []), (60, .iand, 0, []), (61, .invokestatic 90, 255, [])],
  [(64, .iload 5, 0, []), (66, .iload_n 2, 0, []), (67, .if_icmp .ne 7, 74, []), (70, .iload_n 3, 0, []), (71, .goto 8, 79, []), (74, .aload 6, 0, []), (76, .getfield 96, 161, []), (79, .invokevirtual 99, 79, []), (82, .istore 7, 0, []), (84, .iload 4, 0, []), (86, .iload 7, 0, []), (88, .invokestatic 78, 148, []), (91, .iload 5, 0, []), (93, .ishl, 0, []), (94, .ior, 0, []), (95, .istore 4, 0, [])],
  [(97, .iinc 5 1, 0, []), (100, .goto (-94), 6, []), (103, .iload 4, 0, []), (105, .ireturn, 0, [])]] -- X2_outcome
def pC28 : List (List (Nat × pE)) := [[(0, .aload_n 0, 0, []), (1, .iload_n 1, 0, []), (2, .invokevirtual 60, 20, []), (5, .astore_n 3, 0, []), (6, .iload_n 2, 0, []), (7, .iload_n 1, 0, []), (8, .ishr, 0, []), (9, .iconst 1, 1, []), (10, .iand, 0, []), (11, .iconst 1, 1, []), (12, .if_icmp .ne 18, 30, []), (15, .aload_n 3, 0, []), (16, .getfield 96, 161, []), (19, .iconst 3, 3, []), (20, .invokestatic 103, 151, []), (23, .ifCond .eq 7, 30, []), (26, .iconst 1, 1, []), (27, .goto 4, 31, []), (30, .iconst 0, 0, []), (31, .istore 4, 0, [])],
  [(33, .iload 4, 0, []), (35, .ifCond .eq 16, 51, []), (38, .aload_n 3, 0, []), (39, .getfield 106, 165, []), (42, .aload_n 3, 0, []), (43, .getfield 106, 165, []), (46, .ineg, 0, []), (47, .iand, 0, []), (48, .goto 4, 52, []), (51, .iconst 0, 0, []), (52, .ireturn, 0, [])]] -- X2_killedBy
def pC29 : List (List (Nat × pE)) := [[(0, .iconst 0, 0, []), (1, .istore_n 3, 0, []), (2, .iconst 0, 0, []), (3, .istore 4, 0, []), (5, .iload 4, 0, []), (7, .iload_n 1, 0, []), (8, .if_icmp .ge 19, 27, []), (11, .iload_n 3, 0, []), (12, .aload_n 0, 0, []), (13, .iload 4, 0, []), (15, .iload_n 2, 0, []), (16, .invokevirtual 109, 28, []), (19, .ior, 0, []), (20, .istore_n 3, 0, []), (21, .iinc 4 1, 0, []), (24, .goto (-19), 5, []), (27, .aload_n 0, 0, []), (28, .iload_n 1, 0, []), (29, .invokevirtual 60, 20, [])],
  [(32, .getfield 106, 165, []), (35, .iload_n 3, 0, []), (36, .iand, 0, []), (37, .ifCond .eq 7, 44, []), (40, .iconst 1, 1, []), (41, .goto 4, 45, []), (44, .iconst 0, 0, []), (45, .ireturn, 0, [])]] -- X2_isBroken
def pC30 : List (List (Nat × pE)) := [[(0, .aload_n 0, 0, []), (1, .invokevirtual 113, 26, []), (4, .istore_n 1, 0, []), (5, .iconst 0, 0, []), (6, .istore_n 2, 0, []), (7, .iload_n 2, 0, []), (8, .aload_n 0, 0, []), (9, .getfield 57, 71, []), (12, .if_icmp .ge 27, 39, []), (15, .aload_n 0, 0, []), (16, .aload_n 0, 0, []), (17, .getfield 41, 68, []), (20, .iload_n 2, 0, []), (21, .invokevirtual 116, 57, []), (24, .iload_n 1, 0, []), (25, .invokevirtual 118, 29, []), (28, .ifCond .eq 5, 33, []), (31, .iload_n 2, 0, [])],
  [(32, .ireturn, 0, []), (33, .iinc 2 1, 0, []), (36, .goto (-29), 7, []), (39, .iconst (-1), (-1), []), (40, .ireturn, 0, [])]] -- X2_firstBroken
def pC31 : List (List (Nat × pE)) := [[(0, .iconst 0, 0, []), (1, .istore_n 2, 0, []), (2, .iconst 0, 0, []), (3, .istore_n 3, 0, []), (4, .iload_n 3, 0, []), (5, .iload_n 1, 0, []), (6, .if_icmp .ge 22, 28, []), (9, .iload_n 2, 0, []), (10, .iconst 1, 1, []), (11, .aload_n 0, 0, []), (12, .getfield 41, 68, []), (15, .iload_n 3, 0, []), (16, .invokevirtual 116, 57, []), (19, .ishl, 0, []), (20, .ior, 0, []), (21, .istore_n 2, 0, []), (22, .iinc 3 1, 0, []), (25, .goto (-21), 4, []), (28, .iload_n 2, 0, []), (29, .ireturn, 0, [])]] -- X2_givenAhead
def pC32 : List (List (Nat × pE)) := [[(0, .aload_n 0, 0, []), (1, .getfield 41, 68, []), (4, .iload_n 1, 0, []), (5, .invokevirtual 116, 57, []), (8, .istore_n 2, 0, []), (9, .aload_n 0, 0, []), (10, .iload_n 2, 0, []), (11, .aload_n 0, 0, []), (12, .iload_n 2, 0, []), (13, .invokevirtual 60, 20, []), (16, .getfield 75, 163, []), (19, .aload_n 0, 0, []), (20, .iload_n 1, 0, []), (21, .invokevirtual 121, 31, []), (24, .iconst (-1), (-1), []), (25, .ixor, 0, []), (26, .iand, 0, []), (27, .invokestatic 90, 255, []), (30, .invokevirtual 124, 33, [])],
  [(33, .ireturn, 0, [])]] -- X2_guessAt
def pC33 : List (List (Nat × pE)) := [[(0, .aload_n 0, 0, []), (1, .iload_n 1, 0, []), (2, .invokevirtual 60, 20, []), (5, .astore_n 3, 0, []), (6, .aload_n 0, 0, []), (7, .getfield 33, 66, []), (10, .iload_n 2, 0, []), (11, .aload_n 3, 0, []), (12, .getfield 127, 164, []), (15, .aload_n 3, 0, []), (16, .getfield 130, 162, []), (19, .invokevirtual 133, 16, []), (22, .iload_n 2, 0, []), (23, .ifCond .le 10, 33, []), (26, .aload_n 3, 0, []), (27, .invokevirtual 136, 78, []), (30, .goto 4, 34, [])],
  [(33, .iconst 0, 0, []), (34, .iadd, 0, []), (35, .ireturn, 0, [])]] -- X2_guessOf
def pC34 : List (List (Nat × pE)) := [[(0, .iconst 0, 0, []), (1, .istore_n 1, 0, []), (2, .iconst 0, 0, []), (3, .istore_n 2, 0, []), (4, .iconst 0, 0, []), (5, .istore_n 3, 0, []), (6, .iload_n 3, 0, []), (7, .aload_n 0, 0, []), (8, .getfield 57, 71, []), (11, .if_icmp .ge 51, 62, []), (14, .aload_n 0, 0, []), (15, .getfield 41, 68, []), (18, .iload_n 3, 0, []), (19, .invokevirtual 116, 57, []), (22, .istore 4, 0, []), (24, .iload_n 1, 0, []), (25, .aload_n 0, 0, []), (26, .iload 4, 0, []), (28, .aload_n 0, 0, []), (29, .iload 4, 0, []), (31, .invokevirtual 60, 20, [])],
  [(34, .getfield 75, 163, []), (37, .iload_n 2, 0, []), (38, .iconst (-1), (-1), []), (39, .ixor, 0, []), (40, .iand, 0, []), (41, .invokestatic 90, 255, []), (44, .invokevirtual 124, 33, []), (47, .iadd, 0, []), (48, .istore_n 1, 0, []), (49, .iload_n 2, 0, []), (50, .iconst 1, 1, []), (51, .iload 4, 0, []), (53, .ishl, 0, []), (54, .ior, 0, []), (55, .istore_n 2, 0, []), (56, .iinc 3 1, 0, []), (59, .goto (-53), 6, []), (62, .iload_n 1, 0, []), (63, .ireturn, 0, [])]] -- X2_guessed
def pC35 : List (List (Nat × pE)) := [[(0, .iconst 0, 0, []), (1, .istore_n 1, 0, []), (2, .iload_n 1, 0, []), (3, .aload_n 0, 0, []), (4, .getfield 47, 70, []), (7, .getfield 139, 129, []), (10, .if_icmp .ge 35, 45, []), (13, .iload_n 1, 0, []), (14, .aload_n 0, 0, []), (15, .getfield 57, 71, []), (18, .if_icmp .ge 19, 37, []), (21, .aload_n 0, 0, []), (22, .getfield 47, 70, []), (25, .iload_n 1, 0, []), (26, .invokevirtual 116, 57, []), (29, .aload_n 0, 0, []), (30, .iload_n 1, 0, []), (31, .invokevirtual 140, 32, [])],
  [(34, .if_icmp .eq 5, 39, []), (37, .iload_n 1, 0, []), (38, .ireturn, 0, []), (39, .iinc 1 1, 0, []), (42, .goto (-40), 2, []), (45, .iconst (-1), (-1), []), (46, .ireturn, 0, [])]] -- X2_firstWrongGuess
def pC36 : List (List (Nat × pE)) := [[(0, .iconst 1, 1, []), (1, .iload_n 1, 0, []), (2, .ishl, 0, []), (3, .istore_n 2, 0, []), (4, .iload_n 1, 0, []), (5, .istore_n 3, 0, []), (6, .iload_n 3, 0, []), (7, .ifCond .lt 29, 36, []), (10, .iload_n 2, 0, []), (11, .iload_n 3, 0, []), (12, .ishr, 0, []), (13, .iconst 1, 1, []), (14, .iand, 0, []), (15, .iconst 1, 1, []), (16, .if_icmp .ne 14, 30, []), (19, .iload_n 2, 0, []), (20, .aload_n 0, 0, []), (21, .iload_n 3, 0, []), (22, .invokevirtual 60, 20, []), (25, .getfield 75, 163, []), (28, .ior, 0, []), (29, .istore_n 2, 0, []), (30, .iinc 3 (-1), 0, [])],
  [(33, .goto (-27), 6, []), (36, .iconst 0, 0, []), (37, .istore_n 3, 0, []), (38, .iconst 0, 0, []), (39, .istore 4, 0, []), (41, .iload 4, 0, []), (43, .aload_n 0, 0, []), (44, .getfield 57, 71, []), (47, .if_icmp .ge 29, 76, []), (50, .iload_n 2, 0, []), (51, .aload_n 0, 0, []), (52, .getfield 41, 68, []), (55, .iload 4, 0, []), (57, .invokevirtual 116, 57, []), (60, .ishr, 0, []), (61, .iconst 1, 1, []), (62, .iand, 0, []), (63, .iconst 1, 1, [])],
  [(64, .if_icmp .ne 6, 70, []), (67, .iload 4, 0, []), (69, .istore_n 3, 0, []), (70, .iinc 4 1, 0, []), (73, .goto (-32), 41, []), (76, .iload_n 3, 0, []), (77, .ireturn, 0, [])]] -- X2_understoodBy
def pC37 : List (List (Nat × pE)) := [[(0, .aload_n 0, 0, []), (1, .getfield 26, 65, []), (4, .iconst (-1), (-1), []), (5, .invokevirtual 143, 68, []), (8, .iconst 0, 0, []), (9, .istore_n 1, 0, []), (10, .iconst 0, 0, []), (11, .istore_n 2, 0, []), (12, .iload_n 2, 0, []), (13, .aload_n 0, 0, []), (14, .getfield 57, 71, []), (17, .if_icmp .ge 91, 108, []), (20, .aload_n 0, 0, []), (21, .aload_n 0, 0, []), (22, .getfield 41, 68, []), (25, .iload_n 2, 0, []), (26, .invokevirtual 116, 57, []), (29, .invokevirtual 60, 20, [])],
  [(32, .astore_n 3, 0, []), (33, .aload_n 3, 0, []), (34, .getfield 146, 166, []), (37, .iconst 4, 4, []), (38, .if_icmp .eq 64, 102, []), (41, .aload_n 0, 0, []), (42, .getfield 26, 65, []), (45, .aload_n 3, 0, []), (46, .getfield 146, 166, []), (49, .invokevirtual 116, 57, []), (52, .istore 4, 0, []), (54, .iload_n 1, 0, []), (55, .iload 4, 0, []), (57, .ifCond .lt 20, 77, []), (60, .iload 4, 0, []), (62, .aload_n 3, 0, []), (63, .aload_n 0, 0, [])],
  [(64, .getfield 50, 72, []), (67, .invokevirtual 149, 80, []), (70, .if_icmp .eq 7, 77, []), (73, .iconst 1, 1, []), (74, .goto 4, 78, []), (77, .iconst 0, 0, []), (78, .invokestatic 78, 148, []), (81, .iadd, 0, []), (82, .istore_n 1, 0, []), (83, .aload_n 0, 0, []), (84, .getfield 26, 65, []), (87, .aload_n 3, 0, []), (88, .getfield 146, 166, []), (91, .aload_n 3, 0, []), (92, .aload_n 0, 0, []), (93, .getfield 50, 72, [])],
  [(96, .invokevirtual 152, 81, []), (99, .invokevirtual 155, 58, []), (102, .iinc 2 1, 0, []), (105, .goto (-93), 12, []), (108, .iload_n 1, 0, []), (109, .ireturn, 0, [])]] -- X2_hands
def pC38 : List (List (Nat × pE)) := [[(0, .aload_n 0, 0, []), (1, .invokevirtual 113, 26, []), (4, .istore_n 1, 0, []), (5, .iconst 0, 0, []), (6, .istore_n 2, 0, []), (7, .iconst 0, 0, []), (8, .istore_n 3, 0, []), (9, .iconst 0, 0, []), (10, .istore 4, 0, []), (12, .iload 4, 0, []), (14, .aload_n 0, 0, []), (15, .getfield 57, 71, []), (18, .if_icmp .ge 47, 65, []), (21, .aload_n 0, 0, []), (22, .getfield 41, 68, []), (25, .iload 4, 0, []), (27, .invokevirtual 116, 57, []), (30, .istore 5, 0, [])],
  [(32, .iload_n 2, 0, []), (33, .aload_n 0, 0, []), (34, .iload 5, 0, []), (36, .invokevirtual 60, 20, []), (39, .getfield 106, 165, []), (42, .iload_n 3, 0, []), (43, .iand, 0, []), (44, .invokestatic 90, 255, []), (47, .iadd, 0, []), (48, .istore_n 2, 0, []), (49, .iload_n 3, 0, []), (50, .aload_n 0, 0, []), (51, .iload 5, 0, []), (53, .iload_n 1, 0, []), (54, .invokevirtual 109, 28, []), (57, .ior, 0, []), (58, .istore_n 3, 0, []), (59, .iinc 4 1, 0, []), (62, .goto (-50), 12, [])],
  [(65, .iload_n 2, 0, []), (66, .ireturn, 0, [])]] -- X2_rises
def pC39 : List (List (Nat × pE)) := [[(0, .iconst 0, 0, []), (1, .istore_n 1, 0, []), (2, .iconst 0, 0, []), (3, .istore_n 2, 0, []), (4, .iload_n 2, 0, []), (5, .aload_n 0, 0, []), (6, .getfield 57, 71, []), (9, .if_icmp .ge 20, 29, []), (12, .iload_n 1, 0, []), (13, .aload_n 0, 0, []), (14, .iload_n 2, 0, []), (15, .invokevirtual 60, 20, []), (18, .getfield 127, 164, []), (21, .iadd, 0, []), (22, .istore_n 1, 0, []), (23, .iinc 2 1, 0, []), (26, .goto (-22), 4, []), (29, .iload_n 1, 0, []), (30, .ireturn, 0, [])]] -- X2_minutes
def pC40 : List (List (Nat × pE)) := [[(0, .iconst 0, 0, []), (1, .istore_n 2, 0, []), (2, .iconst 0, 0, []), (3, .istore_n 3, 0, []), (4, .iload_n 3, 0, []), (5, .aload_n 1, 0, []), (6, .getfield 139, 129, []), (9, .if_icmp .ge 39, 48, []), (12, .aload_n 1, 0, []), (13, .iload_n 3, 0, []), (14, .invokevirtual 116, 57, []), (17, .istore 4, 0, []), (19, .iload 4, 0, []), (21, .ifCond .lt 12, 33, []), (24, .iload 4, 0, []), (26, .aload_n 0, 0, []), (27, .getfield 57, 71, []), (30, .if_icmp .lt 5, 35, [])],
  [(33, .iconst 0, 0, []), (34, .ireturn, 0, []), (35, .iload_n 2, 0, []), (36, .iconst 1, 1, []), (37, .iload 4, 0, []), (39, .ishl, 0, []), (40, .ior, 0, []), (41, .istore_n 2, 0, []), (42, .iinc 3 1, 0, []), (45, .goto (-41), 4, []), (48, .aload_n 1, 0, []), (49, .getfield 139, 129, []), (52, .aload_n 0, 0, []), (53, .getfield 57, 71, []), (56, .if_icmp .ne 15, 71, []), (59, .iload_n 2, 0, []), (60, .aload_n 0, 0, []), (61, .invokevirtual 158, 22, [])],
  [(64, .if_icmp .ne 7, 71, []), (67, .iconst 1, 1, []), (68, .goto 4, 72, []), (71, .iconst 0, 0, []), (72, .ireturn, 0, [])]] -- X2_isWholeOrder
def pC41 : List (List (Nat × pE)) := [[(0, .aload_n 0, 0, []), (1, .getfield 37, 67, []), (4, .aload_n 0, 0, []), (5, .invokevirtual 161, 34, []), (8, .aload_n 0, 0, []), (9, .invokevirtual 164, 37, []), (12, .aload_n 0, 0, []), (13, .invokevirtual 167, 38, []), (16, .invokevirtual 133, 16, []), (19, .ireturn, 0, [])]] -- X2_clap
def pC42 : List (List (Nat × pE)) := [[(0, .aload_n 0, 0, []), (1, .aload_n 0, 0, []), (2, .getfield 170, 73, []), (5, .iload_n 1, 0, []), (6, .iadd, 0, []), (7, .ldc 173, (-99999), []), (9, .ldc 174, 99999, []), (11, .invokestatic 175, 147, []), (14, .putfield 170, 73, []), (17, .aload_n 0, 0, []), (18, .dup, 0, []), (19, .getfield 178, 74, []), (22, .iconst 1, 1, []), (23, .iadd, 0, []), (24, .putfield 178, 74, []), (27, .return_, 0, [])]] -- X2_giveEvening
def pC43 : List (List (Nat × pE)) := [[(0, .aload_n 0, 0, []), (1, .getfield 57, 71, []), (4, .iconst 1, 1, []), (5, .isub, 0, []), (6, .istore_n 1, 0, []), (7, .iload_n 1, 0, []), (8, .iconst 1, 1, []), (9, .if_icmp .ge 4, 13, []), (12, .return_, 0, []), (13, .aload_n 0, 0, []), (14, .aload_n 0, 0, []), (15, .getfield 54, 75, []), (18, .ldc 181, 1103515245, []), (20, .imul, 0, []), (21, .sipush 12345, 12345, []), (24, .iadd, 0, []), (25, .putfield 54, 75, []), (28, .aload_n 0, 0, []), (29, .getfield 54, 75, [])],
  [(32, .bipush 8, 8, []), (34, .iushr, 0, []), (35, .iload_n 1, 0, []), (36, .irem, 0, []), (37, .istore_n 2, 0, []), (38, .aload_n 0, 0, []), (39, .getfield 41, 68, []), (42, .iload_n 2, 0, []), (43, .iload_n 2, 0, []), (44, .iconst 1, 1, []), (45, .iadd, 0, []), (46, .invokevirtual 182, 64, []), (49, .return_, 0, [])]] -- X2_loosen
def pC44 : List (List (Nat × pE)) := [[(0, .iconst 0, 0, []), (1, .istore_n 2, 0, []), (2, .iload_n 2, 0, []), (3, .aload_n 0, 0, []), (4, .getfield 11, 64, []), (7, .arraylength, 0, []), (8, .if_icmp .ge 22, 30, []), (11, .aload_n 0, 0, []), (12, .iload_n 2, 0, []), (13, .invokevirtual 60, 20, []), (16, .aload_n 1, 0, []), (17, .iload_n 2, 0, []), (18, .invokevirtual 60, 20, []), (21, .invokevirtual 185, 82, []), (24, .iinc 2 1, 0, []), (27, .goto (-25), 2, []), (30, .aload_n 0, 0, []), (31, .getfield 33, 66, [])],
  [(34, .getfield 189, 34, []), (37, .aload_n 1, 0, []), (38, .getfield 33, 66, []), (41, .getfield 189, 34, []), (44, .invokevirtual 192, 69, []), (47, .aload_n 0, 0, []), (48, .getfield 37, 67, []), (51, .getfield 189, 34, []), (54, .aload_n 1, 0, []), (55, .getfield 37, 67, []), (58, .getfield 189, 34, []), (61, .invokevirtual 192, 69, [])],
  [(64, .aload_n 0, 0, []), (65, .getfield 41, 68, []), (68, .aload_n 1, 0, []), (69, .getfield 41, 68, []), (72, .invokevirtual 192, 69, []), (75, .aload_n 0, 0, []), (76, .getfield 44, 69, []), (79, .aload_n 1, 0, []), (80, .getfield 44, 69, []), (83, .invokevirtual 192, 69, []), (86, .aload_n 0, 0, []), (87, .getfield 47, 70, []), (90, .aload_n 1, 0, []), (91, .getfield 47, 70, []), (94, .invokevirtual 192, 69, [])],
  [(97, .aload_n 0, 0, []), (98, .aload_n 1, 0, []), (99, .getfield 57, 71, []), (102, .putfield 57, 71, []), (105, .aload_n 0, 0, []), (106, .aload_n 1, 0, []), (107, .getfield 50, 72, []), (110, .putfield 50, 72, []), (113, .aload_n 0, 0, []), (114, .aload_n 1, 0, []), (115, .getfield 170, 73, []), (118, .putfield 170, 73, []), (121, .aload_n 0, 0, []), (122, .aload_n 1, 0, []), (123, .getfield 178, 74, []), (126, .putfield 178, 74, [])],
  [(129, .aload_n 0, 0, []), (130, .aload_n 1, 0, []), (131, .getfield 54, 75, []), (134, .putfield 54, 75, []), (137, .return_, 0, [])]] -- X2_copyFrom
def pC45 : List (List (Nat × pE)) := [[(0, .aload_n 0, 0, []), (1, .invokespecial 3, (-1), []), (4, .aload_n 0, 0, []), (5, .aload_n 1, 0, []), (6, .putfield 9, 96, []), (9, .aload_n 0, 0, []), (10, .ldc 15, 0, [(0, 0)]), (12, .putfield 17, 97, []), (15, .aload_n 0, 0, []), (16, .new 21, 4, []), (19, .dup, 0, []), (20, .bipush 50, 50, []), (22, .invokespecial 23, 55, []), (25, .putfield 26, 99, []), (28, .return_, 0, [])]] -- X3_init
def pC46 : List (List (Nat × pE)) := [[(0, .aload_n 0, 0, []), (1, .iload_n 1, 0, []), (2, .ifCond .ne 8, 10, []), (5, .ldc 29, 1, [(0, 0)]), (7, .goto 5, 12, []), (10, .ldc 31, 2, [(0, 0)]), (12, .putfield 17, 97, []), (15, .aload_n 0, 0, []), (16, .iconst 0, 0, []), (17, .putfield 33, 98, []), (20, .aload_n 0, 0, []), (21, .getfield 26, 99, []), (24, .invokevirtual 37, 66, []), (27, .aload_n 0, 0, []), (28, .iconst 0, 0, []), (29, .iconst 0, 0, []), (30, .invokevirtual 40, 49, [])],
  [(33, .ifCond .eq 21, 54, []), (36, .aload_n 0, 0, []), (37, .getfield 33, 98, []), (40, .aload_n 0, 0, []), (41, .getfield 9, 96, []), (44, .getfield 44, 129, []), (47, .if_icmp .ne 7, 54, []), (50, .iconst 1, 1, []), (51, .goto 4, 55, []), (54, .iconst 0, 0, []), (55, .istore_n 2, 0, []), (56, .iload_n 2, 0, []), (57, .ifCond .eq 7, 64, []), (60, .iconst (-1), (-1), []), (61, .goto 7, 68, [])],
  [(64, .aload_n 0, 0, []), (65, .getfield 33, 98, []), (68, .ireturn, 0, [])]] -- X3_faultIn
def pC47 : List (List (Nat × pE)) := [[(0, .aload_n 0, 0, []), (1, .getfield 33, 98, []), (4, .aload_n 0, 0, []), (5, .getfield 9, 96, []), (8, .getfield 44, 129, []), (11, .if_icmp .ge 17, 28, []), (14, .aload_n 0, 0, []), (15, .getfield 9, 96, []), (18, .aload_n 0, 0, []), (19, .getfield 33, 98, []), (22, .invokevirtual 47, 57, []), (25, .goto 4, 29, []), (28, .iconst (-1), (-1), []), (29, .ireturn, 0, [])]] -- X3_here
def pC48 : List (List (Nat × pE)) := [[(0, .iload_n 0, 0, []), (1, .lookupswitch 101 #[(37, 99), (38, 93), (42, 99), (43, 97), (45, 97), (47, 99), (60, 95), (61, 95), (62, 95), (124, 91)], 102, [(37, 100), (38, 94), (42, 100), (43, 98), (45, 98), (47, 100), (60, 96), (61, 96), (62, 96), (124, 92)])],
  [],
  [(92, .iconst 0, 0, []), (93, .ireturn, 0, []), (94, .iconst 1, 1, []), (95, .ireturn, 0, [])],
  [(96, .iconst 2, 2, []), (97, .ireturn, 0, []), (98, .iconst 3, 3, []), (99, .ireturn, 0, []), (100, .iconst 4, 4, []), (101, .ireturn, 0, []), (102, .iconst (-1), (-1), []), (103, .ireturn, 0, [])]] -- X3_levelOf
def pC49 : List (List (Nat × pE)) := [[(0, .iload_n 1, 0, []), (1, .iconst 5, 5, []), (2, .if_icmp .lt 9, 11, []), (5, .aload_n 0, 0, []), (6, .iload_n 2, 0, []), (7, .invokevirtual 50, 50, []), (10, .ireturn, 0, []), (11, .aload_n 0, 0, []), (12, .iload_n 1, 0, []), (13, .iconst 1, 1, []), (14, .iadd, 0, []), (15, .iload_n 2, 0, []), (16, .invokevirtual 40, 49, []), (19, .ifCond .ne 5, 24, []), (22, .iconst 0, 0, []), (23, .ireturn, 0, []), (24, .iload_n 1, 0, []), (25, .iconst 2, 2, []), (26, .if_icmp .ne 7, 33, []), (29, .iconst 1, 1, []), (30, .goto 5, 35, [])],
  [(33, .bipush 50, 50, []), (35, .istore_n 3, 0, []), (36, .iconst 0, 0, []), (37, .istore 4, 0, []), (39, .iload 4, 0, []), (41, .iload_n 3, 0, []), (42, .if_icmp .ge 59, 101, []), (45, .aload_n 0, 0, []), (46, .invokevirtual 54, 47, []), (49, .invokestatic 58, 48, []), (52, .iload_n 1, 0, []), (53, .if_icmp .ne 48, 101, []), (56, .aload_n 0, 0, []), (57, .invokevirtual 54, 47, []), (60, .istore 5, 0, []), (62, .aload_n 0, 0, []), (63, .dup, 0, [])],
  [(64, .getfield 33, 98, []), (67, .iconst 1, 1, []), (68, .iadd, 0, []), (69, .putfield 33, 98, []), (72, .aload_n 0, 0, []), (73, .iload_n 1, 0, []), (74, .iconst 1, 1, []), (75, .iadd, 0, []), (76, .iload_n 2, 0, []), (77, .invokevirtual 40, 49, []), (80, .ifCond .ne 5, 85, []), (83, .iconst 0, 0, []), (84, .ireturn, 0, []), (85, .aload_n 0, 0, []), (86, .getfield 26, 99, []), (89, .iload 5, 0, []), (91, .ineg, 0, []), (92, .invokevirtual 61, 59, []), (95, .iinc 4 1, 0, [])],
  [(98, .goto (-59), 39, []), (101, .iconst 1, 1, []), (102, .ireturn, 0, [])]] -- X3_readsLevel
def pC50 : List (List (Nat × pE)) := [[(0, .aload_n 0, 0, []), (1, .invokevirtual 54, 47, []), (4, .istore_n 2, 0, []), (5, .iload_n 2, 0, []), (6, .invokestatic 64, 54, []), (9, .ifCond .eq 9, 18, []), (12, .aload_n 0, 0, []), (13, .invokevirtual 67, 53, []), (16, .iconst 1, 1, []), (17, .ireturn, 0, []), (18, .iload_n 2, 0, []), (19, .ifCond .ge 7, 26, []), (22, .iconst (-1), (-1), []), (23, .goto 12, 35, []), (26, .aload_n 0, 0, []), (27, .getfield 17, 97, []), (30, .iload_n 2, 0, []), (31, .i2c, 0, [])],
  [(32, .invokevirtual 70, 248, []), (35, .istore_n 3, 0, []), (36, .iload_n 3, 0, []), (37, .ifCond .lt 25, 62, []), (40, .aload_n 0, 0, []), (41, .dup, 0, []), (42, .getfield 33, 98, []), (45, .iconst 1, 1, []), (46, .iadd, 0, []), (47, .putfield 33, 98, []), (50, .aload_n 0, 0, []), (51, .getfield 26, 99, []), (54, .iconst (-1), (-1), []), (55, .iload_n 3, 0, []), (56, .isub, 0, []), (57, .invokevirtual 61, 59, []), (60, .iconst 1, 1, []), (61, .ireturn, 0, []), (62, .iload_n 1, 0, []), (63, .iconst 5, 5, [])],
  [(64, .if_icmp .ge 15, 79, []), (67, .iload_n 2, 0, []), (68, .bipush 33, 33, []), (70, .if_icmp .eq 11, 81, []), (73, .iload_n 2, 0, []), (74, .bipush 40, 40, []), (76, .if_icmp .eq 5, 81, []), (79, .iconst 0, 0, []), (80, .ireturn, 0, []), (81, .aload_n 0, 0, []), (82, .dup, 0, []), (83, .getfield 33, 98, []), (86, .iconst 1, 1, []), (87, .iadd, 0, []), (88, .putfield 33, 98, []), (91, .iload_n 2, 0, []), (92, .bipush 33, 33, []), (94, .if_icmp .ne 13, 107, [])],
  [(97, .aload_n 0, 0, []), (98, .iload_n 1, 0, []), (99, .iconst 1, 1, []), (100, .iadd, 0, []), (101, .invokevirtual 75, 51, []), (104, .goto 26, 130, []), (107, .aload_n 0, 0, []), (108, .iconst 0, 0, []), (109, .iload_n 1, 0, []), (110, .iconst 1, 1, []), (111, .iadd, 0, []), (112, .invokevirtual 40, 49, []), (115, .ifCond .eq 14, 129, []), (118, .aload_n 0, 0, []), (119, .invokevirtual 78, 52, []), (122, .ifCond .eq 7, 129, []), (125, .iconst 1, 1, []), (126, .goto 4, 130, [])],
  [(129, .iconst 0, 0, []), (130, .ireturn, 0, [])]] -- X3_readsInnermost
def pC51 : List (List (Nat × pE)) := [[(0, .aload_n 0, 0, []), (1, .iload_n 1, 0, []), (2, .invokevirtual 50, 50, []), (5, .ifCond .ne 5, 10, []), (8, .iconst 0, 0, []), (9, .ireturn, 0, []), (10, .aload_n 0, 0, []), (11, .getfield 26, 99, []), (14, .bipush (-33), (-33), []), (16, .invokevirtual 61, 59, []), (19, .iconst 1, 1, []), (20, .ireturn, 0, [])]] -- X3_readsNegated
def pC52 : List (List (Nat × pE)) := [[(0, .aload_n 0, 0, []), (1, .invokevirtual 54, 47, []), (4, .bipush 41, 41, []), (6, .if_icmp .eq 5, 11, []), (9, .iconst 0, 0, []), (10, .ireturn, 0, []), (11, .aload_n 0, 0, []), (12, .dup, 0, []), (13, .getfield 33, 98, []), (16, .iconst 1, 1, []), (17, .iadd, 0, []), (18, .putfield 33, 98, []), (21, .iconst 1, 1, []), (22, .ireturn, 0, [])]] -- X3_readsClosing
def pC53 : List (List (Nat × pE)) := [[(0, .iconst 0, 0, []), (1, .istore_n 1, 0, []), (2, .iconst 0, 0, []), (3, .istore_n 2, 0, []), (4, .iload_n 2, 0, []), (5, .iconst 4, 4, []), (6, .if_icmp .ge 42, 48, []), (9, .aload_n 0, 0, []), (10, .invokevirtual 54, 47, []), (13, .invokestatic 64, 54, []), (16, .ifCond .eq 32, 48, []), (19, .iload_n 1, 0, []), (20, .bipush 10, 10, []), (22, .imul, 0, []), (23, .aload_n 0, 0, []), (24, .invokevirtual 54, 47, []), (27, .iadd, 0, []), (28, .bipush 48, 48, []), (30, .isub, 0, []), (31, .istore_n 1, 0, [])],
  [(32, .aload_n 0, 0, []), (33, .dup, 0, []), (34, .getfield 33, 98, []), (37, .iconst 1, 1, []), (38, .iadd, 0, []), (39, .putfield 33, 98, []), (42, .iinc 2 1, 0, []), (45, .goto (-41), 4, []), (48, .aload_n 0, 0, []), (49, .getfield 26, 99, []), (52, .iload_n 1, 0, []), (53, .invokevirtual 61, 59, []), (56, .return_, 0, [])]] -- X3_readNumber
def pC54 : List (List (Nat × pE)) := [[(0, .iload_n 0, 0, []), (1, .bipush 48, 48, []), (3, .if_icmp .lt 13, 16, []), (6, .iload_n 0, 0, []), (7, .bipush 57, 57, []), (9, .if_icmp .gt 7, 16, []), (12, .iconst 1, 1, []), (13, .goto 4, 17, []), (16, .iconst 0, 0, []), (17, .ireturn, 0, [])]] -- X3_isDigit
def pC55 : List (List (Nat × pE)) := [[(0, .aload_n 0, 0, []), (1, .invokespecial 1, (-1), []), (4, .aload_n 0, 0, []), (5, .iload_n 1, 0, []), (6, .iconst 0, 0, []), (7, .invokestatic 7, (-3), []), (10, .newarray .int, 0, []), (12, .putfield 13, 128, []), (15, .return_, 0, [])]] -- X4_init
def pC56 : List (List (Nat × pE)) := [[(0, .new 14, 4, []), (3, .dup, 0, []), (4, .iload_n 0, 0, []), (5, .invokespecial 19, 55, []), (8, .astore_n 1, 0, []), (9, .aload_n 1, 0, []), (10, .aload_n 1, 0, []), (11, .getfield 13, 128, []), (14, .arraylength, 0, []), (15, .putfield 22, 129, []), (18, .aload_n 1, 0, []), (19, .areturn, 0, [])]] -- X4_full
def pC57 : List (List (Nat × pE)) := [[(0, .iload_n 1, 0, []), (1, .ifCond .lt 29, 30, []), (4, .iload_n 1, 0, []), (5, .aload_n 0, 0, []), (6, .getfield 22, 129, []), (9, .if_icmp .ge 21, 30, []), (12, .iload_n 1, 0, []), (13, .aload_n 0, 0, []), (14, .getfield 13, 128, []), (17, .arraylength, 0, []), (18, .if_icmp .ge 12, 30, []), (21, .aload_n 0, 0, []), (22, .getfield 13, 128, []), (25, .iload_n 1, 0, []), (26, .iaload, 0, []), (27, .goto 4, 31, []), (30, .iconst 0, 0, []), (31, .ireturn, 0, [])]] -- X4_at
def pC58 : List (List (Nat × pE)) := [[(0, .iload_n 1, 0, []), (1, .ifCond .lt 27, 28, []), (4, .iload_n 1, 0, []), (5, .aload_n 0, 0, []), (6, .getfield 22, 129, []), (9, .if_icmp .ge 19, 28, []), (12, .iload_n 1, 0, []), (13, .aload_n 0, 0, []), (14, .getfield 13, 128, []), (17, .arraylength, 0, []), (18, .if_icmp .ge 10, 28, []), (21, .aload_n 0, 0, []), (22, .getfield 13, 128, []), (25, .iload_n 1, 0, []), (26, .iload_n 2, 0, []), (27, .iastore, 0, []), (28, .return_, 0, [])]] -- X4_change
def pC59 : List (List (Nat × pE)) := [[(0, .aload_n 0, 0, []), (1, .getfield 22, 129, []), (4, .ifCond .lt 35, 39, []), (7, .aload_n 0, 0, []), (8, .getfield 22, 129, []), (11, .aload_n 0, 0, []), (12, .getfield 13, 128, []), (15, .arraylength, 0, []), (16, .if_icmp .ge 23, 39, []), (19, .aload_n 0, 0, []), (20, .getfield 13, 128, []), (23, .aload_n 0, 0, []), (24, .getfield 22, 129, []), (27, .iload_n 1, 0, []), (28, .iastore, 0, []), (29, .aload_n 0, 0, []), (30, .dup, 0, []), (31, .getfield 22, 129, [])],
  [(34, .iconst 1, 1, []), (35, .iadd, 0, []), (36, .putfield 22, 129, []), (39, .return_, 0, [])]] -- X4_add
def pC60 : List (List (Nat × pE)) := [[(0, .aload_n 0, 0, []), (1, .getfield 22, 129, []), (4, .iconst 1, 1, []), (5, .if_icmp .lt 15, 20, []), (8, .aload_n 0, 0, []), (9, .getfield 22, 129, []), (12, .aload_n 0, 0, []), (13, .getfield 13, 128, []), (16, .arraylength, 0, []), (17, .if_icmp .le 5, 22, []), (20, .iconst 0, 0, []), (21, .ireturn, 0, []), (22, .aload_n 0, 0, []), (23, .dup, 0, []), (24, .getfield 22, 129, []), (27, .iconst 1, 1, []), (28, .isub, 0, []), (29, .putfield 22, 129, [])],
  [(32, .aload_n 0, 0, []), (33, .getfield 13, 128, []), (36, .aload_n 0, 0, []), (37, .getfield 22, 129, []), (40, .iaload, 0, []), (41, .ireturn, 0, [])]] -- X4_takeLast
def pC61 : List (List (Nat × pE)) := [[(0, .iload_n 1, 0, []), (1, .ifCond .lt 23, 24, []), (4, .iload_n 1, 0, []), (5, .aload_n 0, 0, []), (6, .getfield 22, 129, []), (9, .if_icmp .gt 15, 24, []), (12, .aload_n 0, 0, []), (13, .getfield 22, 129, []), (16, .aload_n 0, 0, []), (17, .getfield 13, 128, []), (20, .arraylength, 0, []), (21, .if_icmp .lt 4, 25, []), (24, .return_, 0, []), (25, .aload_n 0, 0, []), (26, .getfield 22, 129, []), (29, .istore_n 3, 0, []), (30, .iload_n 3, 0, []), (31, .iload_n 1, 0, [])],
  [(32, .if_icmp .le 23, 55, []), (35, .aload_n 0, 0, []), (36, .getfield 13, 128, []), (39, .iload_n 3, 0, []), (40, .aload_n 0, 0, []), (41, .getfield 13, 128, []), (44, .iload_n 3, 0, []), (45, .iconst 1, 1, []), (46, .isub, 0, []), (47, .iaload, 0, []), (48, .iastore, 0, []), (49, .iinc 3 (-1), 0, []), (52, .goto (-22), 30, []), (55, .aload_n 0, 0, []), (56, .getfield 13, 128, []), (59, .iload_n 1, 0, []), (60, .iload_n 2, 0, []), (61, .iastore, 0, []), (62, .aload_n 0, 0, []), (63, .dup, 0, [])],
  [(64, .getfield 22, 129, []), (67, .iconst 1, 1, []), (68, .iadd, 0, []), (69, .putfield 22, 129, []), (72, .return_, 0, [])]] -- X4_insert
def pC62 : List (List (Nat × pE)) := [[(0, .iload_n 1, 0, []), (1, .ifCond .lt 23, 24, []), (4, .iload_n 1, 0, []), (5, .aload_n 0, 0, []), (6, .getfield 22, 129, []), (9, .if_icmp .ge 15, 24, []), (12, .aload_n 0, 0, []), (13, .getfield 22, 129, []), (16, .aload_n 0, 0, []), (17, .getfield 13, 128, []), (20, .arraylength, 0, []), (21, .if_icmp .le 4, 25, []), (24, .return_, 0, []), (25, .iload_n 1, 0, []), (26, .istore_n 2, 0, []), (27, .iload_n 2, 0, []), (28, .aload_n 0, 0, []), (29, .getfield 22, 129, [])],
  [(32, .iconst 1, 1, []), (33, .isub, 0, []), (34, .if_icmp .ge 23, 57, []), (37, .aload_n 0, 0, []), (38, .getfield 13, 128, []), (41, .iload_n 2, 0, []), (42, .aload_n 0, 0, []), (43, .getfield 13, 128, []), (46, .iload_n 2, 0, []), (47, .iconst 1, 1, []), (48, .iadd, 0, []), (49, .iaload, 0, []), (50, .iastore, 0, []), (51, .iinc 2 1, 0, []), (54, .goto (-27), 27, []), (57, .aload_n 0, 0, []), (58, .dup, 0, []), (59, .getfield 22, 129, []), (62, .iconst 1, 1, []), (63, .isub, 0, [])],
  [(64, .putfield 22, 129, []), (67, .return_, 0, [])]] -- X4_removeAt
def pC63 : List (List (Nat × pE)) := [[(0, .iconst 0, 0, []), (1, .istore_n 2, 0, []), (2, .iload_n 2, 0, []), (3, .aload_n 0, 0, []), (4, .getfield 22, 129, []), (7, .if_icmp .ge 20, 27, []), (10, .aload_n 0, 0, []), (11, .iload_n 2, 0, []), (12, .invokevirtual 26, 57, []), (15, .iload_n 1, 0, []), (16, .if_icmp .ne 5, 21, []), (19, .iload_n 2, 0, []), (20, .ireturn, 0, []), (21, .iinc 2 1, 0, []), (24, .goto (-22), 2, []), (27, .iconst (-1), (-1), []), (28, .ireturn, 0, [])]] -- X4_find
def pC64 : List (List (Nat × pE)) := [[(0, .aload_n 0, 0, []), (1, .iload_n 1, 0, []), (2, .invokevirtual 26, 57, []), (5, .istore_n 3, 0, []), (6, .aload_n 0, 0, []), (7, .iload_n 1, 0, []), (8, .aload_n 0, 0, []), (9, .iload_n 2, 0, []), (10, .invokevirtual 26, 57, []), (13, .invokevirtual 30, 58, []), (16, .aload_n 0, 0, []), (17, .iload_n 2, 0, []), (18, .iload_n 3, 0, []), (19, .invokevirtual 30, 58, []), (22, .return_, 0, [])]] -- X4_swap
def pC65 : List (List (Nat × pE)) := [[(0, .iconst 0, 0, []), (1, .istore_n 1, 0, []), (2, .iload_n 1, 0, []), (3, .aload_n 0, 0, []), (4, .getfield 22, 129, []), (7, .iconst 2, 2, []), (8, .idiv, 0, []), (9, .if_icmp .ge 22, 31, []), (12, .aload_n 0, 0, []), (13, .iload_n 1, 0, []), (14, .aload_n 0, 0, []), (15, .getfield 22, 129, []), (18, .iconst 1, 1, []), (19, .isub, 0, []), (20, .iload_n 1, 0, []), (21, .isub, 0, []), (22, .invokevirtual 34, 64, []), (25, .iinc 1 1, 0, []), (28, .goto (-26), 2, []), (31, .return_, 0, [])]] -- X4_reverse
def pC66 : List (List (Nat × pE)) := [[(0, .aload_n 0, 0, []), (1, .iconst 0, 0, []), (2, .putfield 22, 129, []), (5, .return_, 0, [])]] -- X4_clear
def pC67 : List (List (Nat × pE)) := [[(0, .aload_n 0, 0, []), (1, .iload_n 1, 0, []), (2, .iconst 0, 0, []), (3, .aload_n 0, 0, []), (4, .getfield 13, 128, []), (7, .arraylength, 0, []), (8, .invokestatic 37, 147, []), (11, .putfield 22, 129, []), (14, .aload_n 0, 0, []), (15, .iconst 0, 0, []), (16, .invokevirtual 43, 68, []), (19, .return_, 0, [])]] -- X4_resize
def pC68 : List (List (Nat × pE)) := [[(0, .iconst 0, 0, []), (1, .istore_n 2, 0, []), (2, .iload_n 2, 0, []), (3, .aload_n 0, 0, []), (4, .getfield 22, 129, []), (7, .if_icmp .ge 15, 22, []), (10, .aload_n 0, 0, []), (11, .iload_n 2, 0, []), (12, .iload_n 1, 0, []), (13, .invokevirtual 30, 58, []), (16, .iinc 2 1, 0, []), (19, .goto (-17), 2, []), (22, .return_, 0, [])]] -- X4_changeAll
def pC69 : List (List (Nat × pE)) := [[(0, .aload_n 0, 0, []), (1, .aload_n 1, 0, []), (2, .getfield 22, 129, []), (5, .aload_n 0, 0, []), (6, .getfield 13, 128, []), (9, .arraylength, 0, []), (10, .invokestatic 46, (-4), []), (13, .putfield 22, 129, []), (16, .aload_n 0, 0, []), (17, .iconst 0, 0, []), (18, .aload_n 1, 0, []), (19, .iconst 0, 0, []), (20, .aload_n 0, 0, []), (21, .getfield 22, 129, []), (24, .invokevirtual 49, 71, []), (27, .return_, 0, [])]] -- X4_copyFrom
def pC70 : List (List (Nat × pE)) := [[(0, .iload_n 2, 0, []), (1, .ifCond .lt 21, 22, []), (4, .iload_n 1, 0, []), (5, .ifCond .lt 17, 22, []), (8, .iload_n 1, 0, []), (9, .aload_n 0, 0, []), (10, .getfield 22, 129, []), (13, .iload_n 2, 0, []), (14, .isub, 0, []), (15, .if_icmp .gt 7, 22, []), (18, .iconst 1, 1, []), (19, .goto 4, 23, []), (22, .iconst 0, 0, []), (23, .ireturn, 0, [])]] -- X4_spans
def pC71 : List (List (Nat × pE)) := [[(0, .aload_n 2, 0, []), (1, .iload_n 3, 0, []), (2, .iload 4, 0, []), (4, .invokevirtual 53, 70, []), (7, .ifCond .eq 28, 35, []), (10, .aload_n 0, 0, []), (11, .iload_n 1, 0, []), (12, .iload 4, 0, []), (14, .invokevirtual 53, 70, []), (17, .ifCond .eq 18, 35, []), (20, .aload_n 2, 0, []), (21, .getfield 13, 128, []), (24, .iload_n 3, 0, []), (25, .aload_n 0, 0, []), (26, .getfield 13, 128, []), (29, .iload_n 1, 0, []), (30, .iload 4, 0, [])],
  [(32, .invokestatic 57, (-2), []), (35, .return_, 0, [])]] -- X4_overwrite
def pC72 : List (List (Nat × pE)) := [[(0, .aload_n 0, 0, []), (1, .invokespecial 3, (-1), []), (4, .aload_n 0, 0, []), (5, .iload_n 1, 0, []), (6, .putfield 9, 160, []), (9, .aload_n 0, 0, []), (10, .iconst 4, 4, []), (11, .putfield 15, 166, []), (14, .return_, 0, [])]] -- X5_init
def pC73 : List (List (Nat × pE)) := [[(0, .aload_n 0, 0, []), (1, .iload_n 1, 0, []), (2, .bipush 10, 10, []), (4, .idiv, 0, []), (5, .putfield 18, 161, []), (8, .aload_n 0, 0, []), (9, .iload_n 1, 0, []), (10, .bipush 10, 10, []), (12, .irem, 0, []), (13, .putfield 21, 162, []), (16, .aload_n 0, 0, []), (17, .iload_n 2, 0, []), (18, .putfield 24, 163, []), (21, .aload_n 0, 0, []), (22, .iload_n 3, 0, []), (23, .putfield 27, 164, []), (26, .aload_n 0, 0, []), (27, .iload 4, 0, []), (29, .putfield 30, 165, [])],
  [(32, .aload_n 0, 0, []), (33, .iconst 1, 1, []), (34, .putfield 33, 169, []), (37, .aload_n 0, 0, []), (38, .iconst 4, 4, []), (39, .iconst 0, 0, []), (40, .iconst 0, 0, []), (41, .invokevirtual 36, 74, []), (44, .return_, 0, [])]] -- X5_begin
def pC74 : List (List (Nat × pE)) := [[(0, .aload_n 0, 0, []), (1, .iload_n 1, 0, []), (2, .putfield 15, 166, []), (5, .aload_n 0, 0, []), (6, .iload_n 2, 0, []), (7, .putfield 40, 167, []), (10, .aload_n 0, 0, []), (11, .iload_n 3, 0, []), (12, .putfield 43, 168, []), (15, .return_, 0, [])]] -- X5_carry
def pC75 : List (List (Nat × pE)) := [[(0, .iload_n 1, 0, []), (1, .tableswitch 78 0 6 #[43, 48, 53, 58, 63, 68, 73], 79, [(0, 44), (1, 49), (2, 54), (3, 59), (4, 64), (5, 69), (6, 74)])],
  [(44, .aload_n 0, 0, []), (45, .getfield 18, 161, []), (48, .ireturn, 0, []), (49, .aload_n 0, 0, []), (50, .getfield 21, 162, []), (53, .ireturn, 0, []), (54, .aload_n 0, 0, []), (55, .getfield 24, 163, []), (58, .ireturn, 0, []), (59, .aload_n 0, 0, []), (60, .getfield 27, 164, []), (63, .ireturn, 0, [])],
  [(64, .aload_n 0, 0, []), (65, .getfield 30, 165, []), (68, .ireturn, 0, []), (69, .aload_n 0, 0, []), (70, .getfield 15, 166, []), (73, .ireturn, 0, []), (74, .aload_n 0, 0, []), (75, .getfield 33, 169, []), (78, .ireturn, 0, []), (79, .aload_n 0, 0, []), (80, .invokevirtual 46, 78, []), (83, .ireturn, 0, [])]] -- X5_own
def pC76 : List (List (Nat × pE)) := [[(0, .iload_n 0, 0, []), (1, .tableswitch 54 3 6 #[31, 39, 54, 47], 55, [(3, 32), (4, 40), (5, 55), (6, 48)])],
  [(32, .iload_n 1, 0, []), (33, .iconst 1, 1, []), (34, .bipush 30, 30, []), (36, .invokestatic 50, 146, []), (39, .ireturn, 0, []), (40, .iload_n 1, 0, []), (41, .iconst 0, 0, []), (42, .bipush 63, 63, []), (44, .invokestatic 50, 146, []), (47, .ireturn, 0, []), (48, .iload_n 1, 0, []), (49, .iconst 0, 0, []), (50, .iconst 1, 1, []), (51, .invokestatic 50, 146, []), (54, .ireturn, 0, []), (55, .iconst 0, 0, []), (56, .ireturn, 0, [])]] -- X5_mayHave
def pC77 : List (List (Nat × pE)) := [[(0, .aload_n 0, 0, []), (1, .iload_n 1, 0, []), (2, .invokevirtual 54, 75, []), (5, .istore_n 3, 0, []), (6, .iload_n 1, 0, []), (7, .lookupswitch 41 #[(3, 25), (4, 33)], 48, [(3, 32), (4, 40)])],
  [(32, .aload_n 0, 0, []), (33, .iload_n 2, 0, []), (34, .putfield 27, 164, []), (37, .goto 16, 53, []), (40, .aload_n 0, 0, []), (41, .iload_n 2, 0, []), (42, .putfield 30, 165, []), (45, .goto 8, 53, []), (48, .aload_n 0, 0, []), (49, .iload_n 2, 0, []), (50, .putfield 33, 169, []), (53, .iload_n 3, 0, []), (54, .ireturn, 0, [])]] -- X5_change
def pC78 : List (List (Nat × pE)) := [[(0, .aload_n 0, 0, []), (1, .getfield 18, 161, []), (4, .tableswitch 50 2 6 #[36, 41, 50, 36, 43], 54, [(2, 40), (3, 45), (4, 54), (5, 40), (6, 47)])],
  [(40, .aload_n 0, 0, []), (41, .getfield 21, 162, []), (44, .ireturn, 0, []), (45, .iconst 5, 5, []), (46, .ireturn, 0, []), (47, .iconst 5, 5, []), (48, .aload_n 0, 0, []), (49, .getfield 21, 162, []), (52, .iadd, 0, []), (53, .ireturn, 0, []), (54, .iconst 0, 0, []), (55, .ireturn, 0, [])]] -- X5_shock
def pC79 : List (List (Nat × pE)) := [[(0, .aload_n 0, 0, []), (1, .getfield 24, 163, []), (4, .invokestatic 58, 255, []), (7, .istore_n 3, 0, []), (8, .iload_n 2, 0, []), (9, .tableswitch 132 0 5 #[39, 50, 61, 74, 85, 103], 141, [(0, 48), (1, 59), (2, 70), (3, 83), (4, 94), (5, 112)])],
  [(48, .iload_n 1, 0, []), (49, .iload_n 3, 0, []), (50, .if_icmp .ne 7, 57, []), (53, .iconst 1, 1, []), (54, .goto 4, 58, []), (57, .iconst 0, 0, []), (58, .ireturn, 0, []), (59, .iload_n 1, 0, []), (60, .iconst 1, 1, []), (61, .if_icmp .lt 7, 68, [])],
  [(64, .iconst 1, 1, []), (65, .goto 4, 69, []), (68, .iconst 0, 0, []), (69, .ireturn, 0, []), (70, .iload_n 1, 0, []), (71, .iconst 2, 2, []), (72, .irem, 0, []), (73, .iconst 1, 1, []), (74, .if_icmp .ne 7, 81, []), (77, .iconst 1, 1, []), (78, .goto 4, 82, []), (81, .iconst 0, 0, []), (82, .ireturn, 0, []), (83, .iload_n 1, 0, []), (84, .iload_n 3, 0, []), (85, .if_icmp .ge 7, 92, []), (88, .iconst 1, 1, []), (89, .goto 4, 93, []), (92, .iconst 0, 0, []), (93, .ireturn, 0, []), (94, .iload_n 1, 0, []), (95, .iconst 1, 1, [])],
  [(96, .aload_n 0, 0, []), (97, .getfield 21, 162, []), (100, .iconst 3, 3, []), (101, .irem, 0, []), (102, .iadd, 0, []), (103, .if_icmp .lt 7, 110, []), (106, .iconst 1, 1, []), (107, .goto 4, 111, []), (110, .iconst 0, 0, []), (111, .ireturn, 0, []), (112, .iload_n 1, 0, []), (113, .iconst 2, 2, []), (114, .irem, 0, []), (115, .iconst 1, 1, []), (116, .if_icmp .ne 7, 123, []), (119, .iconst 1, 1, []), (120, .goto 4, 124, []), (123, .iconst 0, 0, []), (124, .aload_n 0, 0, []), (125, .getfield 21, 162, [])],
  [(128, .iconst 2, 2, []), (129, .irem, 0, []), (130, .iconst 1, 1, []), (131, .if_icmp .ne 7, 138, []), (134, .iconst 1, 1, []), (135, .goto 4, 139, []), (138, .iconst 0, 0, []), (139, .ixor, 0, []), (140, .ireturn, 0, []), (141, .aload_n 0, 0, []), (142, .getfield 21, 162, []), (145, .iconst 4, 4, []), (146, .if_icmp .gt 8, 154, []), (149, .iload_n 1, 0, []), (150, .iload_n 3, 0, []), (151, .if_icmp .ge 7, 158, []), (154, .iconst 1, 1, []), (155, .goto 4, 159, []), (158, .iconst 0, 0, []), (159, .ireturn, 0, [])]] -- X5_comesOf
def pC80 : List (List (Nat × pE)) := [[(0, .iload_n 1, 0, []), (1, .iconst 1, 1, []), (2, .if_icmp .ne 10, 12, []), (5, .aload_n 0, 0, []), (6, .getfield 43, 168, []), (9, .goto 7, 16, []), (12, .aload_n 0, 0, []), (13, .getfield 40, 167, []), (16, .ireturn, 0, [])]] -- X5_beginsAt
def pC81 : List (List (Nat × pE)) := [[(0, .iload_n 1, 0, []), (1, .iconst 1, 1, []), (2, .if_icmp .ne 10, 12, []), (5, .aload_n 0, 0, []), (6, .getfield 40, 167, []), (9, .goto 7, 16, []), (12, .aload_n 0, 0, []), (13, .getfield 43, 168, []), (16, .ireturn, 0, [])]] -- X5_endsAt
def pC82 : List (List (Nat × pE)) := [[(0, .aload_n 0, 0, []), (1, .aload_n 1, 0, []), (2, .getfield 18, 161, []), (5, .putfield 18, 161, []), (8, .aload_n 0, 0, []), (9, .aload_n 1, 0, []), (10, .getfield 21, 162, []), (13, .putfield 21, 162, []), (16, .aload_n 0, 0, []), (17, .aload_n 1, 0, []), (18, .getfield 24, 163, []), (21, .putfield 24, 163, []), (24, .aload_n 0, 0, []), (25, .aload_n 1, 0, []), (26, .getfield 27, 164, []), (29, .putfield 27, 164, [])],
  [(32, .aload_n 0, 0, []), (33, .aload_n 1, 0, []), (34, .getfield 30, 165, []), (37, .putfield 30, 165, []), (40, .aload_n 0, 0, []), (41, .aload_n 1, 0, []), (42, .getfield 15, 166, []), (45, .putfield 15, 166, []), (48, .aload_n 0, 0, []), (49, .aload_n 1, 0, []), (50, .getfield 40, 167, []), (53, .putfield 40, 167, []), (56, .aload_n 0, 0, []), (57, .aload_n 1, 0, []), (58, .getfield 43, 168, []), (61, .putfield 43, 168, [])],
  [(64, .aload_n 0, 0, []), (65, .aload_n 1, 0, []), (66, .getfield 33, 169, []), (69, .putfield 33, 169, []), (72, .return_, 0, [])]] -- X5_copyFrom
def pC83 : List (List (Nat × pE)) := [[(0, .aload_n 0, 0, []), (1, .invokespecial 3, (-1), []), (4, .aload_n 0, 0, []), (5, .new 9, 4, []), (8, .dup, 0, []), (9, .bipush 40, 40, []), (11, .invokespecial 11, 55, []), (14, .putfield 14, 192, []), (17, .return_, 0, [])]] -- X6_init
def pC84 : List (List (Nat × pE)) := [[(0, .aload_n 0, 0, []), (1, .iload_n 1, 0, []), (2, .putfield 20, 193, []), (5, .aload_n 0, 0, []), (6, .getfield 14, 192, []), (9, .iload_n 1, 0, []), (10, .ifCond .ne 7, 17, []), (13, .iconst 0, 0, []), (14, .goto 4, 18, []), (17, .iload_n 2, 0, []), (18, .invokevirtual 24, 67, []), (21, .return_, 0, [])]] -- X6_lay
def pC85 : List (List (Nat × pE)) := [[(0, .bipush 32, 32, []), (2, .aload_n 0, 0, []), (3, .getfield 20, 193, []), (6, .isub, 0, []), (7, .istore_n 3, 0, []), (8, .aload_n 0, 0, []), (9, .getfield 14, 192, []), (12, .iload_n 1, 0, []), (13, .iload_n 2, 0, []), (14, .iload_n 3, 0, []), (15, .ishl, 0, []), (16, .iload_n 3, 0, []), (17, .ishr, 0, []), (18, .invokevirtual 27, 58, []), (21, .return_, 0, [])]] -- X6_write
def pC86 : List (List (Nat × pE)) := [[(0, .aload_n 0, 0, []), (1, .invokespecial 3, (-1), []), (4, .aload_n 0, 0, []), (5, .new 9, 4, []), (8, .dup, 0, []), (9, .bipush 40, 40, []), (11, .invokespecial 11, 55, []), (14, .putfield 14, 224, []), (17, .return_, 0, [])]] -- X7_init
def pC87 : List (List (Nat × pE)) := [[(0, .iload_n 1, 0, []), (1, .istore_n 2, 0, []), (2, .iconst 0, 0, []), (3, .istore_n 3, 0, []), (4, .iload_n 3, 0, []), (5, .bipush 7, 7, []), (7, .if_icmp .ge 28, 35, []), (10, .iload_n 2, 0, []), (11, .ifCond .lt 24, 35, []), (14, .iload_n 0, 0, []), (15, .iload_n 2, 0, []), (16, .invokestatic 20, 88, []), (19, .ifCond .eq 5, 24, []), (22, .iload_n 2, 0, []), (23, .ireturn, 0, []), (24, .iload_n 2, 0, []), (25, .invokestatic 24, 150, []), (28, .istore_n 2, 0, []), (29, .iinc 3 1, 0, [])],
  [(32, .goto (-28), 4, []), (35, .iconst (-1), (-1), []), (36, .ireturn, 0, [])]] -- X7_ownerOf
def pC88 : List (List (Nat × pE)) := [[(0, .iload_n 1, 0, []), (1, .iconst 4, 4, []), (2, .imul, 0, []), (3, .iload_n 0, 0, []), (4, .iadd, 0, []), (5, .istore_n 2, 0, []), (6, .iload_n 2, 0, []), (7, .ifCond .lt 19, 26, []), (10, .iload_n 2, 0, []), (11, .getstatic 28, 2, []), (14, .arraylength, 0, []), (15, .if_icmp .ge 11, 26, []), (18, .getstatic 28, 2, []), (21, .iload_n 2, 0, []), (22, .iaload, 0, []), (23, .goto 4, 27, []), (26, .iconst 0, 0, []), (27, .ireturn, 0, [])]] -- X7_bodyOf
def pC89 : List (List (Nat × pE)) := [[(0, .iload_n 3, 0, []), (1, .iload_n 2, 0, []), (2, .invokestatic 32, 87, []), (5, .istore 6, 0, []), (7, .iload 6, 0, []), (9, .ifCond .lt 10, 19, []), (12, .iload 5, 0, []), (14, .bipush 20, 20, []), (16, .if_icmp .le 5, 21, []), (19, .iconst 0, 0, []), (20, .ireturn, 0, []), (21, .iload_n 3, 0, []), (22, .iload 6, 0, []), (24, .invokestatic 20, 88, []), (27, .istore 7, 0, []), (29, .aload_n 0, 0, []), (30, .getfield 14, 224, [])],
  [(33, .iload 7, 0, []), (35, .invokevirtual 35, 59, []), (38, .aload_n 0, 0, []), (39, .iload 7, 0, []), (41, .aload_n 1, 0, []), (42, .iload 6, 0, []), (44, .invokestatic 24, 150, []), (47, .iload 4, 0, []), (49, .iload 5, 0, []), (51, .iconst 1, 1, []), (52, .iadd, 0, []), (53, .invokevirtual 38, 90, []), (56, .ireturn, 0, [])]] -- X7_speak
def pC90 : List (List (Nat × pE)) := [[(0, .aload_n 2, 0, []), (1, .getfield 42, 161, []), (4, .istore 6, 0, []), (6, .iload_n 1, 0, []), (7, .lookupswitch 252 #[(10, 89), (11, 97), (12, 112), (13, 120), (20, 146), (30, 170), (40, 184), (50, 197), (60, 211), (70, 235)], 259, [(10, 96), (11, 104), (12, 119), (13, 127), (20, 153), (30, 177), (40, 191), (50, 204), (60, 218), (70, 242)])],
  [],
  [],
  [(96, .iload 4, 0, []), (98, .aload_n 2, 0, []), (99, .getfield 48, 160, []), (102, .iadd, 0, []), (103, .ireturn, 0, []), (104, .aload_n 0, 0, []), (105, .aload_n 2, 0, []), (106, .iload 6, 0, []), (108, .iconst 0, 0, []), (109, .iload 4, 0, []), (111, .iload 5, 0, []), (113, .invokevirtual 51, 89, []), (116, .iconst 2, 2, []), (117, .imul, 0, []), (118, .ireturn, 0, []), (119, .iload 4, 0, []), (121, .aload_n 2, 0, []), (122, .getfield 55, 162, []), (125, .isub, 0, []), (126, .ireturn, 0, []), (127, .aload_n 0, 0, [])],
  [(128, .aload_n 2, 0, []), (129, .iload 6, 0, []), (131, .iconst 1, 1, []), (132, .iload 4, 0, []), (134, .iload 5, 0, []), (136, .invokevirtual 51, 89, []), (139, .aload_n 0, 0, []), (140, .aload_n 2, 0, []), (141, .iload 6, 0, []), (143, .iconst 2, 2, []), (144, .iload 4, 0, []), (146, .iload 5, 0, []), (148, .invokevirtual 51, 89, []), (151, .ixor, 0, []), (152, .ireturn, 0, []), (153, .aload_n 0, 0, []), (154, .aload_n 2, 0, []), (155, .iload_n 3, 0, []), (156, .iconst 1, 1, []), (157, .iload 4, 0, []), (159, .iload 5, 0, [])],
  [(161, .invokevirtual 51, 89, []), (164, .aload_n 0, 0, []), (165, .aload_n 2, 0, []), (166, .iload 6, 0, []), (168, .iconst 2, 2, []), (169, .iconst 1, 1, []), (170, .iload 5, 0, []), (172, .invokevirtual 51, 89, []), (175, .isub, 0, []), (176, .ireturn, 0, []), (177, .aload_n 0, 0, []), (178, .aload_n 2, 0, []), (179, .iload_n 3, 0, []), (180, .iconst 0, 0, []), (181, .iload 4, 0, []), (183, .iload 5, 0, []), (185, .invokevirtual 51, 89, []), (188, .iconst 3, 3, []), (189, .imul, 0, []), (190, .ireturn, 0, []), (191, .aload_n 0, 0, [])],
  [(192, .aload_n 2, 0, []), (193, .iload_n 3, 0, []), (194, .iconst 2, 2, []), (195, .iload 4, 0, []), (197, .iload 5, 0, []), (199, .invokevirtual 51, 89, []), (202, .ineg, 0, []), (203, .ireturn, 0, []), (204, .aload_n 0, 0, []), (205, .aload_n 2, 0, []), (206, .iload_n 3, 0, []), (207, .iconst 1, 1, []), (208, .iload 4, 0, []), (210, .iconst 1, 1, []), (211, .iadd, 0, []), (212, .iload 5, 0, []), (214, .invokevirtual 51, 89, []), (217, .ireturn, 0, []), (218, .aload_n 0, 0, []), (219, .aload_n 2, 0, []), (220, .iload_n 3, 0, []), (221, .iconst 3, 3, []), (222, .iload 4, 0, [])],
  [(224, .iload 5, 0, []), (226, .invokevirtual 51, 89, []), (229, .aload_n 0, 0, []), (230, .aload_n 2, 0, []), (231, .iload 6, 0, []), (233, .iconst 0, 0, []), (234, .iconst 2, 2, []), (235, .iload 5, 0, []), (237, .invokevirtual 51, 89, []), (240, .isub, 0, []), (241, .ireturn, 0, []), (242, .aload_n 0, 0, []), (243, .aload_n 2, 0, []), (244, .iload_n 3, 0, []), (245, .iconst 2, 2, []), (246, .iload 4, 0, []), (248, .iload 5, 0, []), (250, .invokevirtual 51, 89, []), (253, .aload_n 2, 0, []), (254, .getfield 48, 160, [])],
  [(257, .ixor, 0, []), (258, .ireturn, 0, []), (259, .aload_n 0, 0, []), (260, .aload_n 2, 0, []), (261, .iload 6, 0, []), (263, .iconst 1, 1, []), (264, .iload 4, 0, []), (266, .iload 5, 0, []), (268, .invokevirtual 51, 89, []), (271, .aload_n 0, 0, []), (272, .aload_n 2, 0, []), (273, .iload_n 3, 0, []), (274, .iconst 3, 3, []), (275, .iload 4, 0, []), (277, .iload 5, 0, []), (279, .invokevirtual 51, 89, []), (282, .isub, 0, []), (283, .ireturn, 0, [])]] -- X7_run
def pC91 : List (List (Nat × pE)) := [[(0, .aload_n 0, 0, []), (1, .invokespecial 3, (-1), []), (4, .aload_n 0, 0, []), (5, .aload_n 1, 0, []), (6, .putfield 9, 256, []), (9, .aload_n 0, 0, []), (10, .new 15, 4, []), (13, .dup, 0, []), (14, .sipush 128, 128, []), (17, .invokespecial 17, 55, []), (20, .putfield 20, 257, []), (23, .return_, 0, [])]] -- X8_init
def pC92 : List (List (Nat × pE)) := [[(0, .aload_n 0, 0, []), (1, .getfield 9, 256, []), (4, .invokevirtual 24, 25, []), (7, .iconst (-1), (-1), []), (8, .ixor, 0, []), (9, .istore_n 3, 0, []), (10, .aload_n 0, 0, []), (11, .getfield 9, 256, []), (14, .invokevirtual 30, 24, []), (17, .istore 4, 0, []), (19, .iconst (-1), (-1), []), (20, .istore 5, 0, []), (22, .iconst 0, 0, []), (23, .istore 6, 0, []), (25, .iload 6, 0, []), (27, .aload_n 0, 0, []), (28, .getfield 9, 256, []), (31, .invokevirtual 33, 22, [])],
  [(34, .if_icmp .gt 72, 106, []), (37, .iload 5, 0, []), (39, .ifCond .lt 16, 55, []), (42, .iload 6, 0, []), (44, .invokestatic 36, 255, []), (47, .iload 5, 0, []), (49, .invokestatic 36, 255, []), (52, .if_icmp .ge 7, 59, []), (55, .iconst 1, 1, []), (56, .goto 4, 60, []), (59, .iconst 0, 0, []), (60, .istore 7, 0, []), (62, .iload 6, 0, [])],
  [(64, .iload_n 3, 0, []), (65, .iand, 0, []), (66, .ifCond .ne 34, 100, []), (69, .iload 7, 0, []), (71, .ifCond .eq 29, 100, []), (74, .aload_n 0, 0, []), (75, .getfield 9, 256, []), (78, .iload 4, 0, []), (80, .iload 6, 0, []), (82, .ixor, 0, []), (83, .iconst (-1), (-1), []), (84, .iconst 0, 0, []), (85, .invokevirtual 42, 27, []), (88, .iload_n 1, 0, []), (89, .ishr, 0, []), (90, .iconst 1, 1, []), (91, .iand, 0, []), (92, .iload_n 2, 0, []), (93, .if_icmp .ne 7, 100, [])],
  [(96, .iload 6, 0, []), (98, .istore 5, 0, []), (100, .iinc 6 1, 0, []), (103, .goto (-78), 25, []), (106, .iload 5, 0, []), (108, .ireturn, 0, [])]] -- X8_leastChange
def pC93 : List (List (Nat × pE)) := [[(0, .aload_n 0, 0, []), (1, .getfield 9, 256, []), (4, .invokevirtual 24, 25, []), (7, .iconst (-1), (-1), []), (8, .ixor, 0, []), (9, .istore_n 1, 0, []), (10, .aload_n 0, 0, []), (11, .getfield 9, 256, []), (14, .invokevirtual 46, 26, []), (17, .istore_n 2, 0, []), (18, .aload_n 0, 0, []), (19, .getfield 20, 257, []), (22, .invokevirtual 49, 66, []), (25, .iconst 0, 0, []), (26, .istore_n 3, 0, []), (27, .iload_n 3, 0, []), (28, .aload_n 0, 0, []), (29, .getfield 9, 256, [])],
  [(32, .invokevirtual 33, 22, []), (35, .if_icmp .gt 34, 69, []), (38, .iload_n 3, 0, []), (39, .iload_n 1, 0, []), (40, .iand, 0, []), (41, .ifCond .ne 22, 63, []), (44, .aload_n 0, 0, []), (45, .getfield 20, 257, []), (48, .aload_n 0, 0, []), (49, .getfield 9, 256, []), (52, .iload_n 3, 0, []), (53, .iconst (-1), (-1), []), (54, .iconst 0, 0, []), (55, .invokevirtual 42, 27, []), (58, .iload_n 2, 0, []), (59, .ixor, 0, []), (60, .invokevirtual 52, 59, []), (63, .iinc 3 1, 0, [])],
  [(66, .goto (-39), 27, []), (69, .return_, 0, [])]] -- X8_compare
def pC94 : List (List (Nat × pE)) := [[(0, .aload_n 0, 0, []), (1, .getfield 9, 256, []), (4, .iload_n 1, 0, []), (5, .invokevirtual 55, 31, []), (8, .istore_n 2, 0, []), (9, .iconst 0, 0, []), (10, .istore_n 3, 0, []), (11, .iconst 0, 0, []), (12, .istore 4, 0, []), (14, .iload 4, 0, []), (16, .aload_n 0, 0, []), (17, .getfield 20, 257, []), (20, .getfield 58, 129, []), (23, .if_icmp .ge 34, 57, []), (26, .iload_n 3, 0, []), (27, .aload_n 0, 0, []), (28, .getfield 20, 257, []), (31, .iload 4, 0, [])],
  [(33, .invokevirtual 62, 57, []), (36, .iload_n 2, 0, []), (37, .iand, 0, []), (38, .ifCond .ne 7, 45, []), (41, .iconst 1, 1, []), (42, .goto 4, 46, []), (45, .iconst 0, 0, []), (46, .invokestatic 65, 148, []), (49, .iadd, 0, []), (50, .istore_n 3, 0, []), (51, .iinc 4 1, 0, []), (54, .goto (-40), 14, []), (57, .iload_n 3, 0, []), (58, .ireturn, 0, [])]] -- X8_likeUpTo
def pC95 : List (List (Nat × pE)) := [[(0, .aload_n 0, 0, []), (1, .invokespecial 3, (-1), []), (4, .aload_n 0, 0, []), (5, .new 9, 2, []), (8, .dup, 0, []), (9, .invokespecial 11, 19, []), (12, .putfield 12, 288, []), (15, .aload_n 0, 0, []), (16, .new 9, 2, []), (19, .dup, 0, []), (20, .invokespecial 11, 19, []), (23, .putfield 16, 289, []), (26, .aload_n 0, 0, []), (27, .new 19, 0, []), (30, .dup, 0, []), (31, .aload_n 0, 0, [])],
  [(32, .getfield 12, 288, []), (35, .invokespecial 21, 0, []), (38, .putfield 24, 290, []), (41, .aload_n 0, 0, []), (42, .new 28, 8, []), (45, .dup, 0, []), (46, .aload_n 0, 0, []), (47, .getfield 12, 288, []), (50, .invokespecial 30, 91, []), (53, .putfield 31, 291, []), (56, .aload_n 0, 0, []), (57, .new 35, 3, []), (60, .dup, 0, []), (61, .aload_n 0, 0, []), (62, .getfield 12, 288, [])],
  [(65, .getfield 37, 69, []), (68, .invokespecial 41, 45, []), (71, .putfield 44, 292, []), (74, .aload_n 0, 0, []), (75, .new 48, 7, []), (78, .dup, 0, []), (79, .invokespecial 50, 86, []), (82, .putfield 51, 293, []), (85, .aload_n 0, 0, []), (86, .iconst 4, 4, []), (87, .anewarray 55, 3, []), (90, .putfield 57, 294, []), (93, .iconst 0, 0, []), (94, .istore_n 1, 0, []), (95, .iload_n 1, 0, [])],
  [(96, .aload_n 0, 0, []), (97, .getfield 57, 294, []), (100, .arraylength, 0, []), (101, .if_icmp .ge 22, 123, []), (104, .aload_n 0, 0, []), (105, .getfield 57, 294, []), (108, .iload_n 1, 0, []), (109, .new 55, 6, []), (112, .dup, 0, []), (113, .invokespecial 61, 83, []), (116, .aastore, 0, []), (117, .iinc 1 1, 0, []), (120, .goto (-25), 95, []), (123, .aload_n 0, 0, []), (124, .iconst 5, 5, []), (125, .newarray .int, 0, []), (127, .putfield 62, 295, [])],
  [(130, .return_, 0, [])]] -- X9_init
def pC96 : List (List (Nat × pE)) := [[(0, .iload_n 1, 0, []), (1, .invokestatic 66, 140, []), (4, .ifCond .eq 32, 36, []), (7, .aload_n 0, 0, []), (8, .iload_n 2, 0, []), (9, .invokevirtual 70, 139, []), (12, .ifCond .eq 24, 36, []), (15, .iload_n 3, 0, []), (16, .iconst 1, 1, []), (17, .bipush 30, 30, []), (19, .invokestatic 73, 146, []), (22, .ifCond .eq 14, 36, []), (25, .iload 4, 0, []), (27, .iconst 0, 0, []), (28, .bipush 63, 63, []), (30, .invokestatic 73, 146, [])],
  [(33, .ifCond .ne 10, 43, []), (36, .aload_n 0, 0, []), (37, .ldc 77, (-1000000001), []), (39, .invokevirtual 78, 136, []), (42, .ireturn, 0, []), (43, .aload_n 0, 0, []), (44, .getfield 12, 288, []), (47, .getfield 82, 71, []), (50, .bipush 7, 7, []), (52, .if_icmp .lt 10, 62, []), (55, .aload_n 0, 0, []), (56, .ldc 86, (-1000000004), []), (58, .invokevirtual 78, 136, []), (61, .ireturn, 0, []), (62, .aload_n 0, 0, []), (63, .getfield 12, 288, [])],
  [(66, .iload_n 1, 0, []), (67, .iload_n 2, 0, []), (68, .iload_n 3, 0, []), (69, .iload 4, 0, []), (71, .invokevirtual 87, 23, []), (74, .ireturn, 0, [])]] -- X9_scene
def pC97 : List (List (Nat × pE)) := [[(0, .aload_n 0, 0, []), (1, .iload_n 1, 0, []), (2, .invokevirtual 91, 137, []), (5, .ifCond .eq 12, 17, []), (8, .iload_n 2, 0, []), (9, .iconst 0, 0, []), (10, .iconst 4, 4, []), (11, .invokestatic 73, 146, []), (14, .ifCond .ne 10, 24, []), (17, .aload_n 0, 0, []), (18, .ldc 77, (-1000000001), []), (20, .invokevirtual 78, 136, []), (23, .ireturn, 0, []), (24, .iload_n 2, 0, []), (25, .iconst 4, 4, []), (26, .if_icmp .eq 29, 55, []), (29, .iload_n 3, 0, []), (30, .iconst 0, 0, []), (31, .iconst 5, 5, [])],
  [(32, .invokestatic 73, 146, []), (35, .ifCond .eq 13, 48, []), (38, .iload 4, 0, []), (40, .iconst 0, 0, []), (41, .iconst 5, 5, []), (42, .invokestatic 73, 146, []), (45, .ifCond .ne 10, 55, []), (48, .aload_n 0, 0, []), (49, .ldc 77, (-1000000001), []), (51, .invokevirtual 78, 136, []), (54, .ireturn, 0, []), (55, .aload_n 0, 0, []), (56, .getfield 12, 288, []), (59, .iload_n 1, 0, []), (60, .invokevirtual 94, 20, []), (63, .iload_n 2, 0, [])],
  [(64, .iload_n 3, 0, []), (65, .iload 4, 0, []), (67, .invokevirtual 98, 74, []), (70, .iconst 1, 1, []), (71, .ireturn, 0, [])]] -- X9_prop
def pC98 : List (List (Nat × pE)) := [[(0, .aload_n 0, 0, []), (1, .iload_n 1, 0, []), (2, .invokevirtual 91, 137, []), (5, .ifCond .eq 13, 18, []), (8, .iload_n 2, 0, []), (9, .iconst 0, 0, []), (10, .bipush 10, 10, []), (12, .invokestatic 73, 146, []), (15, .ifCond .ne 10, 25, []), (18, .aload_n 0, 0, []), (19, .ldc 77, (-1000000001), []), (21, .invokevirtual 78, 136, []), (24, .ireturn, 0, []), (25, .aload_n 0, 0, []), (26, .getfield 12, 288, []), (29, .invokevirtual 104, 26, [])],
  [(32, .istore_n 3, 0, []), (33, .iload_n 2, 0, []), (34, .tableswitch 62 7 10 #[30, 62, 36, 49], 96, [(7, 64), (8, 96), (9, 70), (10, 83)])],
  [(64, .iload_n 3, 0, []), (65, .iload_n 1, 0, []), (66, .ishr, 0, []), (67, .iconst 1, 1, []), (68, .iand, 0, []), (69, .ireturn, 0, []), (70, .aload_n 0, 0, []), (71, .getfield 12, 288, []), (74, .iload_n 1, 0, []), (75, .iload_n 3, 0, []), (76, .invokevirtual 108, 28, []), (79, .invokestatic 112, 149, []), (82, .ireturn, 0, []), (83, .aload_n 0, 0, []), (84, .getfield 12, 288, []), (87, .iload_n 1, 0, []), (88, .iload_n 3, 0, []), (89, .invokevirtual 115, 29, []), (92, .invokestatic 119, 148, []), (95, .ireturn, 0, [])],
  [(96, .aload_n 0, 0, []), (97, .getfield 12, 288, []), (100, .iload_n 1, 0, []), (101, .invokevirtual 94, 20, []), (104, .iload_n 2, 0, []), (105, .invokevirtual 123, 75, []), (108, .ireturn, 0, [])]] -- X9_ofScene
def pC99 : List (List (Nat × pE)) := [[(0, .aload_n 0, 0, []), (1, .iload_n 1, 0, []), (2, .invokevirtual 91, 137, []), (5, .ifCond .eq 10, 15, []), (8, .iload_n 2, 0, []), (9, .invokestatic 66, 140, []), (12, .ifCond .ne 10, 22, []), (15, .aload_n 0, 0, []), (16, .ldc 77, (-1000000001), []), (18, .invokevirtual 78, 136, []), (21, .ireturn, 0, []), (22, .aload_n 0, 0, []), (23, .getfield 12, 288, []), (26, .iload_n 1, 0, []), (27, .invokevirtual 94, 20, []), (30, .astore_n 3, 0, []), (31, .aload_n 3, 0, [])],
  [(32, .getfield 126, 161, []), (35, .istore 4, 0, []), (37, .aload_n 3, 0, []), (38, .iload_n 2, 0, []), (39, .bipush 10, 10, []), (41, .idiv, 0, []), (42, .putfield 126, 161, []), (45, .aload_n 3, 0, []), (46, .iload_n 2, 0, []), (47, .bipush 10, 10, []), (49, .irem, 0, []), (50, .putfield 129, 162, []), (53, .iload 4, 0, []), (55, .ireturn, 0, [])]] -- X9_become
def pC100 : List (List (Nat × pE)) := [[(0, .aload_n 0, 0, []), (1, .iload_n 1, 0, []), (2, .invokevirtual 91, 137, []), (5, .ifCond .eq 13, 18, []), (8, .iload_n 2, 0, []), (9, .iconst 0, 0, []), (10, .bipush 6, 6, []), (12, .invokestatic 73, 146, []), (15, .ifCond .ne 10, 25, []), (18, .aload_n 0, 0, []), (19, .ldc 77, (-1000000001), []), (21, .invokevirtual 78, 136, []), (24, .ireturn, 0, []), (25, .aload_n 0, 0, []), (26, .getfield 12, 288, []), (29, .iload_n 1, 0, []), (30, .invokevirtual 94, 20, [])],
  [(33, .getfield 126, 161, []), (36, .iload_n 2, 0, []), (37, .invokestatic 132, 151, []), (40, .ifCond .ne 10, 50, []), (43, .aload_n 0, 0, []), (44, .ldc 135, (-1000000005), []), (46, .invokevirtual 78, 136, []), (49, .ireturn, 0, []), (50, .aload_n 0, 0, []), (51, .getfield 12, 288, []), (54, .iload_n 1, 0, []), (55, .invokevirtual 94, 20, []), (58, .getfield 129, 162, []), (61, .ireturn, 0, [])]] -- X9_as
def pC101 : List (List (Nat × pE)) := [[(0, .aload_n 0, 0, []), (1, .iload_n 1, 0, []), (2, .invokevirtual 91, 137, []), (5, .ifCond .eq 11, 16, []), (8, .iload_n 2, 0, []), (9, .iload_n 3, 0, []), (10, .invokestatic 136, 76, []), (13, .ifCond .ne 10, 23, []), (16, .aload_n 0, 0, []), (17, .ldc 77, (-1000000001), []), (19, .invokevirtual 78, 136, []), (22, .ireturn, 0, []), (23, .aload_n 0, 0, []), (24, .getfield 12, 288, []), (27, .iload_n 1, 0, []), (28, .invokevirtual 94, 20, []), (31, .iload_n 2, 0, [])],
  [(32, .iload_n 3, 0, []), (33, .invokevirtual 139, 77, []), (36, .ireturn, 0, [])]] -- X9_set
def pC102 : List (List (Nat × pE)) := [[(0, .aload_n 0, 0, []), (1, .getfield 12, 288, []), (4, .invokevirtual 104, 26, []), (7, .ireturn, 0, [])]] -- X9_comes
def pC103 : List (List (Nat × pE)) := [[(0, .aload_n 0, 0, []), (1, .iload_n 1, 0, []), (2, .invokevirtual 142, 138, []), (5, .ifCond .ne 10, 15, []), (8, .aload_n 0, 0, []), (9, .ldc 77, (-1000000001), []), (11, .invokevirtual 78, 136, []), (14, .ireturn, 0, []), (15, .aload_n 0, 0, []), (16, .getfield 12, 288, []), (19, .getfield 145, 68, []), (22, .iload_n 1, 0, []), (23, .invokevirtual 148, 57, []), (26, .ireturn, 0, [])]] -- X9_given
def pC104 : List (List (Nat × pE)) := [[(0, .aload_n 0, 0, []), (1, .iload_n 1, 0, []), (2, .invokevirtual 91, 137, []), (5, .ifCond .eq 11, 16, []), (8, .aload_n 0, 0, []), (9, .iload_n 2, 0, []), (10, .invokevirtual 142, 138, []), (13, .ifCond .ne 10, 23, []), (16, .aload_n 0, 0, []), (17, .ldc 77, (-1000000001), []), (19, .invokevirtual 78, 136, []), (22, .ireturn, 0, []), (23, .aload_n 0, 0, []), (24, .getfield 12, 288, []), (27, .getfield 145, 68, []), (30, .iload_n 1, 0, []), (31, .invokevirtual 152, 63, [])],
  [(34, .istore_n 3, 0, []), (35, .aload_n 0, 0, []), (36, .getfield 12, 288, []), (39, .getfield 145, 68, []), (42, .iload_n 3, 0, []), (43, .invokevirtual 155, 62, []), (46, .aload_n 0, 0, []), (47, .getfield 12, 288, []), (50, .getfield 145, 68, []), (53, .iload_n 2, 0, []), (54, .iload_n 1, 0, []), (55, .invokevirtual 159, 61, []), (58, .iload_n 3, 0, []), (59, .ireturn, 0, [])]] -- X9_place
def pC105 : List (List (Nat × pE)) := [[(0, .iload_n 1, 0, []), (1, .iconst 0, 0, []), (2, .iconst 1, 1, []), (3, .invokestatic 73, 146, []), (6, .ifCond .ne 10, 16, []), (9, .aload_n 0, 0, []), (10, .ldc 77, (-1000000001), []), (12, .invokevirtual 78, 136, []), (15, .ireturn, 0, []), (16, .aload_n 0, 0, []), (17, .getfield 12, 288, []), (20, .getfield 163, 72, []), (23, .istore_n 2, 0, []), (24, .aload_n 0, 0, []), (25, .getfield 12, 288, []), (28, .iload_n 1, 0, []), (29, .putfield 163, 72, [])],
  [(32, .iload_n 2, 0, []), (33, .ireturn, 0, [])]] -- X9_back
def pC106 : List (List (Nat × pE)) := [[(0, .aload_n 0, 0, []), (1, .iload_n 1, 0, []), (2, .invokevirtual 142, 138, []), (5, .ifCond .ne 10, 15, []), (8, .aload_n 0, 0, []), (9, .ldc 77, (-1000000001), []), (11, .invokevirtual 78, 136, []), (14, .ireturn, 0, []), (15, .aload_n 0, 0, []), (16, .getfield 12, 288, []), (19, .iload_n 1, 0, []), (20, .invokevirtual 166, 32, []), (23, .ireturn, 0, [])]] -- X9_guess
def pC107 : List (List (Nat × pE)) := [[(0, .aload_n 0, 0, []), (1, .iload_n 1, 0, []), (2, .invokevirtual 91, 137, []), (5, .ifCond .ne 10, 15, []), (8, .aload_n 0, 0, []), (9, .ldc 77, (-1000000001), []), (11, .invokevirtual 78, 136, []), (14, .ireturn, 0, []), (15, .aload_n 0, 0, []), (16, .getfield 12, 288, []), (19, .iload_n 1, 0, []), (20, .invokevirtual 169, 36, []), (23, .ireturn, 0, [])]] -- X9_understood
def pC108 : List (List (Nat × pE)) := [[(0, .aload_n 0, 0, []), (1, .getfield 12, 288, []), (4, .invokevirtual 172, 30, []), (7, .istore_n 1, 0, []), (8, .iload_n 1, 0, []), (9, .ifCond .ge 12, 21, []), (12, .aload_n 0, 0, []), (13, .ldc 175, (-1000000002), []), (15, .invokevirtual 78, 136, []), (18, .goto 4, 22, []), (21, .iload_n 1, 0, []), (22, .ireturn, 0, [])]] -- X9_flaw
def pC109 : List (List (Nat × pE)) := [[(0, .aload_n 0, 0, []), (1, .getfield 12, 288, []), (4, .getfield 145, 68, []), (7, .invokevirtual 176, 65, []), (10, .aload_n 0, 0, []), (11, .getfield 12, 288, []), (14, .getfield 82, 71, []), (17, .ireturn, 0, [])]] -- X9_turn
def pC110 : List (List (Nat × pE)) := [[(0, .iload_n 3, 0, []), (1, .iconst 1, 1, []), (2, .bipush 8, 8, []), (4, .invokestatic 73, 146, []), (7, .ifCond .ne 10, 17, []), (10, .aload_n 0, 0, []), (11, .ldc 77, (-1000000001), []), (13, .invokevirtual 78, 136, []), (16, .ireturn, 0, []), (17, .aload_n 0, 0, []), (18, .getfield 12, 288, []), (21, .getfield 37, 69, []), (24, .getfield 179, 129, []), (27, .iload_n 3, 0, []), (28, .iadd, 0, []), (29, .bipush 50, 50, []), (31, .if_icmp .le 10, 41, [])],
  [(34, .aload_n 0, 0, []), (35, .ldc 86, (-1000000004), []), (37, .invokevirtual 78, 136, []), (40, .ireturn, 0, []), (41, .iconst 0, 0, []), (42, .istore 4, 0, []), (44, .iload 4, 0, []), (46, .iload_n 3, 0, []), (47, .if_icmp .ge 31, 78, []), (50, .aload_n 0, 0, []), (51, .getfield 12, 288, []), (54, .getfield 37, 69, []), (57, .lload_n 1, 0, []), (58, .bipush 8, 8, []), (60, .iload 4, 0, []), (62, .imul, 0, []), (63, .lushr, 0, [])],
  [(64, .ldc2_w 180, 255, []), (67, .land, 0, []), (68, .l2i, 0, []), (69, .invokevirtual 182, 59, []), (72, .iinc 4 1, 0, []), (75, .goto (-31), 44, []), (78, .aload_n 0, 0, []), (79, .getfield 12, 288, []), (82, .getfield 37, 69, []), (85, .getfield 179, 129, []), (88, .ireturn, 0, [])]] -- X9_feed
def pC111 : List (List (Nat × pE)) := [[(0, .iload_n 1, 0, []), (1, .invokestatic 185, 141, []), (4, .ifCond .ne 10, 14, []), (7, .aload_n 0, 0, []), (8, .ldc 77, (-1000000001), []), (10, .invokevirtual 78, 136, []), (13, .ireturn, 0, []), (14, .aload_n 0, 0, []), (15, .getfield 44, 292, []), (18, .iload_n 1, 0, []), (19, .invokevirtual 188, 46, []), (22, .istore_n 2, 0, []), (23, .aload_n 0, 0, []), (24, .getfield 12, 288, []), (27, .getfield 37, 69, []), (30, .invokevirtual 191, 66, [])],
  [(33, .iload_n 2, 0, []), (34, .ifCond .lt 8, 42, []), (37, .bipush (-10), (-10), []), (39, .iload_n 2, 0, []), (40, .isub, 0, []), (41, .ireturn, 0, []), (42, .aload_n 0, 0, []), (43, .getfield 12, 288, []), (46, .iload_n 1, 0, []), (47, .invokevirtual 194, 21, []), (50, .getfield 198, 34, []), (53, .aload_n 0, 0, []), (54, .getfield 44, 292, []), (57, .getfield 203, 99, []), (60, .invokevirtual 204, 69, []), (63, .iconst 1, 1, [])],
  [(64, .ireturn, 0, [])]] -- X9_text
def pC112 : List (List (Nat × pE)) := [[(0, .iload_n 1, 0, []), (1, .invokestatic 185, 141, []), (4, .ifCond .ne 10, 14, []), (7, .aload_n 0, 0, []), (8, .ldc 77, (-1000000001), []), (10, .invokevirtual 78, 136, []), (13, .ireturn, 0, []), (14, .aload_n 0, 0, []), (15, .getfield 12, 288, []), (18, .iload_n 1, 0, []), (19, .invokevirtual 194, 21, []), (22, .iload_n 2, 0, []), (23, .iload_n 3, 0, []), (24, .iload 4, 0, []), (26, .invokevirtual 207, 16, []), (29, .ireturn, 0, [])]] -- X9_law
def pC113 : List (List (Nat × pE)) := [[(0, .iload_n 1, 0, []), (1, .iconst (-1), (-1), []), (2, .bipush 6, 6, []), (4, .invokestatic 73, 146, []), (7, .ifCond .ne 10, 17, []), (10, .aload_n 0, 0, []), (11, .ldc 77, (-1000000001), []), (13, .invokevirtual 78, 136, []), (16, .ireturn, 0, []), (17, .iload_n 1, 0, []), (18, .aload_n 0, 0, []), (19, .getfield 12, 288, []), (22, .getfield 82, 71, []), (25, .if_icmp .lt 10, 35, []), (28, .aload_n 0, 0, []), (29, .ldc 175, (-1000000002), []), (31, .invokevirtual 78, 136, [])],
  [(34, .ireturn, 0, []), (35, .aload_n 0, 0, []), (36, .getfield 24, 290, []), (39, .invokevirtual 211, 6, []), (42, .istore_n 2, 0, []), (43, .iload_n 1, 0, []), (44, .ifCond .ge 7, 51, []), (47, .iload_n 2, 0, []), (48, .goto 14, 62, []), (51, .aload_n 0, 0, []), (52, .getfield 24, 290, []), (55, .getfield 214, 6, []), (58, .iload_n 1, 0, []), (59, .invokevirtual 148, 57, []), (62, .ireturn, 0, [])]] -- X9_least
def pC114 : List (List (Nat × pE)) := [[(0, .iload_n 1, 0, []), (1, .iconst (-1), (-1), []), (2, .bipush 6, 6, []), (4, .invokestatic 73, 146, []), (7, .ifCond .ne 10, 17, []), (10, .aload_n 0, 0, []), (11, .ldc 77, (-1000000001), []), (13, .invokevirtual 78, 136, []), (16, .ireturn, 0, []), (17, .iload_n 1, 0, []), (18, .aload_n 0, 0, []), (19, .getfield 12, 288, []), (22, .getfield 82, 71, []), (25, .if_icmp .lt 10, 35, []), (28, .aload_n 0, 0, []), (29, .ldc 175, (-1000000002), []), (31, .invokevirtual 78, 136, [])],
  [(34, .ireturn, 0, []), (35, .aload_n 0, 0, []), (36, .getfield 24, 290, []), (39, .invokevirtual 217, 10, []), (42, .istore_n 2, 0, []), (43, .iload_n 1, 0, []), (44, .ifCond .ge 7, 51, []), (47, .iload_n 2, 0, []), (48, .goto 14, 62, []), (51, .aload_n 0, 0, []), (52, .getfield 24, 290, []), (55, .getfield 214, 6, []), (58, .iload_n 1, 0, []), (59, .invokevirtual 148, 57, []), (62, .ireturn, 0, [])]] -- X9_fewest
def pC115 : List (List (Nat × pE)) := [[(0, .iload_n 1, 0, []), (1, .iconst 0, 0, []), (2, .sipush 9999, 9999, []), (5, .invokestatic 73, 146, []), (8, .ifCond .ne 10, 18, []), (11, .aload_n 0, 0, []), (12, .ldc 77, (-1000000001), []), (14, .invokevirtual 78, 136, []), (17, .ireturn, 0, []), (18, .aload_n 0, 0, []), (19, .getfield 24, 290, []), (22, .iload_n 1, 0, []), (23, .invokevirtual 220, 8, []), (26, .ireturn, 0, [])]] -- X9_orders
def pC116 : List (List (Nat × pE)) := [[(0, .aload_n 0, 0, []), (1, .iload_n 1, 0, []), (2, .invokevirtual 91, 137, []), (5, .ifCond .eq 21, 26, []), (8, .iload_n 2, 0, []), (9, .iconst 0, 0, []), (10, .iconst 1, 1, []), (11, .invokestatic 73, 146, []), (14, .ifCond .eq 12, 26, []), (17, .iload_n 3, 0, []), (18, .iconst 0, 0, []), (19, .iconst 1, 1, []), (20, .invokestatic 73, 146, []), (23, .ifCond .ne 10, 33, []), (26, .aload_n 0, 0, []), (27, .ldc 77, (-1000000001), []), (29, .invokevirtual 78, 136, [])],
  [(32, .ireturn, 0, []), (33, .aload_n 0, 0, []), (34, .getfield 31, 291, []), (37, .iload_n 1, 0, []), (38, .iload_n 2, 0, []), (39, .invokevirtual 223, 92, []), (42, .istore 4, 0, []), (44, .iload 4, 0, []), (46, .ifCond .ge 10, 56, []), (49, .aload_n 0, 0, []), (50, .ldc 175, (-1000000002), []), (52, .invokevirtual 78, 136, []), (55, .ireturn, 0, []), (56, .iload_n 3, 0, []), (57, .ifCond .ne 11, 68, []), (60, .iload 4, 0, []), (62, .invokestatic 226, 255, [])],
  [(65, .goto 5, 70, []), (68, .iload 4, 0, []), (70, .ireturn, 0, [])]] -- X9_mended
def pC117 : List (List (Nat × pE)) := [[(0, .iload_n 1, 0, []), (1, .iconst 0, 0, []), (2, .aload_n 0, 0, []), (3, .getfield 12, 288, []), (6, .getfield 82, 71, []), (9, .invokestatic 73, 146, []), (12, .ifCond .ne 10, 22, []), (15, .aload_n 0, 0, []), (16, .ldc 77, (-1000000001), []), (18, .invokevirtual 78, 136, []), (21, .ireturn, 0, []), (22, .aload_n 0, 0, []), (23, .getfield 31, 291, []), (26, .invokevirtual 231, 93, []), (29, .aload_n 0, 0, []), (30, .getfield 31, 291, [])],
  [(33, .iload_n 1, 0, []), (34, .invokevirtual 234, 94, []), (37, .ireturn, 0, [])]] -- X9_thought
def pC118 : List (List (Nat × pE)) := [[(0, .aload_n 0, 0, []), (1, .getfield 31, 291, []), (4, .invokevirtual 231, 93, []), (7, .iconst 0, 0, []), (8, .istore_n 1, 0, []), (9, .iload_n 1, 0, []), (10, .aload_n 0, 0, []), (11, .getfield 12, 288, []), (14, .getfield 82, 71, []), (17, .if_icmp .gt 23, 40, []), (20, .aload_n 0, 0, []), (21, .getfield 31, 291, []), (24, .iload_n 1, 0, []), (25, .invokevirtual 234, 94, []), (28, .iconst 1, 1, []), (29, .if_icmp .ne 5, 34, [])],
  [(32, .iload_n 1, 0, []), (33, .ireturn, 0, []), (34, .iinc 1 1, 0, []), (37, .goto (-28), 9, []), (40, .aload_n 0, 0, []), (41, .ldc 175, (-1000000002), []), (43, .invokevirtual 78, 136, []), (46, .ireturn, 0, [])]] -- X9_sure
def pC119 : List (List (Nat × pE)) := [[(0, .aload_n 0, 0, []), (1, .iload_n 1, 0, []), (2, .invokevirtual 91, 137, []), (5, .ifCond .eq 11, 16, []), (8, .aload_n 0, 0, []), (9, .iload_n 2, 0, []), (10, .invokevirtual 70, 139, []), (13, .ifCond .ne 10, 23, []), (16, .aload_n 0, 0, []), (17, .ldc 77, (-1000000001), []), (19, .invokevirtual 78, 136, []), (22, .ireturn, 0, []), (23, .aload_n 0, 0, []), (24, .getfield 12, 288, []), (27, .invokevirtual 237, 24, []), (30, .istore_n 3, 0, []), (31, .iconst 0, 0, [])],
  [(32, .istore 4, 0, []), (34, .iload 4, 0, []), (36, .bipush 7, 7, []), (38, .if_icmp .ge 27, 65, []), (41, .aload_n 0, 0, []), (42, .getfield 12, 288, []), (45, .iload_n 3, 0, []), (46, .iload_n 1, 0, []), (47, .iload 4, 0, []), (49, .invokevirtual 240, 27, []), (52, .iload_n 2, 0, []), (53, .if_icmp .ne 6, 59, []), (56, .iload 4, 0, []), (58, .ireturn, 0, []), (59, .iinc 4 1, 0, []), (62, .goto (-28), 34, [])],
  [(65, .aload_n 0, 0, []), (66, .ldc 175, (-1000000002), []), (68, .invokevirtual 78, 136, []), (71, .ireturn, 0, [])]] -- X9_explained
def pC120 : List (List (Nat × pE)) := [[(0, .aload_n 0, 0, []), (1, .iload_n 1, 0, []), (2, .invokevirtual 243, 145, []), (5, .istore_n 2, 0, []), (6, .iload_n 2, 0, []), (7, .ifCond .eq 9, 16, []), (10, .aload_n 0, 0, []), (11, .iload_n 2, 0, []), (12, .invokevirtual 78, 136, []), (15, .ireturn, 0, []), (16, .aload_n 0, 0, []), (17, .getfield 12, 288, []), (20, .invokevirtual 246, 41, []), (23, .istore_n 3, 0, []), (24, .iconst 0, 0, []), (25, .istore 4, 0, []), (27, .iload 4, 0, []), (29, .iload_n 1, 0, []), (30, .if_icmp .ge 17, 47, [])],
  [(33, .aload_n 0, 0, []), (34, .getfield 12, 288, []), (37, .iload_n 3, 0, []), (38, .invokevirtual 249, 42, []), (41, .iinc 4 1, 0, []), (44, .goto (-17), 27, []), (47, .aload_n 0, 0, []), (48, .getfield 12, 288, []), (51, .getfield 252, 73, []), (54, .ireturn, 0, [])]] -- X9_evenings
def pC121 : List (List (Nat × pE)) := [[(0, .aload_n 0, 0, []), (1, .iload_n 1, 0, []), (2, .invokevirtual 243, 145, []), (5, .istore_n 2, 0, []), (6, .iload_n 2, 0, []), (7, .ifCond .eq 9, 16, []), (10, .aload_n 0, 0, []), (11, .iload_n 2, 0, []), (12, .invokevirtual 78, 136, []), (15, .ireturn, 0, []), (16, .iconst 0, 0, []), (17, .istore_n 3, 0, []), (18, .iload_n 3, 0, []), (19, .iload_n 1, 0, []), (20, .if_icmp .ge 30, 50, []), (23, .aload_n 0, 0, []), (24, .getfield 12, 288, []), (27, .invokevirtual 255, 43, []), (30, .aload_n 0, 0, []), (31, .getfield 12, 288, [])],
  [(34, .aload_n 0, 0, []), (35, .getfield 12, 288, []), (38, .invokevirtual 246, 41, []), (41, .invokevirtual 249, 42, []), (44, .iinc 3 1, 0, []), (47, .goto (-29), 18, []), (50, .aload_n 0, 0, []), (51, .getfield 12, 288, []), (54, .getfield 252, 73, []), (57, .ireturn, 0, [])]] -- X9_loose
def pC122 : List (List (Nat × pE)) := [[(0, .aload_n 0, 0, []), (1, .getfield 12, 288, []), (4, .getfield 258, 75, []), (7, .istore_n 2, 0, []), (8, .aload_n 0, 0, []), (9, .getfield 12, 288, []), (12, .iload_n 1, 0, []), (13, .putfield 258, 75, []), (16, .iload_n 2, 0, []), (17, .ireturn, 0, [])]] -- X9_seed
def pC123 : List (List (Nat × pE)) := [[(0, .aload_n 0, 0, []), (1, .iload_n 1, 0, []), (2, .invokevirtual 91, 137, []), (5, .ifCond .eq 12, 17, []), (8, .iload_n 2, 0, []), (9, .iconst 0, 0, []), (10, .iconst 3, 3, []), (11, .invokestatic 73, 146, []), (14, .ifCond .ne 10, 24, []), (17, .aload_n 0, 0, []), (18, .ldc 77, (-1000000001), []), (20, .invokevirtual 78, 136, []), (23, .ireturn, 0, []), (24, .aload_n 0, 0, []), (25, .getfield 51, 293, []), (28, .getfield 261, 224, []), (31, .invokevirtual 191, 66, [])],
  [(34, .aload_n 0, 0, []), (35, .getfield 51, 293, []), (38, .aload_n 0, 0, []), (39, .getfield 12, 288, []), (42, .iload_n 1, 0, []), (43, .invokevirtual 94, 20, []), (46, .aload_n 0, 0, []), (47, .getfield 12, 288, []), (50, .iload_n 1, 0, []), (51, .invokevirtual 94, 20, []), (54, .getfield 126, 161, []), (57, .iload_n 2, 0, []), (58, .iload_n 3, 0, []), (59, .iconst 0, 0, []), (60, .invokevirtual 264, 89, []), (63, .ireturn, 0, [])]] -- X9_voice
def pC124 : List (List (Nat × pE)) := [[(0, .iload_n 1, 0, []), (1, .iconst 0, 0, []), (2, .aload_n 0, 0, []), (3, .getfield 51, 293, []), (6, .getfield 261, 224, []), (9, .getfield 179, 129, []), (12, .iconst 1, 1, []), (13, .isub, 0, []), (14, .invokestatic 73, 146, []), (17, .ifCond .ne 10, 27, []), (20, .aload_n 0, 0, []), (21, .ldc 175, (-1000000002), []), (23, .invokevirtual 78, 136, []), (26, .ireturn, 0, []), (27, .aload_n 0, 0, []), (28, .getfield 51, 293, []), (31, .getfield 261, 224, [])],
  [(34, .iload_n 1, 0, []), (35, .invokevirtual 148, 57, []), (38, .ireturn, 0, [])]] -- X9_trace
def pC125 : List (List (Nat × pE)) := [[(0, .iload_n 1, 0, []), (1, .invokestatic 268, 142, []), (4, .ifCond .eq 25, 29, []), (7, .iload_n 2, 0, []), (8, .ifCond .eq 28, 36, []), (11, .iload_n 2, 0, []), (12, .bipush 8, 8, []), (14, .if_icmp .eq 22, 36, []), (17, .iload_n 2, 0, []), (18, .bipush 16, 16, []), (20, .if_icmp .eq 16, 36, []), (23, .iload_n 2, 0, []), (24, .bipush 32, 32, []), (26, .if_icmp .eq 10, 36, []), (29, .aload_n 0, 0, []), (30, .ldc 77, (-1000000001), [])],
  [(32, .invokevirtual 78, 136, []), (35, .ireturn, 0, []), (36, .iload_n 2, 0, []), (37, .ifCond .eq 15, 52, []), (40, .iload_n 3, 0, []), (41, .ifCond .ge 11, 52, []), (44, .aload_n 0, 0, []), (45, .ldc_w 271, (-1000000003), []), (48, .invokevirtual 78, 136, []), (51, .ireturn, 0, []), (52, .iload_n 2, 0, []), (53, .ifCond .eq 16, 69, []), (56, .iload_n 3, 0, []), (57, .bipush 40, 40, []), (59, .if_icmp .le 10, 69, []), (62, .aload_n 0, 0, []), (63, .ldc 77, (-1000000001), [])],
  [(65, .invokevirtual 78, 136, []), (68, .ireturn, 0, []), (69, .aload_n 0, 0, []), (70, .iload_n 1, 0, []), (71, .invokevirtual 272, 143, []), (74, .iload_n 2, 0, []), (75, .iload_n 3, 0, []), (76, .invokevirtual 276, 84, []), (79, .iconst 1, 1, []), (80, .ireturn, 0, [])]] -- X9_sheet
def pC126 : List (List (Nat × pE)) := [[(0, .aload_n 0, 0, []), (1, .iload_n 1, 0, []), (2, .invokevirtual 279, 144, []), (5, .istore 4, 0, []), (7, .iload 4, 0, []), (9, .ifCond .eq 10, 19, []), (12, .aload_n 0, 0, []), (13, .iload 4, 0, []), (15, .invokevirtual 78, 136, []), (18, .ireturn, 0, []), (19, .iload_n 2, 0, []), (20, .iconst 0, 0, []), (21, .aload_n 0, 0, []), (22, .iload_n 1, 0, []), (23, .invokevirtual 272, 143, []), (26, .getfield 282, 192, []), (29, .getfield 179, 129, [])],
  [(32, .iconst 1, 1, []), (33, .isub, 0, []), (34, .invokestatic 73, 146, []), (37, .ifCond .ne 10, 47, []), (40, .aload_n 0, 0, []), (41, .ldc 77, (-1000000001), []), (43, .invokevirtual 78, 136, []), (46, .ireturn, 0, []), (47, .aload_n 0, 0, []), (48, .iload_n 1, 0, []), (49, .invokevirtual 272, 143, []), (52, .iload_n 2, 0, []), (53, .iload_n 3, 0, []), (54, .invokevirtual 285, 85, []), (57, .iconst 1, 1, []), (58, .ireturn, 0, [])]] -- X9_put
def pC127 : List (List (Nat × pE)) := [[(0, .iload_n 1, 0, []), (1, .invokestatic 268, 142, []), (4, .ifCond .eq 10, 14, []), (7, .iload_n 3, 0, []), (8, .invokestatic 268, 142, []), (11, .ifCond .ne 10, 21, []), (14, .aload_n 0, 0, []), (15, .ldc 77, (-1000000001), []), (17, .invokevirtual 78, 136, []), (20, .ireturn, 0, []), (21, .aload_n 0, 0, []), (22, .iload_n 1, 0, []), (23, .invokevirtual 272, 143, []), (26, .astore 6, 0, []), (28, .aload_n 0, 0, []), (29, .iload_n 3, 0, []), (30, .invokevirtual 272, 143, [])],
  [(33, .astore 7, 0, []), (35, .aload 6, 0, []), (37, .getfield 288, 193, []), (40, .ifCond .eq 11, 51, []), (43, .aload 7, 0, []), (45, .getfield 288, 193, []), (48, .ifCond .ne 10, 58, []), (51, .aload_n 0, 0, []), (52, .ldc 175, (-1000000002), []), (54, .invokevirtual 78, 136, []), (57, .ireturn, 0, []), (58, .aload 6, 0, []), (60, .getfield 288, 193, []), (63, .aload 7, 0, [])],
  [(65, .getfield 288, 193, []), (68, .if_icmp .eq 10, 78, []), (71, .aload_n 0, 0, []), (72, .ldc 135, (-1000000005), []), (74, .invokevirtual 78, 136, []), (77, .ireturn, 0, []), (78, .aload 6, 0, []), (80, .getfield 282, 192, []), (83, .iload_n 2, 0, []), (84, .iload 5, 0, []), (86, .invokevirtual 291, 70, []), (89, .ifCond .eq 18, 107, []), (92, .aload 7, 0, []), (94, .getfield 282, 192, [])],
  [(97, .iload 4, 0, []), (99, .iload 5, 0, []), (101, .invokevirtual 291, 70, []), (104, .ifCond .ne 10, 114, []), (107, .aload_n 0, 0, []), (108, .ldc 77, (-1000000001), []), (110, .invokevirtual 78, 136, []), (113, .ireturn, 0, []), (114, .aload 7, 0, []), (116, .getfield 282, 192, []), (119, .iload 4, 0, []), (121, .aload 6, 0, []), (123, .getfield 282, 192, []), (126, .iload_n 2, 0, []), (127, .iload 5, 0, [])],
  [(129, .invokevirtual 294, 71, []), (132, .iload 5, 0, []), (134, .ireturn, 0, [])]] -- X9_move
def pC128 : List (List (Nat × pE)) := [[(0, .aload_n 0, 0, []), (1, .iload_n 1, 0, []), (2, .invokevirtual 279, 144, []), (5, .istore_n 2, 0, []), (6, .iload_n 2, 0, []), (7, .ifCond .eq 9, 16, []), (10, .aload_n 0, 0, []), (11, .iload_n 2, 0, []), (12, .invokevirtual 78, 136, []), (15, .ireturn, 0, []), (16, .aload_n 0, 0, []), (17, .getfield 12, 288, []), (20, .aload_n 0, 0, []), (21, .iload_n 1, 0, []), (22, .invokevirtual 272, 143, []), (25, .getfield 282, 192, []), (28, .invokevirtual 298, 40, []), (31, .ifCond .ne 11, 42, [])],
  [(34, .aload_n 0, 0, []), (35, .ldc_w 271, (-1000000003), []), (38, .invokevirtual 78, 136, []), (41, .ireturn, 0, []), (42, .aload_n 0, 0, []), (43, .getfield 12, 288, []), (46, .getfield 145, 68, []), (49, .aload_n 0, 0, []), (50, .iload_n 1, 0, []), (51, .invokevirtual 272, 143, []), (54, .getfield 282, 192, []), (57, .invokevirtual 204, 69, []), (60, .aload_n 0, 0, []), (61, .getfield 12, 288, [])],
  [(64, .getfield 82, 71, []), (67, .ireturn, 0, [])]] -- X9_order
def pC129 : List (List (Nat × pE)) := [[(0, .aload_n 0, 0, []), (1, .iload_n 1, 0, []), (2, .invokevirtual 279, 144, []), (5, .istore_n 2, 0, []), (6, .iload_n 2, 0, []), (7, .ifCond .eq 9, 16, []), (10, .aload_n 0, 0, []), (11, .iload_n 2, 0, []), (12, .invokevirtual 78, 136, []), (15, .ireturn, 0, []), (16, .aload_n 0, 0, []), (17, .iload_n 1, 0, []), (18, .invokevirtual 272, 143, []), (21, .getfield 282, 192, []), (24, .astore_n 3, 0, []), (25, .aload_n 0, 0, []), (26, .getfield 12, 288, []), (29, .invokevirtual 104, 26, [])],
  [(32, .istore 4, 0, []), (34, .aload_n 3, 0, []), (35, .getfield 179, 129, []), (38, .aload_n 0, 0, []), (39, .getfield 12, 288, []), (42, .getfield 82, 71, []), (45, .invokestatic 302, (-4), []), (48, .istore 5, 0, []), (50, .iconst 0, 0, []), (51, .istore 6, 0, []), (53, .iload 6, 0, []), (55, .iload 5, 0, []), (57, .if_icmp .ge 28, 85, []), (60, .aload_n 3, 0, []), (61, .iload 6, 0, []), (63, .invokevirtual 148, 57, [])],
  [(66, .iload 4, 0, []), (68, .iload 6, 0, []), (70, .ishr, 0, []), (71, .iconst 1, 1, []), (72, .iand, 0, []), (73, .if_icmp .eq 6, 79, []), (76, .iload 6, 0, []), (78, .ireturn, 0, []), (79, .iinc 6 1, 0, []), (82, .goto (-29), 53, []), (85, .aload_n 3, 0, []), (86, .getfield 179, 129, []), (89, .aload_n 0, 0, []), (90, .getfield 12, 288, []), (93, .getfield 82, 71, [])],
  [(96, .if_icmp .ne 7, 103, []), (99, .iconst (-1), (-1), []), (100, .goto 5, 105, []), (103, .iload 5, 0, []), (105, .ireturn, 0, [])]] -- X9_judge
def pC130 : List (List (Nat × pE)) := [[(0, .aload_n 0, 0, []), (1, .getfield 16, 289, []), (4, .aload_n 0, 0, []), (5, .getfield 12, 288, []), (8, .invokevirtual 307, 44, []), (11, .aload_n 0, 0, []), (12, .dup, 0, []), (13, .getfield 309, 296, []), (16, .iconst 1, 1, []), (17, .iadd, 0, []), (18, .putfield 309, 296, []), (21, .aload_n 0, 0, []), (22, .getfield 309, 296, []), (25, .ireturn, 0, [])]] -- X9_image
def pC131 : List (List (Nat × pE)) := [[(0, .aload_n 0, 0, []), (1, .getfield 309, 296, []), (4, .ifCond .ne 10, 14, []), (7, .aload_n 0, 0, []), (8, .ldc 175, (-1000000002), []), (10, .invokevirtual 78, 136, []), (13, .ireturn, 0, []), (14, .aload_n 0, 0, []), (15, .getfield 12, 288, []), (18, .aload_n 0, 0, []), (19, .getfield 16, 289, []), (22, .invokevirtual 307, 44, []), (25, .aload_n 0, 0, []), (26, .getfield 12, 288, []), (29, .getfield 312, 74, [])],
  [(32, .ireturn, 0, [])]] -- X9_restore
def pC132 : List (List (Nat × pE)) := [[(0, .aload_n 0, 0, []), (1, .getfield 12, 288, []), (4, .getfield 315, 70, []), (7, .getfield 179, 129, []), (10, .bipush 20, 20, []), (12, .if_icmp .lt 10, 22, []), (15, .aload_n 0, 0, []), (16, .ldc 86, (-1000000004), []), (18, .invokevirtual 78, 136, []), (21, .ireturn, 0, []), (22, .aload_n 0, 0, []), (23, .getfield 12, 288, []), (26, .getfield 315, 70, []), (29, .iload_n 1, 0, []), (30, .invokevirtual 182, 59, [])],
  [(33, .aload_n 0, 0, []), (34, .getfield 12, 288, []), (37, .getfield 315, 70, []), (40, .getfield 179, 129, []), (43, .ireturn, 0, [])]] -- X9_tell
def pC133 : List (List (Nat × pE)) := [[(0, .aload_n 0, 0, []), (1, .getfield 12, 288, []), (4, .invokevirtual 318, 35, []), (7, .istore_n 1, 0, []), (8, .aload_n 0, 0, []), (9, .getfield 12, 288, []), (12, .getfield 315, 70, []), (15, .invokevirtual 191, 66, []), (18, .iload_n 1, 0, []), (19, .iconst 1, 1, []), (20, .iadd, 0, []), (21, .ireturn, 0, [])]] -- X9_check
def pC134 : List (List (Nat × pE)) := [[(0, .iload_n 1, 0, []), (1, .tableswitch 168 0 11 #[63, 71, 79, 87, 95, 103, 111, 119, 127, 138, 149, 160], 169, [(0, 64), (1, 72), (2, 80), (3, 88), (4, 96), (5, 104), (6, 112), (7, 120), (8, 128), (9, 139), (10, 150), (11, 161)])],
  [],
  [(64, .aload_n 0, 0, []), (65, .getfield 12, 288, []), (68, .getfield 82, 71, []), (71, .ireturn, 0, []), (72, .aload_n 0, 0, []), (73, .getfield 12, 288, []), (76, .invokevirtual 321, 34, []), (79, .ireturn, 0, []), (80, .aload_n 0, 0, []), (81, .getfield 12, 288, []), (84, .invokevirtual 324, 37, []), (87, .ireturn, 0, []), (88, .aload_n 0, 0, []), (89, .getfield 12, 288, []), (92, .invokevirtual 327, 38, []), (95, .ireturn, 0, [])],
  [(96, .aload_n 0, 0, []), (97, .getfield 12, 288, []), (100, .getfield 163, 72, []), (103, .ireturn, 0, []), (104, .aload_n 0, 0, []), (105, .getfield 12, 288, []), (108, .getfield 252, 73, []), (111, .ireturn, 0, []), (112, .aload_n 0, 0, []), (113, .getfield 12, 288, []), (116, .getfield 312, 74, []), (119, .ireturn, 0, []), (120, .aload_n 0, 0, []), (121, .getfield 12, 288, []), (124, .invokevirtual 330, 39, []), (127, .ireturn, 0, [])],
  [(128, .aload_n 0, 0, []), (129, .getfield 12, 288, []), (132, .getfield 37, 69, []), (135, .getfield 179, 129, []), (138, .ireturn, 0, []), (139, .aload_n 0, 0, []), (140, .getfield 12, 288, []), (143, .getfield 315, 70, []), (146, .getfield 179, 129, []), (149, .ireturn, 0, []), (150, .aload_n 0, 0, []), (151, .getfield 51, 293, []), (154, .getfield 261, 224, []), (157, .getfield 179, 129, [])],
  [(160, .ireturn, 0, []), (161, .aload_n 0, 0, []), (162, .getfield 12, 288, []), (165, .getfield 258, 75, []), (168, .ireturn, 0, []), (169, .aload_n 0, 0, []), (170, .ldc 77, (-1000000001), []), (172, .invokevirtual 78, 136, []), (175, .ireturn, 0, [])]] -- X9_count
def pC135 : List (List (Nat × pE)) := [[(0, .iload_n 1, 0, []), (1, .iconst 1, 1, []), (2, .iconst 5, 5, []), (3, .invokestatic 73, 146, []), (6, .ifCond .ne 10, 16, []), (9, .aload_n 0, 0, []), (10, .ldc 77, (-1000000001), []), (12, .invokevirtual 78, 136, []), (15, .ireturn, 0, []), (16, .aload_n 0, 0, []), (17, .getfield 62, 295, []), (20, .iload_n 1, 0, []), (21, .iconst 1, 1, []), (22, .isub, 0, []), (23, .iaload, 0, []), (24, .ireturn, 0, [])]] -- X9_told
def pC136 : List (List (Nat × pE)) := [[(0, .ldc_w 333, (-1000000000), []), (3, .iload_n 1, 0, []), (4, .isub, 0, []), (5, .istore_n 2, 0, []), (6, .iload_n 2, 0, []), (7, .iconst 1, 1, []), (8, .iconst 5, 5, []), (9, .invokestatic 73, 146, []), (12, .ifCond .eq 15, 27, []), (15, .aload_n 0, 0, []), (16, .getfield 62, 295, []), (19, .iload_n 2, 0, []), (20, .iconst 1, 1, []), (21, .isub, 0, []), (22, .dup2, 0, []), (23, .iaload, 0, []), (24, .iconst 1, 1, []), (25, .iadd, 0, []), (26, .iastore, 0, []), (27, .iload_n 1, 0, []), (28, .ireturn, 0, [])]] -- X9_wrong
def pC137 : List (List (Nat × pE)) := [[(0, .iload_n 1, 0, []), (1, .iconst 0, 0, []), (2, .aload_n 0, 0, []), (3, .getfield 12, 288, []), (6, .getfield 82, 71, []), (9, .iconst 1, 1, []), (10, .isub, 0, []), (11, .invokestatic 73, 146, []), (14, .ireturn, 0, [])]] -- X9_stands
def pC138 : List (List (Nat × pE)) := [[(0, .iload_n 1, 0, []), (1, .iconst 0, 0, []), (2, .aload_n 0, 0, []), (3, .getfield 12, 288, []), (6, .getfield 82, 71, []), (9, .iconst 1, 1, []), (10, .isub, 0, []), (11, .invokestatic 73, 146, []), (14, .ireturn, 0, [])]] -- X9_isPlace
def pC139 : List (List (Nat × pE)) := [[(0, .iload_n 1, 0, []), (1, .iconst 0, 0, []), (2, .aload_n 0, 0, []), (3, .getfield 12, 288, []), (6, .invokevirtual 334, 22, []), (9, .invokestatic 73, 146, []), (12, .ireturn, 0, [])]] -- X9_isSet
def pC140 : List (List (Nat × pE)) := [[(0, .iload_n 0, 0, []), (1, .iconst 0, 0, []), (2, .bipush 69, 69, []), (4, .invokestatic 73, 146, []), (7, .ireturn, 0, [])]] -- X9_isKindAndM
def pC141 : List (List (Nat × pE)) := [[(0, .iload_n 0, 0, []), (1, .iconst 0, 0, []), (2, .iconst 1, 1, []), (3, .invokestatic 73, 146, []), (6, .ireturn, 0, [])]] -- X9_isUse
def pC142 : List (List (Nat × pE)) := [[(0, .iload_n 0, 0, []), (1, .iconst 0, 0, []), (2, .iconst 3, 3, []), (3, .invokestatic 73, 146, []), (6, .ireturn, 0, [])]] -- X9_isSheet
def pC143 : List (List (Nat × pE)) := [[(0, .aload_n 0, 0, []), (1, .getfield 57, 294, []), (4, .iload_n 1, 0, []), (5, .iconst 0, 0, []), (6, .aload_n 0, 0, []), (7, .getfield 57, 294, []), (10, .arraylength, 0, []), (11, .iconst 1, 1, []), (12, .isub, 0, []), (13, .invokestatic 73, 146, []), (16, .ifCond .eq 7, 23, []), (19, .iload_n 1, 0, []), (20, .goto 4, 24, []), (23, .iconst 0, 0, []), (24, .aaload, 0, []), (25, .areturn, 0, [])]] -- X9_sheetAt
def pC144 : List (List (Nat × pE)) := [[(0, .iload_n 1, 0, []), (1, .invokestatic 268, 142, []), (4, .ifCond .ne 6, 10, []), (7, .ldc 77, (-1000000001), []), (9, .ireturn, 0, []), (10, .aload_n 0, 0, []), (11, .iload_n 1, 0, []), (12, .invokevirtual 272, 143, []), (15, .getfield 288, 193, []), (18, .ifCond .ne 8, 26, []), (21, .ldc 175, (-1000000002), []), (23, .goto 4, 27, []), (26, .iconst 0, 0, []), (27, .ireturn, 0, [])]] -- X9_errorOfSheet
def pC145 : List (List (Nat × pE)) := [[(0, .iload_n 1, 0, []), (1, .iconst 1, 1, []), (2, .sipush 200, 200, []), (5, .invokestatic 73, 146, []), (8, .ifCond .ne 6, 14, []), (11, .ldc 77, (-1000000001), []), (13, .ireturn, 0, []), (14, .aload_n 0, 0, []), (15, .getfield 12, 288, []), (18, .getfield 312, 74, []), (21, .iload_n 1, 0, []), (22, .iadd, 0, []), (23, .sipush 9999, 9999, []), (26, .if_icmp .le 9, 35, []), (29, .ldc_w 271, (-1000000003), [])],
  [(32, .goto 4, 36, []), (35, .iconst 0, 0, []), (36, .ireturn, 0, [])]] -- X9_errorOfEvenings
def pC146 : List (List (Nat × pE)) := [[(0, .iload_n 0, 0, []), (1, .iload_n 1, 0, []), (2, .if_icmp .lt 12, 14, []), (5, .iload_n 0, 0, []), (6, .iload_n 2, 0, []), (7, .if_icmp .gt 7, 14, []), (10, .iconst 1, 1, []), (11, .goto 4, 15, []), (14, .iconst 0, 0, []), (15, .ireturn, 0, [])]] -- X9_within
def pC147 : List (List (Nat × pE)) := [[(0, .iload_n 1, 0, []), (1, .iload_n 2, 0, []), (2, .iload_n 0, 0, []), (3, .invokestatic 302, (-4), []), (6, .invokestatic 337, (-3), []), (9, .ireturn, 0, [])]] -- X9_held
def pC148 : List (List (Nat × pE)) := [[(0, .iload_n 0, 0, []), (1, .ifCond .eq 7, 8, []), (4, .iconst 1, 1, []), (5, .goto 4, 9, []), (8, .iconst 0, 0, []), (9, .ireturn, 0, [])]] -- X9_truth
def pC149 : List (List (Nat × pE)) := [[(0, .iload_n 0, 0, []), (1, .ifCond .ne 7, 8, []), (4, .iconst (-1), (-1), []), (5, .goto 12, 17, []), (8, .iload_n 0, 0, []), (9, .iload_n 0, 0, []), (10, .ineg, 0, []), (11, .iand, 0, []), (12, .iconst 1, 1, []), (13, .isub, 0, []), (14, .invokestatic 226, 255, []), (17, .ireturn, 0, [])]] -- X9_leastOf
def pC150 : List (List (Nat × pE)) := [[(0, .iload_n 0, 0, []), (1, .iconst 0, 0, []), (2, .getstatic 340, 0, []), (5, .arraylength, 0, []), (6, .iconst 1, 1, []), (7, .isub, 0, []), (8, .invokestatic 73, 146, []), (11, .ifCond .eq 11, 22, []), (14, .getstatic 340, 0, []), (17, .iload_n 0, 0, []), (18, .iaload, 0, []), (19, .goto 4, 23, []), (22, .iconst (-1), (-1), []), (23, .ireturn, 0, [])]] -- X9_aboveOf
def pC151 : List (List (Nat × pE)) := [[(0, .iload_n 0, 0, []), (1, .istore_n 2, 0, []), (2, .iconst 0, 0, []), (3, .istore_n 3, 0, []), (4, .iload_n 3, 0, []), (5, .bipush 7, 7, []), (7, .if_icmp .ge 25, 32, []), (10, .iload_n 2, 0, []), (11, .ifCond .lt 21, 32, []), (14, .iload_n 2, 0, []), (15, .iload_n 1, 0, []), (16, .if_icmp .ne 5, 21, []), (19, .iconst 1, 1, []), (20, .ireturn, 0, []), (21, .iload_n 2, 0, []), (22, .invokestatic 343, 150, []), (25, .istore_n 2, 0, []), (26, .iinc 3 1, 0, []), (29, .goto (-25), 4, [])],
  [(32, .iconst 0, 0, []), (33, .ireturn, 0, [])]] -- X9_isUnder
def pC152 : List (List (Nat × pE)) := [[(0, .aload_n 0, 0, []), (1, .invokespecial 1, (-1), []), (4, .aload_n 0, 0, []), (5, .sipush 264, 264, []), (8, .newarray .int, 0, []), (10, .putfield 7, 320, []), (13, .aload_n 0, 0, []), (14, .sipush 264, 264, []), (17, .newarray .int, 0, []), (19, .putfield 13, 321, []), (22, .aload_n 0, 0, []), (23, .bipush 6, 6, []), (25, .newarray .int, 0, []), (27, .putfield 16, 323, []), (30, .aload_n 0, 0, []), (31, .iconst 3, 3, [])],
  [(32, .newarray .int, 0, []), (34, .putfield 19, 330, []), (37, .aload_n 0, 0, []), (38, .bipush 7, 7, []), (40, .newarray .int, 0, []), (42, .putfield 22, 331, []), (45, .aload_n 0, 0, []), (46, .bipush 56, 56, []), (48, .newarray .int, 0, []), (50, .putfield 25, 332, []), (53, .aload_n 0, 0, []), (54, .iconst 4, 4, []), (55, .newarray .int, 0, []), (57, .putfield 28, 333, []), (60, .aload_n 0, 0, []), (61, .bipush 7, 7, []), (63, .newarray .int, 0, [])],
  [(65, .putfield 31, 334, []), (68, .aload_n 0, 0, []), (69, .bipush 7, 7, []), (71, .newarray .int, 0, []), (73, .putfield 34, 337, []), (76, .aload_n 0, 0, []), (77, .bipush 40, 40, []), (79, .newarray .int, 0, []), (81, .putfield 37, 338, []), (84, .aload_n 0, 0, []), (85, .iconst 4, 4, []), (86, .newarray .int, 0, []), (88, .putfield 40, 341, []), (91, .aload_n 0, 0, []), (92, .iconst 4, 4, []), (93, .newarray .int, 0, []), (95, .putfield 43, 342, [])],
  [(98, .aload_n 0, 0, []), (99, .sipush 160, 160, []), (102, .newarray .int, 0, []), (104, .putfield 46, 343, []), (107, .aload_n 0, 0, []), (108, .bipush 40, 40, []), (110, .newarray .int, 0, []), (112, .putfield 49, 344, []), (115, .aload_n 0, 0, []), (116, .getfield 7, 320, []), (119, .iconst 1, 1, []), (120, .iconst 1, 1, []), (121, .iastore, 0, []), (122, .aload_n 0, 0, []), (123, .getfield 7, 320, []), (126, .iconst 2, 2, []), (127, .iconst 1, 1, [])],
  [(128, .iastore, 0, []), (129, .return_, 0, [])]] -- X10_init
def pC153 : List (List (Nat × pE)) := [[(0, .aload_n 0, 0, []), (1, .getfield 16, 323, []), (4, .iload_n 1, 0, []), (5, .dup2, 0, []), (6, .iaload, 0, []), (7, .iconst 1, 1, []), (8, .iadd, 0, []), (9, .iastore, 0, []), (10, .ldc 52, (-1000000000), []), (12, .iload_n 1, 0, []), (13, .isub, 0, []), (14, .ireturn, 0, [])]] -- X10_finds
def pC154 : List (List (Nat × pE)) := [[(0, .lload_n 0, 0, []), (1, .lload_n 2, 0, []), (2, .lcmp, 0, []), (3, .ifCond .lt 14, 17, []), (6, .lload_n 0, 0, []), (7, .lload 4, 0, []), (9, .lcmp, 0, []), (10, .ifCond .gt 7, 17, []), (13, .iconst 1, 1, []), (14, .goto 4, 18, []), (17, .iconst 0, 0, []), (18, .ireturn, 0, [])]] -- X10_in
def pC155 : List (List (Nat × pE)) := [[(0, .iload_n 0, 0, []), (1, .iload_n 1, 0, []), (2, .if_icmp .ge 7, 9, []), (5, .iload_n 1, 0, []), (6, .goto 13, 19, []), (9, .iload_n 0, 0, []), (10, .iload_n 2, 0, []), (11, .if_icmp .le 7, 18, []), (14, .iload_n 2, 0, []), (15, .goto 4, 19, []), (18, .iload_n 0, 0, []), (19, .ireturn, 0, [])]] -- X10_held
def pC156 : List (List (Nat × pE)) := [[(0, .iload_n 1, 0, []), (1, .i2l, 0, []), (2, .lconst 0, 0, []), (3, .aload_n 0, 0, []), (4, .getfield 7, 320, []), (7, .iconst 0, 0, []), (8, .iaload, 0, []), (9, .iconst 1, 1, []), (10, .isub, 0, []), (11, .i2l, 0, []), (12, .invokestatic 53, 154, []), (15, .ireturn, 0, [])]] -- X10_isScene
def pC157 : List (List (Nat × pE)) := [[(0, .aload_n 0, 0, []), (1, .getfield 7, 320, []), (4, .bipush 10, 10, []), (6, .bipush 10, 10, []), (8, .iload_n 1, 0, []), (9, .imul, 0, []), (10, .iadd, 0, []), (11, .iload_n 2, 0, []), (12, .iadd, 0, []), (13, .iaload, 0, []), (14, .ireturn, 0, [])]] -- X10_its
def pC158 : List (List (Nat × pE)) := [[(0, .aload_n 0, 0, []), (1, .getfield 7, 320, []), (4, .bipush 10, 10, []), (6, .bipush 10, 10, []), (8, .iload_n 1, 0, []), (9, .imul, 0, []), (10, .iadd, 0, []), (11, .iload_n 2, 0, []), (12, .iadd, 0, []), (13, .iload_n 3, 0, []), (14, .iastore, 0, []), (15, .return_, 0, [])]] -- X10_puts
def pC159 : List (List (Nat × pE)) := [[(0, .iconst 0, 0, []), (1, .istore_n 1, 0, []), (2, .iconst 0, 0, []), (3, .istore_n 2, 0, []), (4, .iload_n 2, 0, []), (5, .bipush 7, 7, []), (7, .if_icmp .ge 17, 24, []), (10, .iload_n 1, 0, []), (11, .iload_n 0, 0, []), (12, .iload_n 2, 0, []), (13, .ishr, 0, []), (14, .iconst 1, 1, []), (15, .iand, 0, []), (16, .iadd, 0, []), (17, .istore_n 1, 0, []), (18, .iinc 2 1, 0, []), (21, .goto (-17), 4, []), (24, .iload_n 1, 0, []), (25, .ireturn, 0, [])]] -- X10_ones
def pC160 : List (List (Nat × pE)) := [[(0, .aload_n 0, 0, []), (1, .getfield 57, 325, []), (4, .aload_n 0, 0, []), (5, .getfield 61, 326, []), (8, .if_icmp .ge 27, 35, []), (11, .aload_n 0, 0, []), (12, .getfield 64, 327, []), (15, .ifCond .ge 20, 35, []), (18, .aload_n 0, 0, []), (19, .getfield 7, 320, []), (22, .aload_n 0, 0, []), (23, .getfield 67, 324, []), (26, .aload_n 0, 0, []), (27, .getfield 57, 325, []), (30, .iadd, 0, []), (31, .iaload, 0, [])],
  [(32, .goto 4, 36, []), (35, .iconst (-1), (-1), []), (36, .ireturn, 0, [])]] -- X10_here
def pC161 : List (List (Nat × pE)) := [[(0, .aload_n 0, 0, []), (1, .aload_n 0, 0, []), (2, .getfield 64, 327, []), (5, .ifCond .ge 10, 15, []), (8, .aload_n 0, 0, []), (9, .getfield 57, 325, []), (12, .goto 7, 19, []), (15, .aload_n 0, 0, []), (16, .getfield 64, 327, []), (19, .putfield 64, 327, []), (22, .iconst 0, 0, []), (23, .ireturn, 0, [])]] -- X10_wrong
def pC162 : List (List (Nat × pE)) := [[(0, .aload_n 0, 0, []), (1, .invokevirtual 70, 160, []), (4, .iload_n 1, 0, []), (5, .if_icmp .eq 5, 10, []), (8, .iconst 0, 0, []), (9, .ireturn, 0, []), (10, .aload_n 0, 0, []), (11, .dup, 0, []), (12, .getfield 57, 325, []), (15, .iconst 1, 1, []), (16, .iadd, 0, []), (17, .putfield 57, 325, []), (20, .iconst 1, 1, []), (21, .ireturn, 0, [])]] -- X10_takes
def pC163 : List (List (Nat × pE)) := [[(0, .aload_n 0, 0, []), (1, .getfield 74, 329, []), (4, .ifCond .eq 35, 39, []), (7, .iload_n 1, 0, []), (8, .bipush 103, 103, []), (10, .if_icmp .ne 7, 17, []), (13, .iconst 0, 0, []), (14, .goto 24, 38, []), (17, .iload_n 1, 0, []), (18, .bipush 104, 104, []), (20, .if_icmp .ne 7, 27, []), (23, .iconst 1, 1, []), (24, .goto 14, 38, []), (27, .iload_n 1, 0, []), (28, .bipush 114, 114, []), (30, .if_icmp .ne 7, 37, [])],
  [(33, .iconst 2, 2, []), (34, .goto 4, 38, []), (37, .iconst (-1), (-1), []), (38, .ireturn, 0, []), (39, .iload_n 1, 0, []), (40, .bipush 99, 99, []), (42, .if_icmp .ne 7, 49, []), (45, .iconst 0, 0, []), (46, .goto 24, 70, []), (49, .iload_n 1, 0, []), (50, .bipush 108, 108, []), (52, .if_icmp .ne 7, 59, []), (55, .iconst 1, 1, []), (56, .goto 14, 70, []), (59, .iload_n 1, 0, []), (60, .bipush 109, 109, []), (62, .if_icmp .ne 7, 69, [])],
  [(65, .iconst 2, 2, []), (66, .goto 4, 70, []), (69, .iconst (-1), (-1), []), (70, .ireturn, 0, [])]] -- X10_nameOf
def pC164 : List (List (Nat × pE)) := [[(0, .aload_n 0, 0, []), (1, .invokevirtual 78, 165, []), (4, .istore_n 1, 0, []), (5, .aload_n 0, 0, []), (6, .bipush 124, 124, []), (8, .invokevirtual 81, 162, []), (11, .ifCond .eq 25, 36, []), (14, .aload_n 0, 0, []), (15, .invokevirtual 78, 165, []), (18, .istore_n 2, 0, []), (19, .iload_n 1, 0, []), (20, .ifCond .ne 7, 27, []), (23, .iload_n 2, 0, []), (24, .ifCond .eq 7, 31, []), (27, .iconst 1, 1, []), (28, .goto 4, 32, []), (31, .iconst 0, 0, [])],
  [(32, .istore_n 1, 0, []), (33, .goto (-28), 5, []), (36, .iload_n 1, 0, []), (37, .ireturn, 0, [])]] -- X10_either
def pC165 : List (List (Nat × pE)) := [[(0, .aload_n 0, 0, []), (1, .invokevirtual 85, 166, []), (4, .istore_n 1, 0, []), (5, .aload_n 0, 0, []), (6, .bipush 38, 38, []), (8, .invokevirtual 81, 162, []), (11, .ifCond .eq 25, 36, []), (14, .aload_n 0, 0, []), (15, .invokevirtual 85, 166, []), (18, .istore_n 2, 0, []), (19, .iload_n 1, 0, []), (20, .ifCond .eq 11, 31, []), (23, .iload_n 2, 0, []), (24, .ifCond .eq 7, 31, []), (27, .iconst 1, 1, []), (28, .goto 4, 32, []), (31, .iconst 0, 0, [])],
  [(32, .istore_n 1, 0, []), (33, .goto (-28), 5, []), (36, .iload_n 1, 0, []), (37, .ireturn, 0, [])]] -- X10_both
def pC166 : List (List (Nat × pE)) := [[(0, .aload_n 0, 0, []), (1, .invokevirtual 88, 167, []), (4, .istore_n 1, 0, []), (5, .aload_n 0, 0, []), (6, .invokevirtual 70, 160, []), (9, .istore_n 2, 0, []), (10, .iload_n 2, 0, []), (11, .bipush 60, 60, []), (13, .if_icmp .eq 17, 30, []), (16, .iload_n 2, 0, []), (17, .bipush 61, 61, []), (19, .if_icmp .eq 11, 30, []), (22, .iload_n 2, 0, []), (23, .bipush 62, 62, []), (25, .if_icmp .eq 5, 30, []), (28, .iload_n 1, 0, []), (29, .ireturn, 0, []), (30, .aload_n 0, 0, []), (31, .dup, 0, [])],
  [(32, .getfield 57, 325, []), (35, .iconst 1, 1, []), (36, .iadd, 0, []), (37, .putfield 57, 325, []), (40, .aload_n 0, 0, []), (41, .invokevirtual 88, 167, []), (44, .istore_n 3, 0, []), (45, .iload_n 2, 0, []), (46, .bipush 60, 60, []), (48, .if_icmp .ne 11, 59, []), (51, .iload_n 1, 0, []), (52, .iload_n 3, 0, []), (53, .if_icmp .ge 29, 82, []), (56, .goto 22, 78, []), (59, .iload_n 2, 0, []), (60, .bipush 61, 61, []), (62, .if_icmp .ne 11, 73, [])],
  [(65, .iload_n 1, 0, []), (66, .iload_n 3, 0, []), (67, .if_icmp .ne 15, 82, []), (70, .goto 8, 78, []), (73, .iload_n 1, 0, []), (74, .iload_n 3, 0, []), (75, .if_icmp .le 7, 82, []), (78, .iconst 1, 1, []), (79, .goto 4, 83, []), (82, .iconst 0, 0, []), (83, .ireturn, 0, [])]] -- X10_compared
def pC167 : List (List (Nat × pE)) := [[(0, .aload_n 0, 0, []), (1, .invokevirtual 91, 168, []), (4, .istore_n 1, 0, []), (5, .aload_n 0, 0, []), (6, .invokevirtual 70, 160, []), (9, .bipush 43, 43, []), (11, .if_icmp .eq 12, 23, []), (14, .aload_n 0, 0, []), (15, .invokevirtual 70, 160, []), (18, .bipush 45, 45, []), (20, .if_icmp .ne 42, 62, []), (23, .aload_n 0, 0, []), (24, .invokevirtual 70, 160, []), (27, .istore_n 2, 0, []), (28, .aload_n 0, 0, []), (29, .dup, 0, []), (30, .getfield 57, 325, [])],
  [(33, .iconst 1, 1, []), (34, .iadd, 0, []), (35, .putfield 57, 325, []), (38, .aload_n 0, 0, []), (39, .invokevirtual 91, 168, []), (42, .istore_n 3, 0, []), (43, .iload_n 2, 0, []), (44, .bipush 43, 43, []), (46, .if_icmp .ne 9, 55, []), (49, .iload_n 1, 0, []), (50, .iload_n 3, 0, []), (51, .iadd, 0, []), (52, .goto 6, 58, []), (55, .iload_n 1, 0, []), (56, .iload_n 3, 0, []), (57, .isub, 0, []), (58, .istore_n 1, 0, []), (59, .goto (-54), 5, []), (62, .iload_n 1, 0, []), (63, .ireturn, 0, [])]] -- X10_sum
def pC168 : List (List (Nat × pE)) := [[(0, .aload_n 0, 0, []), (1, .invokevirtual 94, 169, []), (4, .istore_n 1, 0, []), (5, .aload_n 0, 0, []), (6, .invokevirtual 70, 160, []), (9, .bipush 42, 42, []), (11, .if_icmp .eq 21, 32, []), (14, .aload_n 0, 0, []), (15, .invokevirtual 70, 160, []), (18, .bipush 47, 47, []), (20, .if_icmp .eq 12, 32, []), (23, .aload_n 0, 0, []), (24, .invokevirtual 70, 160, []), (27, .bipush 37, 37, []), (29, .if_icmp .ne 62, 91, [])],
  [(32, .aload_n 0, 0, []), (33, .invokevirtual 70, 160, []), (36, .istore_n 2, 0, []), (37, .aload_n 0, 0, []), (38, .dup, 0, []), (39, .getfield 57, 325, []), (42, .iconst 1, 1, []), (43, .iadd, 0, []), (44, .putfield 57, 325, []), (47, .aload_n 0, 0, []), (48, .invokevirtual 94, 169, []), (51, .istore_n 3, 0, []), (52, .iload_n 2, 0, []), (53, .bipush 42, 42, []), (55, .if_icmp .ne 9, 64, []), (58, .iload_n 1, 0, []), (59, .iload_n 3, 0, []), (60, .imul, 0, []), (61, .goto 26, 87, [])],
  [(64, .iload_n 3, 0, []), (65, .ifCond .ne 7, 72, []), (68, .iconst 0, 0, []), (69, .goto 18, 87, []), (72, .iload_n 2, 0, []), (73, .bipush 47, 47, []), (75, .if_icmp .ne 9, 84, []), (78, .iload_n 1, 0, []), (79, .iload_n 3, 0, []), (80, .idiv, 0, []), (81, .goto 6, 87, []), (84, .iload_n 1, 0, []), (85, .iload_n 3, 0, []), (86, .irem, 0, []), (87, .istore_n 1, 0, []), (88, .goto (-83), 5, []), (91, .iload_n 1, 0, []), (92, .ireturn, 0, [])]] -- X10_product
def pC169 : List (List (Nat × pE)) := [[(0, .aload_n 0, 0, []), (1, .invokevirtual 70, 160, []), (4, .istore_n 1, 0, []), (5, .iload_n 1, 0, []), (6, .bipush 33, 33, []), (8, .if_icmp .eq 9, 17, []), (11, .iload_n 1, 0, []), (12, .bipush 40, 40, []), (14, .if_icmp .ne 104, 118, []), (17, .aload_n 0, 0, []), (18, .getfield 97, 328, []), (21, .iconst 5, 5, []), (22, .if_icmp .ne 8, 30, []), (25, .aload_n 0, 0, []), (26, .invokevirtual 100, 161, []), (29, .ireturn, 0, []), (30, .aload_n 0, 0, []), (31, .dup, 0, [])],
  [(32, .getfield 97, 328, []), (35, .iconst 1, 1, []), (36, .iadd, 0, []), (37, .putfield 97, 328, []), (40, .aload_n 0, 0, []), (41, .dup, 0, []), (42, .getfield 57, 325, []), (45, .iconst 1, 1, []), (46, .iadd, 0, []), (47, .putfield 57, 325, []), (50, .iload_n 1, 0, []), (51, .bipush 40, 40, []), (53, .if_icmp .ne 10, 63, []), (56, .aload_n 0, 0, []), (57, .invokevirtual 103, 164, []), (60, .goto 7, 67, []), (63, .aload_n 0, 0, [])],
  [(64, .invokevirtual 94, 169, []), (67, .istore_n 2, 0, []), (68, .iload_n 1, 0, []), (69, .bipush 40, 40, []), (71, .if_icmp .ne 17, 88, []), (74, .aload_n 0, 0, []), (75, .bipush 41, 41, []), (77, .invokevirtual 81, 162, []), (80, .ifCond .ne 8, 88, []), (83, .aload_n 0, 0, []), (84, .invokevirtual 100, 161, []), (87, .ireturn, 0, []), (88, .aload_n 0, 0, []), (89, .dup, 0, []), (90, .getfield 97, 328, []), (93, .iconst 1, 1, []), (94, .isub, 0, []), (95, .putfield 97, 328, [])],
  [(98, .iload_n 1, 0, []), (99, .bipush 40, 40, []), (101, .if_icmp .ne 7, 108, []), (104, .iload_n 2, 0, []), (105, .goto 12, 117, []), (108, .iload_n 2, 0, []), (109, .ifCond .ne 7, 116, []), (112, .iconst 1, 1, []), (113, .goto 4, 117, []), (116, .iconst 0, 0, []), (117, .ireturn, 0, []), (118, .aload_n 0, 0, []), (119, .iload_n 1, 0, []), (120, .invokevirtual 106, 163, []), (123, .istore_n 2, 0, []), (124, .iload_n 2, 0, []), (125, .ifCond .lt 20, 145, [])],
  [(128, .aload_n 0, 0, []), (129, .dup, 0, []), (130, .getfield 57, 325, []), (133, .iconst 1, 1, []), (134, .iadd, 0, []), (135, .putfield 57, 325, []), (138, .aload_n 0, 0, []), (139, .getfield 19, 330, []), (142, .iload_n 2, 0, []), (143, .iaload, 0, []), (144, .ireturn, 0, []), (145, .iconst 0, 0, []), (146, .istore_n 3, 0, []), (147, .iconst 0, 0, []), (148, .istore 4, 0, []), (150, .iload 4, 0, []), (152, .iconst 4, 4, []), (153, .if_icmp .ge 49, 202, []), (156, .aload_n 0, 0, []), (157, .invokevirtual 70, 160, [])],
  [(160, .i2l, 0, []), (161, .ldc2_w 110, 48, []), (164, .ldc2_w 112, 57, []), (167, .invokestatic 53, 154, []), (170, .ifCond .eq 32, 202, []), (173, .bipush 10, 10, []), (175, .iload_n 3, 0, []), (176, .imul, 0, []), (177, .aload_n 0, 0, []), (178, .invokevirtual 70, 160, []), (181, .iadd, 0, []), (182, .bipush 48, 48, []), (184, .isub, 0, []), (185, .istore_n 3, 0, []), (186, .aload_n 0, 0, []), (187, .dup, 0, []), (188, .getfield 57, 325, []), (191, .iconst 1, 1, [])],
  [(192, .iadd, 0, []), (193, .putfield 57, 325, []), (196, .iinc 4 1, 0, []), (199, .goto (-49), 150, []), (202, .iload 4, 0, []), (204, .ifCond .ne 10, 214, []), (207, .aload_n 0, 0, []), (208, .invokevirtual 100, 161, []), (211, .goto 4, 215, []), (214, .iload_n 3, 0, []), (215, .ireturn, 0, [])]] -- X10_unit
def pC170 : List (List (Nat × pE)) := [[(0, .aload_n 0, 0, []), (1, .iload_n 1, 0, []), (2, .putfield 67, 324, []), (5, .aload_n 0, 0, []), (6, .iconst 0, 0, []), (7, .putfield 57, 325, []), (10, .aload_n 0, 0, []), (11, .iload_n 2, 0, []), (12, .putfield 61, 326, []), (15, .aload_n 0, 0, []), (16, .iconst (-1), (-1), []), (17, .putfield 64, 327, []), (20, .aload_n 0, 0, []), (21, .iconst 0, 0, []), (22, .putfield 97, 328, []), (25, .aload_n 0, 0, []), (26, .iload_n 3, 0, []), (27, .iconst 1, 1, []), (28, .if_icmp .ne 7, 35, []), (31, .iconst 1, 1, [])],
  [(32, .goto 4, 36, []), (35, .iconst 0, 0, []), (36, .putfield 74, 329, []), (39, .aload_n 0, 0, []), (40, .invokevirtual 103, 164, []), (43, .istore 4, 0, []), (45, .aload_n 0, 0, []), (46, .getfield 64, 327, []), (49, .ifCond .ge 19, 68, []), (52, .aload_n 0, 0, []), (53, .getfield 57, 325, []), (56, .aload_n 0, 0, []), (57, .getfield 61, 326, []), (60, .if_icmp .ge 8, 68, []), (63, .aload_n 0, 0, [])],
  [(64, .invokevirtual 100, 161, []), (67, .ireturn, 0, []), (68, .iload 4, 0, []), (70, .ireturn, 0, [])]] -- X10_worked
def pC171 : List (List (Nat × pE)) := [[(0, .iload_n 3, 0, []), (1, .i2l, 0, []), (2, .lconst 1, 0, []), (3, .ldc2_w 114, 8, []), (6, .invokestatic 53, 154, []), (9, .ifCond .ne 9, 18, []), (12, .aload_n 0, 0, []), (13, .iconst 1, 1, []), (14, .invokevirtual 116, 153, []), (17, .ireturn, 0, []), (18, .aload_n 0, 0, []), (19, .getfield 7, 320, []), (22, .iconst 5, 5, []), (23, .iaload, 0, []), (24, .iload_n 3, 0, []), (25, .iadd, 0, []), (26, .bipush 50, 50, []), (28, .if_icmp .le 9, 37, []), (31, .aload_n 0, 0, [])],
  [(32, .iconst 4, 4, []), (33, .invokevirtual 116, 153, []), (36, .ireturn, 0, []), (37, .iconst 0, 0, []), (38, .istore 4, 0, []), (40, .iload 4, 0, []), (42, .iload_n 3, 0, []), (43, .if_icmp .ge 46, 89, []), (46, .aload_n 0, 0, []), (47, .getfield 7, 320, []), (50, .sipush 212, 212, []), (53, .aload_n 0, 0, []), (54, .getfield 7, 320, []), (57, .iconst 5, 5, []), (58, .iaload, 0, []), (59, .iadd, 0, []), (60, .lload_n 1, 0, []), (61, .bipush 8, 8, []), (63, .iload 4, 0, [])],
  [(65, .imul, 0, []), (66, .lshr, 0, []), (67, .ldc2_w 119, 255, []), (70, .land, 0, []), (71, .l2i, 0, []), (72, .iastore, 0, []), (73, .aload_n 0, 0, []), (74, .getfield 7, 320, []), (77, .iconst 5, 5, []), (78, .dup2, 0, []), (79, .iaload, 0, []), (80, .iconst 1, 1, []), (81, .iadd, 0, []), (82, .iastore, 0, []), (83, .iinc 4 1, 0, []), (86, .goto (-46), 40, []), (89, .aload_n 0, 0, []), (90, .getfield 7, 320, []), (93, .iconst 5, 5, []), (94, .iaload, 0, []), (95, .ireturn, 0, [])]] -- X10_feed
def pC172 : List (List (Nat × pE)) := [[(0, .iload_n 1, 0, []), (1, .i2l, 0, []), (2, .lconst 0, 0, []), (3, .lconst 1, 0, []), (4, .invokestatic 53, 154, []), (7, .ifCond .ne 9, 16, []), (10, .aload_n 0, 0, []), (11, .iconst 1, 1, []), (12, .invokevirtual 116, 153, []), (15, .ireturn, 0, []), (16, .aload_n 0, 0, []), (17, .getfield 7, 320, []), (20, .iconst 5, 5, []), (21, .iaload, 0, []), (22, .istore_n 2, 0, []), (23, .aload_n 0, 0, []), (24, .getfield 7, 320, []), (27, .iconst 5, 5, []), (28, .iconst 0, 0, []), (29, .iastore, 0, []), (30, .aload_n 0, 0, []), (31, .sipush 212, 212, [])],
  [(34, .iload_n 2, 0, []), (35, .iload_n 1, 0, []), (36, .invokevirtual 121, 170, []), (39, .istore_n 3, 0, []), (40, .aload_n 0, 0, []), (41, .getfield 64, 327, []), (44, .ifCond .lt 11, 55, []), (47, .bipush (-10), (-10), []), (49, .aload_n 0, 0, []), (50, .getfield 64, 327, []), (53, .isub, 0, []), (54, .ireturn, 0, []), (55, .aload_n 0, 0, []), (56, .getfield 7, 320, []), (59, .bipush 90, 90, []), (61, .iload_n 1, 0, []), (62, .iadd, 0, []), (63, .iload_n 2, 0, [])],
  [(64, .iastore, 0, []), (65, .iconst 0, 0, []), (66, .istore 4, 0, []), (68, .iload 4, 0, []), (70, .iload_n 2, 0, []), (71, .if_icmp .ge 35, 106, []), (74, .aload_n 0, 0, []), (75, .getfield 7, 320, []), (78, .bipush 112, 112, []), (80, .bipush 50, 50, []), (82, .iload_n 1, 0, []), (83, .imul, 0, []), (84, .iadd, 0, []), (85, .iload 4, 0, []), (87, .iadd, 0, []), (88, .aload_n 0, 0, []), (89, .getfield 7, 320, []), (92, .sipush 212, 212, []), (95, .iload 4, 0, [])],
  [(97, .iadd, 0, []), (98, .iaload, 0, []), (99, .iastore, 0, []), (100, .iinc 4 1, 0, []), (103, .goto (-35), 68, []), (106, .iconst 1, 1, []), (107, .ireturn, 0, [])]] -- X10_text
def pC173 : List (List (Nat × pE)) := [[(0, .iload_n 1, 0, []), (1, .ifCond .ne 10, 11, []), (4, .iload_n 2, 0, []), (5, .bipush 10, 10, []), (7, .imul, 0, []), (8, .goto 11, 19, []), (11, .bipush 100, 100, []), (13, .iload_n 2, 0, []), (14, .isub, 0, []), (15, .iload_n 3, 0, []), (16, .iconst 5, 5, []), (17, .imul, 0, []), (18, .isub, 0, []), (19, .istore 5, 0, []), (21, .aload_n 0, 0, []), (22, .getfield 7, 320, []), (25, .bipush 90, 90, []), (27, .iload_n 1, 0, []), (28, .iadd, 0, []), (29, .iaload, 0, []), (30, .ifCond .le 48, 78, [])],
  [(33, .aload_n 0, 0, []), (34, .getfield 19, 330, []), (37, .iconst 0, 0, []), (38, .iload_n 2, 0, []), (39, .iastore, 0, []), (40, .aload_n 0, 0, []), (41, .getfield 19, 330, []), (44, .iconst 1, 1, []), (45, .iload_n 3, 0, []), (46, .iastore, 0, []), (47, .aload_n 0, 0, []), (48, .getfield 19, 330, []), (51, .iconst 2, 2, []), (52, .iload 4, 0, []), (54, .iastore, 0, []), (55, .aload_n 0, 0, []), (56, .bipush 112, 112, []), (58, .bipush 50, 50, []), (60, .iload_n 1, 0, []), (61, .imul, 0, []), (62, .iadd, 0, []), (63, .aload_n 0, 0, [])],
  [(64, .getfield 7, 320, []), (67, .bipush 90, 90, []), (69, .iload_n 1, 0, []), (70, .iadd, 0, []), (71, .iaload, 0, []), (72, .iload_n 1, 0, []), (73, .invokevirtual 121, 170, []), (76, .istore 5, 0, []), (78, .iload_n 1, 0, []), (79, .ifCond .ne 14, 93, []), (82, .iload 5, 0, []), (84, .iconst 0, 0, []), (85, .bipush 99, 99, []), (87, .invokestatic 125, 155, []), (90, .goto 14, 104, []), (93, .iload 5, 0, []), (95, .sipush (-999), (-999), [])],
  [(98, .sipush 999, 999, []), (101, .invokestatic 125, 155, []), (104, .ireturn, 0, [])]] -- X10_textGives
def pC174 : List (List (Nat × pE)) := [[(0, .iload_n 1, 0, []), (1, .i2l, 0, []), (2, .lconst 0, 0, []), (3, .lconst 1, 0, []), (4, .invokestatic 53, 154, []), (7, .ifCond .eq 15, 22, []), (10, .aload_n 0, 0, []), (11, .iload_n 1, 0, []), (12, .iload_n 2, 0, []), (13, .iload_n 3, 0, []), (14, .iload 4, 0, []), (16, .invokevirtual 128, 173, []), (19, .goto 8, 27, []), (22, .aload_n 0, 0, []), (23, .iconst 1, 1, []), (24, .invokevirtual 116, 153, []), (27, .ireturn, 0, [])]] -- X10_law
def pC175 : List (List (Nat × pE)) := [[(0, .iload_n 0, 0, []), (1, .iconst 4, 4, []), (2, .if_icmp .ge 7, 9, []), (5, .iconst 0, 0, []), (6, .goto 6, 12, []), (9, .iload_n 0, 0, []), (10, .iconst 3, 3, []), (11, .isub, 0, []), (12, .ireturn, 0, [])]] -- X10_above
def pC176 : List (List (Nat × pE)) := [[(0, .aload_n 0, 0, []), (1, .iload_n 1, 0, []), (2, .iconst 2, 2, []), (3, .invokevirtual 132, 157, []), (6, .istore_n 3, 0, []), (7, .iload_n 3, 0, []), (8, .ifCond .ne 20, 28, []), (11, .aload_n 0, 0, []), (12, .iload_n 1, 0, []), (13, .bipush 8, 8, []), (15, .invokevirtual 132, 157, []), (18, .iconst 1, 1, []), (19, .if_icmp .ne 7, 26, []), (22, .iconst 1, 1, []), (23, .goto 4, 27, []), (26, .iconst 0, 0, []), (27, .ireturn, 0, []), (28, .iload_n 3, 0, []), (29, .invokestatic 136, 159, [])],
  [(32, .istore 4, 0, []), (34, .iload_n 3, 0, []), (35, .iload_n 2, 0, []), (36, .iand, 0, []), (37, .invokestatic 136, 159, []), (40, .istore 5, 0, []), (42, .aload_n 0, 0, []), (43, .iload_n 1, 0, []), (44, .iconst 1, 1, []), (45, .invokevirtual 132, 157, []), (48, .istore 6, 0, []), (50, .aload_n 0, 0, []), (51, .iload_n 1, 0, []), (52, .iconst 0, 0, []), (53, .invokevirtual 132, 157, []), (56, .tableswitch 133 1 6 #[40, 51, 65, 78, 95, 114], 189, [(1, 96), (2, 107), (3, 121), (4, 134), (5, 151), (6, 170)])],
  [],
  [(96, .iload 5, 0, []), (98, .ifCond .le 7, 105, []), (101, .iconst 1, 1, []), (102, .goto 4, 106, []), (105, .iconst 0, 0, []), (106, .ireturn, 0, []), (107, .iload 5, 0, []), (109, .iconst 2, 2, []), (110, .irem, 0, []), (111, .iconst 1, 1, []), (112, .if_icmp .ne 7, 119, []), (115, .iconst 1, 1, []), (116, .goto 4, 120, []), (119, .iconst 0, 0, []), (120, .ireturn, 0, []), (121, .iload 5, 0, []), (123, .iload 4, 0, []), (125, .if_icmp .ge 7, 132, [])],
  [(128, .iconst 1, 1, []), (129, .goto 4, 133, []), (132, .iconst 0, 0, []), (133, .ireturn, 0, []), (134, .iload 5, 0, []), (136, .iconst 1, 1, []), (137, .iload 6, 0, []), (139, .iconst 3, 3, []), (140, .irem, 0, []), (141, .iadd, 0, []), (142, .if_icmp .lt 7, 149, []), (145, .iconst 1, 1, []), (146, .goto 4, 150, []), (149, .iconst 0, 0, []), (150, .ireturn, 0, []), (151, .iload 5, 0, []), (153, .iconst 2, 2, []), (154, .irem, 0, []), (155, .iconst 1, 1, []), (156, .iload 6, 0, []), (158, .iconst 2, 2, []), (159, .irem, 0, [])],
  [(160, .isub, 0, []), (161, .if_icmp .ne 7, 168, []), (164, .iconst 1, 1, []), (165, .goto 4, 169, []), (168, .iconst 0, 0, []), (169, .ireturn, 0, []), (170, .iload 6, 0, []), (172, .iconst 4, 4, []), (173, .if_icmp .gt 10, 183, []), (176, .iload 5, 0, []), (178, .iload 4, 0, []), (180, .if_icmp .ge 7, 187, []), (183, .iconst 1, 1, []), (184, .goto 4, 188, []), (187, .iconst 0, 0, []), (188, .ireturn, 0, []), (189, .iload 5, 0, []), (191, .iload 4, 0, [])],
  [(193, .if_icmp .ne 7, 200, []), (196, .iconst 1, 1, []), (197, .goto 4, 201, []), (200, .iconst 0, 0, []), (201, .ireturn, 0, [])]] -- X10_happens
def pC177 : List (List (Nat × pE)) := [[(0, .iconst 0, 0, []), (1, .istore_n 1, 0, []), (2, .iconst 0, 0, []), (3, .istore_n 2, 0, []), (4, .iload_n 2, 0, []), (5, .aload_n 0, 0, []), (6, .getfield 7, 320, []), (9, .iconst 0, 0, []), (10, .iaload, 0, []), (11, .if_icmp .ge 28, 39, []), (14, .iload_n 1, 0, []), (15, .aload_n 0, 0, []), (16, .iload_n 2, 0, []), (17, .iload_n 1, 0, []), (18, .invokevirtual 139, 176, []), (21, .ifCond .eq 9, 30, []), (24, .iconst 1, 1, []), (25, .iload_n 2, 0, []), (26, .ishl, 0, []), (27, .goto 4, 31, []), (30, .iconst 0, 0, []), (31, .ior, 0, [])],
  [(32, .istore_n 1, 0, []), (33, .iinc 2 1, 0, []), (36, .goto (-32), 4, []), (39, .iload_n 1, 0, []), (40, .ireturn, 0, [])]] -- X10_allComing
def pC178 : List (List (Nat × pE)) := [[(0, .aload_n 0, 0, []), (1, .iload_n 1, 0, []), (2, .iconst 1, 1, []), (3, .invokevirtual 132, 157, []), (6, .istore_n 2, 0, []), (7, .aload_n 0, 0, []), (8, .iload_n 1, 0, []), (9, .iconst 0, 0, []), (10, .invokevirtual 132, 157, []), (13, .tableswitch 43 2 6 #[35, 37, 43, 35, 39], 56, [(2, 48), (3, 50), (4, 56), (5, 48), (6, 52)])],
  [(48, .iload_n 2, 0, []), (49, .ireturn, 0, []), (50, .iconst 5, 5, []), (51, .ireturn, 0, []), (52, .iconst 5, 5, []), (53, .iload_n 2, 0, []), (54, .iadd, 0, []), (55, .ireturn, 0, []), (56, .iconst 0, 0, []), (57, .ireturn, 0, [])]] -- X10_shock
def pC179 : List (List (Nat × pE)) := [[(0, .aload_n 0, 0, []), (1, .iload_n 1, 0, []), (2, .iconst 0, 0, []), (3, .invokevirtual 132, 157, []), (6, .istore_n 3, 0, []), (7, .iload_n 3, 0, []), (8, .iconst 3, 3, []), (9, .if_icmp .eq 9, 18, []), (12, .iload_n 3, 0, []), (13, .bipush 6, 6, []), (15, .if_icmp .ne 11, 26, []), (18, .iload_n 2, 0, []), (19, .iload_n 1, 0, []), (20, .ishr, 0, []), (21, .iconst 1, 1, []), (22, .iand, 0, []), (23, .ifCond .ne 5, 28, []), (26, .iconst (-1), (-1), []), (27, .ireturn, 0, []), (28, .iconst 0, 0, []), (29, .istore 4, 0, []), (31, .iload 4, 0, [])],
  [(33, .bipush 6, 6, []), (35, .if_icmp .ge 27, 62, []), (38, .aload_n 0, 0, []), (39, .iload_n 1, 0, []), (40, .iconst 4, 4, []), (41, .invokevirtual 132, 157, []), (44, .iload 4, 0, []), (46, .ishr, 0, []), (47, .iconst 1, 1, []), (48, .iand, 0, []), (49, .iconst 1, 1, []), (50, .if_icmp .ne 6, 56, []), (53, .iload 4, 0, []), (55, .ireturn, 0, []), (56, .iinc 4 1, 0, []), (59, .goto (-28), 31, []), (62, .iconst (-1), (-1), []), (63, .ireturn, 0, [])]] -- X10_kills
def pC180 : List (List (Nat × pE)) := [[(0, .aload_n 0, 0, []), (1, .invokevirtual 143, 177, []), (4, .istore_n 2, 0, []), (5, .iconst 0, 0, []), (6, .istore_n 3, 0, []), (7, .iload_n 3, 0, []), (8, .iload_n 1, 0, []), (9, .if_icmp .ge 39, 48, []), (12, .aload_n 0, 0, []), (13, .iload_n 3, 0, []), (14, .iload_n 2, 0, []), (15, .invokevirtual 146, 179, []), (18, .istore 4, 0, []), (20, .iload 4, 0, []), (22, .ifCond .lt 20, 42, []), (25, .aload_n 0, 0, []), (26, .iload_n 1, 0, []), (27, .iconst 4, 4, []), (28, .invokevirtual 132, 157, []), (31, .iload 4, 0, [])],
  [(33, .ishr, 0, []), (34, .iconst 1, 1, []), (35, .iand, 0, []), (36, .iconst 1, 1, []), (37, .if_icmp .ne 5, 42, []), (40, .iconst 1, 1, []), (41, .ireturn, 0, []), (42, .iinc 3 1, 0, []), (45, .goto (-38), 7, []), (48, .iconst 0, 0, []), (49, .ireturn, 0, [])]] -- X10_isBroken
def pC181 : List (List (Nat × pE)) := [[(0, .iload_n 1, 0, []), (1, .i2l, 0, []), (2, .lconst 0, 0, []), (3, .ldc2_w 149, 69, []), (6, .invokestatic 53, 154, []), (9, .ifCond .eq 48, 57, []), (12, .iload_n 2, 0, []), (13, .i2l, 0, []), (14, .lconst 0, 0, []), (15, .iconst 1, 1, []), (16, .aload_n 0, 0, []), (17, .getfield 7, 320, []), (20, .iconst 0, 0, []), (21, .iaload, 0, []), (22, .ishl, 0, []), (23, .iconst 1, 1, []), (24, .isub, 0, []), (25, .i2l, 0, []), (26, .invokestatic 53, 154, []), (29, .ifCond .eq 28, 57, [])],
  [(32, .iload_n 3, 0, []), (33, .i2l, 0, []), (34, .lconst 1, 0, []), (35, .ldc2_w 151, 30, []), (38, .invokestatic 53, 154, []), (41, .ifCond .eq 16, 57, []), (44, .iload 4, 0, []), (46, .i2l, 0, []), (47, .lconst 0, 0, []), (48, .ldc2_w 153, 63, []), (51, .invokestatic 53, 154, []), (54, .ifCond .ne 9, 63, []), (57, .aload_n 0, 0, []), (58, .iconst 1, 1, []), (59, .invokevirtual 116, 153, []), (62, .ireturn, 0, []), (63, .aload_n 0, 0, [])],
  [(64, .getfield 7, 320, []), (67, .iconst 0, 0, []), (68, .iaload, 0, []), (69, .bipush 7, 7, []), (71, .if_icmp .ne 9, 80, []), (74, .aload_n 0, 0, []), (75, .iconst 4, 4, []), (76, .invokevirtual 116, 153, []), (79, .ireturn, 0, []), (80, .aload_n 0, 0, []), (81, .getfield 7, 320, []), (84, .iconst 0, 0, []), (85, .iaload, 0, []), (86, .istore 5, 0, []), (88, .iload 5, 0, []), (90, .istore 6, 0, []), (92, .iload 6, 0, []), (94, .ifCond .le 31, 125, [])],
  [(97, .aload_n 0, 0, []), (98, .getfield 7, 320, []), (101, .bipush 80, 80, []), (103, .iload 6, 0, []), (105, .iadd, 0, []), (106, .aload_n 0, 0, []), (107, .getfield 7, 320, []), (110, .bipush 80, 80, []), (112, .iload 6, 0, []), (114, .iadd, 0, []), (115, .iconst 1, 1, []), (116, .isub, 0, []), (117, .iaload, 0, []), (118, .iastore, 0, []), (119, .iinc 6 (-1), 0, []), (122, .goto (-30), 92, []), (125, .aload_n 0, 0, []), (126, .getfield 7, 320, [])],
  [(129, .bipush 80, 80, []), (131, .iload 5, 0, []), (133, .iastore, 0, []), (134, .aload_n 0, 0, []), (135, .getfield 7, 320, []), (138, .iconst 0, 0, []), (139, .dup2, 0, []), (140, .iaload, 0, []), (141, .iconst 1, 1, []), (142, .iadd, 0, []), (143, .iastore, 0, []), (144, .aload_n 0, 0, []), (145, .iload 5, 0, []), (147, .iconst 0, 0, []), (148, .iload_n 1, 0, []), (149, .bipush 10, 10, []), (151, .idiv, 0, []), (152, .invokevirtual 155, 158, []), (155, .aload_n 0, 0, []), (156, .iload 5, 0, []), (158, .iconst 1, 1, []), (159, .iload_n 1, 0, [])],
  [(160, .bipush 10, 10, []), (162, .irem, 0, []), (163, .invokevirtual 155, 158, []), (166, .aload_n 0, 0, []), (167, .iload 5, 0, []), (169, .iconst 2, 2, []), (170, .iload_n 2, 0, []), (171, .invokevirtual 155, 158, []), (174, .aload_n 0, 0, []), (175, .iload 5, 0, []), (177, .iconst 3, 3, []), (178, .iload_n 3, 0, []), (179, .invokevirtual 155, 158, []), (182, .aload_n 0, 0, []), (183, .iload 5, 0, []), (185, .iconst 4, 4, []), (186, .iload 4, 0, []), (188, .invokevirtual 155, 158, []), (191, .aload_n 0, 0, [])],
  [(192, .iload 5, 0, []), (194, .iconst 5, 5, []), (195, .iconst 4, 4, []), (196, .invokevirtual 155, 158, []), (199, .aload_n 0, 0, []), (200, .iload 5, 0, []), (202, .bipush 6, 6, []), (204, .iconst 0, 0, []), (205, .invokevirtual 155, 158, []), (208, .aload_n 0, 0, []), (209, .iload 5, 0, []), (211, .bipush 7, 7, []), (213, .iconst 0, 0, []), (214, .invokevirtual 155, 158, []), (217, .aload_n 0, 0, []), (218, .iload 5, 0, []), (220, .bipush 8, 8, []), (222, .iconst 1, 1, []), (223, .invokevirtual 155, 158, [])],
  [(226, .iload 5, 0, []), (228, .ireturn, 0, [])]] -- X10_scene
def pC182 : List (List (Nat × pE)) := [[(0, .aload_n 0, 0, []), (1, .iload_n 1, 0, []), (2, .invokevirtual 159, 156, []), (5, .ifCond .eq 19, 24, []), (8, .iload_n 2, 0, []), (9, .i2l, 0, []), (10, .lconst 0, 0, []), (11, .ldc2_w 162, 4, []), (14, .invokestatic 53, 154, []), (17, .ifCond .eq 7, 24, []), (20, .iconst 1, 1, []), (21, .goto 4, 25, []), (24, .iconst 0, 0, []), (25, .istore 5, 0, []), (27, .iload 5, 0, []), (29, .ifCond .eq 33, 62, [])],
  [(32, .iload_n 2, 0, []), (33, .iconst 4, 4, []), (34, .if_icmp .ge 34, 68, []), (37, .iload_n 3, 0, []), (38, .i2l, 0, []), (39, .lconst 0, 0, []), (40, .ldc2_w 164, 5, []), (43, .invokestatic 53, 154, []), (46, .ifCond .eq 16, 62, []), (49, .iload 4, 0, []), (51, .i2l, 0, []), (52, .lconst 0, 0, []), (53, .ldc2_w 164, 5, []), (56, .invokestatic 53, 154, []), (59, .ifCond .ne 9, 68, []), (62, .aload_n 0, 0, []), (63, .iconst 1, 1, [])],
  [(64, .invokevirtual 116, 153, []), (67, .ireturn, 0, []), (68, .aload_n 0, 0, []), (69, .iload_n 1, 0, []), (70, .iconst 5, 5, []), (71, .iload_n 2, 0, []), (72, .invokevirtual 155, 158, []), (75, .aload_n 0, 0, []), (76, .iload_n 1, 0, []), (77, .bipush 6, 6, []), (79, .iload_n 2, 0, []), (80, .iconst 4, 4, []), (81, .if_icmp .ge 7, 88, []), (84, .iload_n 3, 0, []), (85, .goto 4, 89, []), (88, .iconst 0, 0, []), (89, .invokevirtual 155, 158, []), (92, .aload_n 0, 0, []), (93, .iload_n 1, 0, []), (94, .bipush 7, 7, [])],
  [(96, .iload_n 2, 0, []), (97, .iconst 4, 4, []), (98, .if_icmp .ge 8, 106, []), (101, .iload 4, 0, []), (103, .goto 4, 107, []), (106, .iconst 0, 0, []), (107, .invokevirtual 155, 158, []), (110, .iconst 1, 1, []), (111, .ireturn, 0, [])]] -- X10_prop
def pC183 : List (List (Nat × pE)) := [[(0, .aload_n 0, 0, []), (1, .iload_n 1, 0, []), (2, .invokevirtual 159, 156, []), (5, .ifCond .eq 15, 20, []), (8, .iload_n 2, 0, []), (9, .i2l, 0, []), (10, .lconst 0, 0, []), (11, .ldc2_w 166, 10, []), (14, .invokestatic 53, 154, []), (17, .ifCond .ne 9, 26, []), (20, .aload_n 0, 0, []), (21, .iconst 1, 1, []), (22, .invokevirtual 116, 153, []), (25, .ireturn, 0, []), (26, .iload_n 2, 0, []), (27, .tableswitch 80 6 10 #[33, 41, 50, 56, 66], 107, [(6, 60), (7, 68), (8, 77), (9, 83), (10, 93)])],
  [(60, .aload_n 0, 0, []), (61, .iload_n 1, 0, []), (62, .bipush 8, 8, [])],
  [(64, .invokevirtual 132, 157, []), (67, .ireturn, 0, []), (68, .aload_n 0, 0, []), (69, .invokevirtual 143, 177, []), (72, .iload_n 1, 0, []), (73, .ishr, 0, []), (74, .iconst 1, 1, []), (75, .iand, 0, []), (76, .ireturn, 0, []), (77, .aload_n 0, 0, []), (78, .iload_n 1, 0, []), (79, .invokevirtual 168, 178, []), (82, .ireturn, 0, []), (83, .aload_n 0, 0, []), (84, .iload_n 1, 0, []), (85, .aload_n 0, 0, []), (86, .invokevirtual 143, 177, []), (89, .invokevirtual 146, 179, []), (92, .ireturn, 0, []), (93, .aload_n 0, 0, []), (94, .iload_n 1, 0, []), (95, .invokevirtual 171, 180, [])],
  [(98, .ifCond .eq 7, 105, []), (101, .iconst 1, 1, []), (102, .goto 4, 106, []), (105, .iconst 0, 0, []), (106, .ireturn, 0, []), (107, .aload_n 0, 0, []), (108, .iload_n 1, 0, []), (109, .iload_n 2, 0, []), (110, .invokevirtual 132, 157, []), (113, .ireturn, 0, [])]] -- X10_ofScene
def pC184 : List (List (Nat × pE)) := [[(0, .aload_n 0, 0, []), (1, .iload_n 1, 0, []), (2, .invokevirtual 159, 156, []), (5, .ifCond .eq 15, 20, []), (8, .iload_n 2, 0, []), (9, .i2l, 0, []), (10, .lconst 0, 0, []), (11, .ldc2_w 149, 69, []), (14, .invokestatic 53, 154, []), (17, .ifCond .ne 9, 26, []), (20, .aload_n 0, 0, []), (21, .iconst 1, 1, []), (22, .invokevirtual 116, 153, []), (25, .ireturn, 0, []), (26, .aload_n 0, 0, []), (27, .iload_n 1, 0, []), (28, .iconst 0, 0, []), (29, .invokevirtual 132, 157, [])],
  [(32, .istore_n 3, 0, []), (33, .aload_n 0, 0, []), (34, .iload_n 1, 0, []), (35, .iconst 0, 0, []), (36, .iload_n 2, 0, []), (37, .bipush 10, 10, []), (39, .idiv, 0, []), (40, .invokevirtual 155, 158, []), (43, .aload_n 0, 0, []), (44, .iload_n 1, 0, []), (45, .iconst 1, 1, []), (46, .iload_n 2, 0, []), (47, .bipush 10, 10, []), (49, .irem, 0, []), (50, .invokevirtual 155, 158, []), (53, .iload_n 3, 0, []), (54, .ireturn, 0, [])]] -- X10_become
def pC185 : List (List (Nat × pE)) := [[(0, .aload_n 0, 0, []), (1, .iload_n 1, 0, []), (2, .invokevirtual 159, 156, []), (5, .ifCond .eq 15, 20, []), (8, .iload_n 2, 0, []), (9, .i2l, 0, []), (10, .lconst 0, 0, []), (11, .ldc2_w 174, 6, []), (14, .invokestatic 53, 154, []), (17, .ifCond .ne 9, 26, []), (20, .aload_n 0, 0, []), (21, .iconst 1, 1, []), (22, .invokevirtual 116, 153, []), (25, .ireturn, 0, []), (26, .aload_n 0, 0, []), (27, .iload_n 1, 0, []), (28, .iconst 0, 0, []), (29, .invokevirtual 132, 157, [])],
  [(32, .istore_n 3, 0, []), (33, .iload_n 2, 0, []), (34, .ifCond .eq 16, 50, []), (37, .iload_n 2, 0, []), (38, .iload_n 3, 0, []), (39, .if_icmp .eq 11, 50, []), (42, .iload_n 2, 0, []), (43, .iload_n 3, 0, []), (44, .invokestatic 176, 175, []), (47, .if_icmp .ne 12, 59, []), (50, .aload_n 0, 0, []), (51, .iload_n 1, 0, []), (52, .iconst 1, 1, []), (53, .invokevirtual 132, 157, []), (56, .goto 8, 64, []), (59, .aload_n 0, 0, []), (60, .iconst 5, 5, []), (61, .invokevirtual 116, 153, [])],
  [(64, .ireturn, 0, [])]] -- X10_as
def pC186 : List (List (Nat × pE)) := [[(0, .iload_n 2, 0, []), (1, .iconst 3, 3, []), (2, .if_icmp .ne 15, 17, []), (5, .iload_n 3, 0, []), (6, .i2l, 0, []), (7, .lconst 1, 0, []), (8, .ldc2_w 151, 30, []), (11, .invokestatic 53, 154, []), (14, .goto 41, 55, []), (17, .iload_n 2, 0, []), (18, .iconst 4, 4, []), (19, .if_icmp .ne 15, 34, []), (22, .iload_n 3, 0, []), (23, .i2l, 0, []), (24, .lconst 0, 0, []), (25, .ldc2_w 153, 63, []), (28, .invokestatic 53, 154, []), (31, .goto 24, 55, [])],
  [(34, .iload_n 2, 0, []), (35, .bipush 6, 6, []), (37, .if_icmp .ne 17, 54, []), (40, .iload_n 3, 0, []), (41, .i2l, 0, []), (42, .lconst 0, 0, []), (43, .lconst 1, 0, []), (44, .invokestatic 53, 154, []), (47, .ifCond .eq 7, 54, []), (50, .iconst 1, 1, []), (51, .goto 4, 55, []), (54, .iconst 0, 0, []), (55, .istore 4, 0, []), (57, .aload_n 0, 0, []), (58, .iload_n 1, 0, []), (59, .invokevirtual 159, 156, []), (62, .ifCond .eq 8, 70, [])],
  [(65, .iload 4, 0, []), (67, .ifCond .ne 9, 76, []), (70, .aload_n 0, 0, []), (71, .iconst 1, 1, []), (72, .invokevirtual 116, 153, []), (75, .ireturn, 0, []), (76, .iload_n 2, 0, []), (77, .bipush 6, 6, []), (79, .if_icmp .ne 8, 87, []), (82, .bipush 8, 8, []), (84, .goto 4, 88, []), (87, .iload_n 2, 0, []), (88, .istore 5, 0, []), (90, .aload_n 0, 0, []), (91, .iload_n 1, 0, []), (92, .iload 5, 0, []), (94, .invokevirtual 132, 157, [])],
  [(97, .istore 6, 0, []), (99, .aload_n 0, 0, []), (100, .iload_n 1, 0, []), (101, .iload 5, 0, []), (103, .iload_n 3, 0, []), (104, .invokevirtual 155, 158, []), (107, .iload 6, 0, []), (109, .ireturn, 0, [])]] -- X10_set
def pC187 : List (List (Nat × pE)) := [[(0, .aload_n 0, 0, []), (1, .invokevirtual 143, 177, []), (4, .ireturn, 0, [])]] -- X10_comes
def pC188 : List (List (Nat × pE)) := [[(0, .iconst 0, 0, []), (1, .istore_n 1, 0, []), (2, .iload_n 1, 0, []), (3, .aload_n 0, 0, []), (4, .getfield 7, 320, []), (7, .iconst 0, 0, []), (8, .iaload, 0, []), (9, .if_icmp .ge 24, 33, []), (12, .aload_n 0, 0, []), (13, .getfield 22, 331, []), (16, .iload_n 1, 0, []), (17, .aload_n 0, 0, []), (18, .getfield 7, 320, []), (21, .bipush 80, 80, []), (23, .iload_n 1, 0, []), (24, .iadd, 0, []), (25, .iaload, 0, []), (26, .iastore, 0, []), (27, .iinc 1 1, 0, []), (30, .goto (-28), 2, [])],
  [(33, .return_, 0, [])]] -- X10_rowAsGiven
def pC189 : List (List (Nat × pE)) := [[(0, .iconst 0, 0, []), (1, .istore_n 1, 0, []), (2, .iload_n 1, 0, []), (3, .aload_n 0, 0, []), (4, .getfield 7, 320, []), (7, .iconst 0, 0, []), (8, .iaload, 0, []), (9, .if_icmp .ge 75, 84, []), (12, .aload_n 0, 0, []), (13, .iload_n 1, 0, []), (14, .iconst 2, 2, []), (15, .invokevirtual 132, 157, []), (18, .invokestatic 136, 159, []), (21, .istore_n 2, 0, []), (22, .iconst 0, 0, []), (23, .istore_n 3, 0, []), (24, .iload_n 3, 0, []), (25, .iload_n 2, 0, []), (26, .if_icmp .gt 52, 78, []), (29, .aload_n 0, 0, []), (30, .getfield 25, 332, [])],
  [(33, .bipush 8, 8, []), (35, .iload_n 1, 0, []), (36, .imul, 0, []), (37, .iload_n 3, 0, []), (38, .iadd, 0, []), (39, .aload_n 0, 0, []), (40, .iconst 0, 0, []), (41, .iload_n 3, 0, []), (42, .aload_n 0, 0, []), (43, .iload_n 1, 0, []), (44, .iconst 3, 3, []), (45, .invokevirtual 132, 157, []), (48, .aload_n 0, 0, []), (49, .iload_n 1, 0, []), (50, .iconst 1, 1, []), (51, .invokevirtual 132, 157, []), (54, .invokevirtual 128, 173, []), (57, .iload_n 3, 0, []), (58, .ifCond .le 11, 69, []), (61, .aload_n 0, 0, []), (62, .iload_n 1, 0, []), (63, .invokevirtual 168, 178, [])],
  [(66, .goto 4, 70, []), (69, .iconst 0, 0, []), (70, .iadd, 0, []), (71, .iastore, 0, []), (72, .iinc 3 1, 0, []), (75, .goto (-51), 24, []), (78, .iinc 1 1, 0, []), (81, .goto (-79), 2, []), (84, .return_, 0, [])]] -- X10_findGuesses
def pC190 : List (List (Nat × pE)) := [[(0, .aload_n 0, 0, []), (1, .getfield 22, 331, []), (4, .iload_n 1, 0, []), (5, .iaload, 0, []), (6, .istore_n 3, 0, []), (7, .aload_n 0, 0, []), (8, .getfield 25, 332, []), (11, .bipush 8, 8, []), (13, .iload_n 3, 0, []), (14, .imul, 0, []), (15, .aload_n 0, 0, []), (16, .iload_n 3, 0, []), (17, .iconst 2, 2, []), (18, .invokevirtual 132, 157, []), (21, .iload_n 2, 0, []), (22, .iconst (-1), (-1), []), (23, .ixor, 0, []), (24, .iand, 0, []), (25, .invokestatic 136, 159, []), (28, .iadd, 0, []), (29, .iaload, 0, []), (30, .ireturn, 0, [])]] -- X10_guessAt
def pC191 : List (List (Nat × pE)) := [[(0, .iconst 0, 0, []), (1, .istore_n 1, 0, []), (2, .iconst 0, 0, []), (3, .istore_n 2, 0, []), (4, .iconst 0, 0, []), (5, .istore_n 3, 0, []), (6, .iload_n 3, 0, []), (7, .aload_n 0, 0, []), (8, .getfield 7, 320, []), (11, .iconst 0, 0, []), (12, .iaload, 0, []), (13, .if_icmp .ge 29, 42, []), (16, .iload_n 1, 0, []), (17, .aload_n 0, 0, []), (18, .iload_n 3, 0, []), (19, .iload_n 2, 0, []), (20, .invokevirtual 179, 190, []), (23, .iadd, 0, []), (24, .istore_n 1, 0, []), (25, .iload_n 2, 0, []), (26, .iconst 1, 1, []), (27, .aload_n 0, 0, []), (28, .getfield 22, 331, []), (31, .iload_n 3, 0, [])],
  [(32, .iaload, 0, []), (33, .ishl, 0, []), (34, .ior, 0, []), (35, .istore_n 2, 0, []), (36, .iinc 3 1, 0, []), (39, .goto (-33), 6, []), (42, .iload_n 1, 0, []), (43, .ireturn, 0, [])]] -- X10_guessedOfRow
def pC192 : List (List (Nat × pE)) := [[(0, .iconst 0, 0, []), (1, .istore_n 1, 0, []), (2, .iload_n 1, 0, []), (3, .iconst 4, 4, []), (4, .if_icmp .ge 16, 20, []), (7, .aload_n 0, 0, []), (8, .getfield 28, 333, []), (11, .iload_n 1, 0, []), (12, .iconst (-1), (-1), []), (13, .iastore, 0, []), (14, .iinc 1 1, 0, []), (17, .goto (-15), 2, []), (20, .iconst 0, 0, []), (21, .istore_n 1, 0, []), (22, .iconst 0, 0, []), (23, .istore_n 2, 0, []), (24, .iload_n 2, 0, []), (25, .aload_n 0, 0, []), (26, .getfield 7, 320, []), (29, .iconst 0, 0, []), (30, .iaload, 0, []), (31, .if_icmp .ge 116, 147, [])],
  [(34, .aload_n 0, 0, []), (35, .aload_n 0, 0, []), (36, .getfield 22, 331, []), (39, .iload_n 2, 0, []), (40, .iaload, 0, []), (41, .iconst 5, 5, []), (42, .invokevirtual 132, 157, []), (45, .istore_n 3, 0, []), (46, .iload_n 3, 0, []), (47, .iconst 4, 4, []), (48, .if_icmp .ge 93, 141, []), (51, .aload_n 0, 0, []), (52, .aload_n 0, 0, []), (53, .getfield 22, 331, []), (56, .iload_n 2, 0, []), (57, .iaload, 0, []), (58, .aload_n 0, 0, []), (59, .getfield 7, 320, []), (62, .iconst 2, 2, []), (63, .iaload, 0, [])],
  [(64, .iconst 1, 1, []), (65, .if_icmp .ne 8, 73, []), (68, .bipush 7, 7, []), (70, .goto 5, 75, []), (73, .bipush 6, 6, []), (75, .invokevirtual 132, 157, []), (78, .istore 4, 0, []), (80, .iload_n 1, 0, []), (81, .aload_n 0, 0, []), (82, .getfield 28, 333, []), (85, .iload_n 3, 0, []), (86, .iaload, 0, []), (87, .ifCond .lt 18, 105, []), (90, .aload_n 0, 0, []), (91, .getfield 28, 333, []), (94, .iload_n 3, 0, []), (95, .iaload, 0, [])],
  [(96, .iload 4, 0, []), (98, .if_icmp .eq 7, 105, []), (101, .iconst 1, 1, []), (102, .goto 4, 106, []), (105, .iconst 0, 0, []), (106, .iadd, 0, []), (107, .istore_n 1, 0, []), (108, .aload_n 0, 0, []), (109, .getfield 28, 333, []), (112, .iload_n 3, 0, []), (113, .aload_n 0, 0, []), (114, .aload_n 0, 0, []), (115, .getfield 22, 331, []), (118, .iload_n 2, 0, []), (119, .iaload, 0, []), (120, .aload_n 0, 0, []), (121, .getfield 7, 320, []), (124, .iconst 2, 2, []), (125, .iaload, 0, []), (126, .iconst 1, 1, []), (127, .if_icmp .ne 8, 135, [])],
  [(130, .bipush 6, 6, []), (132, .goto 5, 137, []), (135, .bipush 7, 7, []), (137, .invokevirtual 132, 157, []), (140, .iastore, 0, []), (141, .iinc 2 1, 0, []), (144, .goto (-120), 24, []), (147, .iload_n 1, 0, []), (148, .ireturn, 0, [])]] -- X10_handsOfRow
def pC193 : List (List (Nat × pE)) := [[(0, .aload_n 0, 0, []), (1, .invokevirtual 182, 188, []), (4, .aload_n 0, 0, []), (5, .invokevirtual 185, 189, []), (8, .aload_n 0, 0, []), (9, .invokevirtual 188, 191, []), (12, .ireturn, 0, [])]] -- X10_guessed
def pC194 : List (List (Nat × pE)) := [[(0, .aload_n 0, 0, []), (1, .invokevirtual 182, 188, []), (4, .aload_n 0, 0, []), (5, .invokevirtual 191, 192, []), (8, .ireturn, 0, [])]] -- X10_hands
def pC195 : List (List (Nat × pE)) := [[(0, .aload_n 0, 0, []), (1, .invokevirtual 143, 177, []), (4, .istore_n 1, 0, []), (5, .iconst 0, 0, []), (6, .istore_n 2, 0, []), (7, .iconst 0, 0, []), (8, .istore_n 3, 0, []), (9, .iconst 0, 0, []), (10, .istore 4, 0, []), (12, .iload 4, 0, []), (14, .aload_n 0, 0, []), (15, .getfield 7, 320, []), (18, .iconst 0, 0, []), (19, .iaload, 0, []), (20, .if_icmp .ge 61, 81, []), (23, .aload_n 0, 0, []), (24, .getfield 7, 320, []), (27, .bipush 80, 80, []), (29, .iload 4, 0, []), (31, .iadd, 0, [])],
  [(32, .iaload, 0, []), (33, .istore 5, 0, []), (35, .iload_n 3, 0, []), (36, .aload_n 0, 0, []), (37, .iload 5, 0, []), (39, .iconst 4, 4, []), (40, .invokevirtual 132, 157, []), (43, .iload_n 2, 0, []), (44, .iand, 0, []), (45, .invokestatic 136, 159, []), (48, .iadd, 0, []), (49, .istore_n 3, 0, []), (50, .aload_n 0, 0, []), (51, .iload 5, 0, []), (53, .iload_n 1, 0, []), (54, .invokevirtual 146, 179, []), (57, .istore 6, 0, []), (59, .iload_n 2, 0, []), (60, .iload 6, 0, []), (62, .ifCond .lt 10, 72, [])],
  [(65, .iconst 1, 1, []), (66, .iload 6, 0, []), (68, .ishl, 0, []), (69, .goto 4, 73, []), (72, .iconst 0, 0, []), (73, .ior, 0, []), (74, .istore_n 2, 0, []), (75, .iinc 4 1, 0, []), (78, .goto (-66), 12, []), (81, .iload_n 3, 0, []), (82, .ireturn, 0, [])]] -- X10_rises
def pC196 : List (List (Nat × pE)) := [[(0, .iload_n 1, 0, []), (1, .i2l, 0, []), (2, .lconst 0, 0, []), (3, .aload_n 0, 0, []), (4, .getfield 7, 320, []), (7, .iconst 0, 0, []), (8, .iaload, 0, []), (9, .iconst 1, 1, []), (10, .isub, 0, []), (11, .i2l, 0, []), (12, .invokestatic 53, 154, []), (15, .ifCond .eq 15, 30, []), (18, .aload_n 0, 0, []), (19, .getfield 7, 320, []), (22, .bipush 80, 80, []), (24, .iload_n 1, 0, []), (25, .iadd, 0, []), (26, .iaload, 0, []), (27, .goto 8, 35, []), (30, .aload_n 0, 0, []), (31, .iconst 1, 1, [])],
  [(32, .invokevirtual 116, 153, []), (35, .ireturn, 0, [])]] -- X10_given
def pC197 : List (List (Nat × pE)) := [[(0, .iconst 0, 0, []), (1, .istore_n 2, 0, []), (2, .aload_n 0, 0, []), (3, .getfield 7, 320, []), (6, .bipush 80, 80, []), (8, .iload_n 2, 0, []), (9, .iadd, 0, []), (10, .iaload, 0, []), (11, .iload_n 1, 0, []), (12, .if_icmp .eq 9, 21, []), (15, .iinc 2 1, 0, []), (18, .goto (-16), 2, []), (21, .iload_n 2, 0, []), (22, .ireturn, 0, [])]] -- X10_placeOf
def pC198 : List (List (Nat × pE)) := [[(0, .aload_n 0, 0, []), (1, .iload_n 1, 0, []), (2, .invokevirtual 159, 156, []), (5, .ifCond .eq 21, 26, []), (8, .iload_n 2, 0, []), (9, .i2l, 0, []), (10, .lconst 0, 0, []), (11, .aload_n 0, 0, []), (12, .getfield 7, 320, []), (15, .iconst 0, 0, []), (16, .iaload, 0, []), (17, .iconst 1, 1, []), (18, .isub, 0, []), (19, .i2l, 0, []), (20, .invokestatic 53, 154, []), (23, .ifCond .ne 9, 32, []), (26, .aload_n 0, 0, []), (27, .iconst 1, 1, []), (28, .invokevirtual 116, 153, []), (31, .ireturn, 0, [])],
  [(32, .aload_n 0, 0, []), (33, .iload_n 1, 0, []), (34, .invokevirtual 194, 197, []), (37, .istore_n 3, 0, []), (38, .iload_n 3, 0, []), (39, .istore 4, 0, []), (41, .iload 4, 0, []), (43, .iload_n 2, 0, []), (44, .if_icmp .ge 31, 75, []), (47, .aload_n 0, 0, []), (48, .getfield 7, 320, []), (51, .bipush 80, 80, []), (53, .iload 4, 0, []), (55, .iadd, 0, []), (56, .aload_n 0, 0, []), (57, .getfield 7, 320, []), (60, .bipush 80, 80, []), (62, .iload 4, 0, [])],
  [(64, .iadd, 0, []), (65, .iconst 1, 1, []), (66, .iadd, 0, []), (67, .iaload, 0, []), (68, .iastore, 0, []), (69, .iinc 4 1, 0, []), (72, .goto (-31), 41, []), (75, .iload_n 3, 0, []), (76, .istore 4, 0, []), (78, .iload 4, 0, []), (80, .iload_n 2, 0, []), (81, .if_icmp .le 31, 112, []), (84, .aload_n 0, 0, []), (85, .getfield 7, 320, []), (88, .bipush 80, 80, []), (90, .iload 4, 0, []), (92, .iadd, 0, []), (93, .aload_n 0, 0, []), (94, .getfield 7, 320, [])],
  [(97, .bipush 80, 80, []), (99, .iload 4, 0, []), (101, .iadd, 0, []), (102, .iconst 1, 1, []), (103, .isub, 0, []), (104, .iaload, 0, []), (105, .iastore, 0, []), (106, .iinc 4 (-1), 0, []), (109, .goto (-31), 78, []), (112, .aload_n 0, 0, []), (113, .getfield 7, 320, []), (116, .bipush 80, 80, []), (118, .iload_n 2, 0, []), (119, .iadd, 0, []), (120, .iload_n 1, 0, []), (121, .iastore, 0, []), (122, .iload_n 3, 0, []), (123, .ireturn, 0, [])]] -- X10_place
def pC199 : List (List (Nat × pE)) := [[(0, .iload_n 1, 0, []), (1, .i2l, 0, []), (2, .lconst 0, 0, []), (3, .lconst 1, 0, []), (4, .invokestatic 53, 154, []), (7, .ifCond .ne 9, 16, []), (10, .aload_n 0, 0, []), (11, .iconst 1, 1, []), (12, .invokevirtual 116, 153, []), (15, .ireturn, 0, []), (16, .aload_n 0, 0, []), (17, .getfield 7, 320, []), (20, .iconst 2, 2, []), (21, .iaload, 0, []), (22, .istore_n 2, 0, []), (23, .aload_n 0, 0, []), (24, .getfield 7, 320, []), (27, .iconst 2, 2, []), (28, .iload_n 1, 0, []), (29, .iastore, 0, []), (30, .iload_n 2, 0, []), (31, .ireturn, 0, [])]] -- X10_back
def pC200 : List (List (Nat × pE)) := [[(0, .aload_n 0, 0, []), (1, .invokevirtual 182, 188, []), (4, .aload_n 0, 0, []), (5, .invokevirtual 185, 189, []), (8, .iconst 0, 0, []), (9, .istore_n 2, 0, []), (10, .iconst 0, 0, []), (11, .istore_n 3, 0, []), (12, .iload_n 3, 0, []), (13, .iload_n 1, 0, []), (14, .if_icmp .ge 20, 34, []), (17, .iload_n 2, 0, []), (18, .iconst 1, 1, []), (19, .aload_n 0, 0, []), (20, .getfield 22, 331, []), (23, .iload_n 3, 0, []), (24, .iaload, 0, []), (25, .ishl, 0, []), (26, .ior, 0, []), (27, .istore_n 2, 0, []), (28, .iinc 3 1, 0, []), (31, .goto (-19), 12, [])],
  [(34, .aload_n 0, 0, []), (35, .iload_n 1, 0, []), (36, .iload_n 2, 0, []), (37, .invokevirtual 179, 190, []), (40, .ireturn, 0, [])]] -- X10_guessOf
def pC201 : List (List (Nat × pE)) := [[(0, .iload_n 1, 0, []), (1, .i2l, 0, []), (2, .lconst 0, 0, []), (3, .aload_n 0, 0, []), (4, .getfield 7, 320, []), (7, .iconst 0, 0, []), (8, .iaload, 0, []), (9, .iconst 1, 1, []), (10, .isub, 0, []), (11, .i2l, 0, []), (12, .invokestatic 53, 154, []), (15, .ifCond .eq 11, 26, []), (18, .aload_n 0, 0, []), (19, .iload_n 1, 0, []), (20, .invokevirtual 197, 200, []), (23, .goto 8, 31, []), (26, .aload_n 0, 0, []), (27, .iconst 1, 1, []), (28, .invokevirtual 116, 153, []), (31, .ireturn, 0, [])]] -- X10_guess
def pC202 : List (List (Nat × pE)) := [[(0, .aload_n 0, 0, []), (1, .iload_n 1, 0, []), (2, .invokevirtual 159, 156, []), (5, .ifCond .ne 9, 14, []), (8, .aload_n 0, 0, []), (9, .iconst 1, 1, []), (10, .invokevirtual 116, 153, []), (13, .ireturn, 0, []), (14, .iconst 1, 1, []), (15, .iload_n 1, 0, []), (16, .ishl, 0, []), (17, .istore_n 2, 0, []), (18, .iload_n 1, 0, []), (19, .istore_n 3, 0, []), (20, .iload_n 3, 0, []), (21, .ifCond .lt 31, 52, []), (24, .iload_n 2, 0, []), (25, .iload_n 2, 0, []), (26, .iload_n 3, 0, []), (27, .ishr, 0, []), (28, .iconst 1, 1, []), (29, .iand, 0, []), (30, .iconst 1, 1, []), (31, .if_icmp .ne 12, 43, [])],
  [(34, .aload_n 0, 0, []), (35, .iload_n 3, 0, []), (36, .iconst 2, 2, []), (37, .invokevirtual 132, 157, []), (40, .goto 4, 44, []), (43, .iconst 0, 0, []), (44, .ior, 0, []), (45, .istore_n 2, 0, []), (46, .iinc 3 (-1), 0, []), (49, .goto (-29), 20, []), (52, .iconst 0, 0, []), (53, .istore_n 3, 0, []), (54, .iconst 0, 0, []), (55, .istore 4, 0, []), (57, .iload 4, 0, []), (59, .aload_n 0, 0, []), (60, .getfield 7, 320, []), (63, .iconst 0, 0, [])],
  [(64, .iaload, 0, []), (65, .if_icmp .ge 34, 99, []), (68, .iload_n 2, 0, []), (69, .aload_n 0, 0, []), (70, .getfield 7, 320, []), (73, .bipush 80, 80, []), (75, .iload 4, 0, []), (77, .iadd, 0, []), (78, .iaload, 0, []), (79, .ishr, 0, []), (80, .iconst 1, 1, []), (81, .iand, 0, []), (82, .iconst 1, 1, []), (83, .if_icmp .ne 8, 91, []), (86, .iload 4, 0, []), (88, .goto 4, 92, []), (91, .iload_n 3, 0, []), (92, .istore_n 3, 0, []), (93, .iinc 4 1, 0, [])],
  [(96, .goto (-39), 57, []), (99, .iload_n 3, 0, []), (100, .ireturn, 0, [])]] -- X10_understood
def pC203 : List (List (Nat × pE)) := [[(0, .iconst 0, 0, []), (1, .istore_n 1, 0, []), (2, .iload_n 1, 0, []), (3, .aload_n 0, 0, []), (4, .getfield 7, 320, []), (7, .iconst 0, 0, []), (8, .iaload, 0, []), (9, .if_icmp .ge 27, 36, []), (12, .aload_n 0, 0, []), (13, .aload_n 0, 0, []), (14, .getfield 7, 320, []), (17, .bipush 80, 80, []), (19, .iload_n 1, 0, []), (20, .iadd, 0, []), (21, .iaload, 0, []), (22, .invokevirtual 171, 180, []), (25, .ifCond .eq 5, 30, []), (28, .iload_n 1, 0, []), (29, .ireturn, 0, []), (30, .iinc 1 1, 0, [])],
  [(33, .goto (-31), 2, []), (36, .aload_n 0, 0, []), (37, .iconst 2, 2, []), (38, .invokevirtual 116, 153, []), (41, .ireturn, 0, [])]] -- X10_flaw
def pC204 : List (List (Nat × pE)) := [[(0, .aload_n 0, 0, []), (1, .invokevirtual 182, 188, []), (4, .iconst 0, 0, []), (5, .istore_n 1, 0, []), (6, .iload_n 1, 0, []), (7, .aload_n 0, 0, []), (8, .getfield 7, 320, []), (11, .iconst 0, 0, []), (12, .iaload, 0, []), (13, .if_icmp .ge 33, 46, []), (16, .aload_n 0, 0, []), (17, .getfield 7, 320, []), (20, .bipush 80, 80, []), (22, .iload_n 1, 0, []), (23, .iadd, 0, []), (24, .aload_n 0, 0, []), (25, .getfield 22, 331, []), (28, .aload_n 0, 0, []), (29, .getfield 7, 320, [])],
  [(32, .iconst 0, 0, []), (33, .iaload, 0, []), (34, .iconst 1, 1, []), (35, .isub, 0, []), (36, .iload_n 1, 0, []), (37, .isub, 0, []), (38, .iaload, 0, []), (39, .iastore, 0, []), (40, .iinc 1 1, 0, []), (43, .goto (-37), 6, []), (46, .aload_n 0, 0, []), (47, .getfield 7, 320, []), (50, .iconst 0, 0, []), (51, .iaload, 0, []), (52, .ireturn, 0, [])]] -- X10_turn
def pC205 : List (List (Nat × pE)) := [[(0, .aload_n 0, 0, []), (1, .getfield 7, 320, []), (4, .iconst 0, 0, []), (5, .iaload, 0, []), (6, .iconst 2, 2, []), (7, .isub, 0, []), (8, .istore_n 1, 0, []), (9, .iload_n 1, 0, []), (10, .ifCond .lt 26, 36, []), (13, .aload_n 0, 0, []), (14, .getfield 22, 331, []), (17, .iload_n 1, 0, []), (18, .iaload, 0, []), (19, .aload_n 0, 0, []), (20, .getfield 22, 331, []), (23, .iload_n 1, 0, []), (24, .iconst 1, 1, []), (25, .iadd, 0, []), (26, .iaload, 0, []), (27, .if_icmp .le 9, 36, []), (30, .iinc 1 (-1), 0, [])],
  [(33, .goto (-24), 9, []), (36, .iload_n 1, 0, []), (37, .ifCond .ge 5, 42, []), (40, .iconst 0, 0, []), (41, .ireturn, 0, []), (42, .aload_n 0, 0, []), (43, .getfield 7, 320, []), (46, .iconst 0, 0, []), (47, .iaload, 0, []), (48, .iconst 1, 1, []), (49, .isub, 0, []), (50, .istore_n 2, 0, []), (51, .aload_n 0, 0, []), (52, .getfield 22, 331, []), (55, .iload_n 2, 0, []), (56, .iaload, 0, []), (57, .aload_n 0, 0, []), (58, .getfield 22, 331, []), (61, .iload_n 1, 0, []), (62, .iaload, 0, []), (63, .if_icmp .ge 9, 72, [])],
  [(66, .iinc 2 (-1), 0, []), (69, .goto (-18), 51, []), (72, .aload_n 0, 0, []), (73, .getfield 22, 331, []), (76, .iload_n 1, 0, []), (77, .iaload, 0, []), (78, .istore_n 3, 0, []), (79, .aload_n 0, 0, []), (80, .getfield 22, 331, []), (83, .iload_n 1, 0, []), (84, .aload_n 0, 0, []), (85, .getfield 22, 331, []), (88, .iload_n 2, 0, []), (89, .iaload, 0, []), (90, .iastore, 0, []), (91, .aload_n 0, 0, []), (92, .getfield 22, 331, []), (95, .iload_n 2, 0, [])],
  [(96, .iload_n 3, 0, []), (97, .iastore, 0, []), (98, .iload_n 1, 0, []), (99, .iconst 1, 1, []), (100, .iadd, 0, []), (101, .istore 4, 0, []), (103, .aload_n 0, 0, []), (104, .getfield 7, 320, []), (107, .iconst 0, 0, []), (108, .iaload, 0, []), (109, .iconst 1, 1, []), (110, .isub, 0, []), (111, .istore 5, 0, []), (113, .iload 4, 0, []), (115, .iload 5, 0, []), (117, .if_icmp .ge 42, 159, []), (120, .aload_n 0, 0, []), (121, .getfield 22, 331, []), (124, .iload 4, 0, []), (126, .iaload, 0, []), (127, .istore_n 3, 0, [])],
  [(128, .aload_n 0, 0, []), (129, .getfield 22, 331, []), (132, .iload 4, 0, []), (134, .aload_n 0, 0, []), (135, .getfield 22, 331, []), (138, .iload 5, 0, []), (140, .iaload, 0, []), (141, .iastore, 0, []), (142, .aload_n 0, 0, []), (143, .getfield 22, 331, []), (146, .iload 5, 0, []), (148, .iload_n 3, 0, []), (149, .iastore, 0, []), (150, .iinc 4 1, 0, []), (153, .iinc 5 (-1), 0, []), (156, .goto (-43), 113, []), (159, .iconst 1, 1, [])],
  [(160, .ireturn, 0, [])]] -- X10_nextRow
def pC206 : List (List (Nat × pE)) := [[(0, .aload_n 0, 0, []), (1, .invokevirtual 185, 189, []), (4, .iconst 0, 0, []), (5, .istore_n 3, 0, []), (6, .iload_n 3, 0, []), (7, .aload_n 0, 0, []), (8, .getfield 7, 320, []), (11, .iconst 0, 0, []), (12, .iaload, 0, []), (13, .if_icmp .ge 16, 29, []), (16, .aload_n 0, 0, []), (17, .getfield 22, 331, []), (20, .iload_n 3, 0, []), (21, .iload_n 3, 0, []), (22, .iastore, 0, []), (23, .iinc 3 1, 0, []), (26, .goto (-20), 6, []), (29, .aload_n 0, 0, []), (30, .iconst (-1), (-1), []), (31, .putfield 200, 335, [])],
  [(34, .aload_n 0, 0, []), (35, .iconst 0, 0, []), (36, .putfield 203, 336, []), (39, .iconst 1, 1, []), (40, .istore_n 3, 0, []), (41, .iload_n 3, 0, []), (42, .ifCond .eq 104, 146, []), (45, .iload_n 1, 0, []), (46, .ifCond .eq 10, 56, []), (49, .aload_n 0, 0, []), (50, .invokevirtual 191, 192, []), (53, .goto 7, 60, []), (56, .aload_n 0, 0, []), (57, .invokevirtual 188, 191, []), (60, .istore 4, 0, []), (62, .aload_n 0, 0, []), (63, .dup, 0, [])],
  [(64, .getfield 203, 336, []), (67, .iload 4, 0, []), (69, .iload_n 2, 0, []), (70, .if_icmp .gt 7, 77, []), (73, .iconst 1, 1, []), (74, .goto 4, 78, []), (77, .iconst 0, 0, []), (78, .iadd, 0, []), (79, .putfield 203, 336, []), (82, .aload_n 0, 0, []), (83, .getfield 200, 335, []), (86, .ifCond .lt 12, 98, []), (89, .iload 4, 0, []), (91, .aload_n 0, 0, []), (92, .getfield 200, 335, []), (95, .if_icmp .ge 43, 138, [])],
  [(98, .aload_n 0, 0, []), (99, .iload 4, 0, []), (101, .putfield 200, 335, []), (104, .iconst 0, 0, []), (105, .istore 5, 0, []), (107, .iload 5, 0, []), (109, .aload_n 0, 0, []), (110, .getfield 7, 320, []), (113, .iconst 0, 0, []), (114, .iaload, 0, []), (115, .if_icmp .ge 23, 138, []), (118, .aload_n 0, 0, []), (119, .getfield 31, 334, []), (122, .iload 5, 0, []), (124, .aload_n 0, 0, []), (125, .getfield 22, 331, [])],
  [(128, .iload 5, 0, []), (130, .iaload, 0, []), (131, .iastore, 0, []), (132, .iinc 5 1, 0, []), (135, .goto (-28), 107, []), (138, .aload_n 0, 0, []), (139, .invokevirtual 206, 205, []), (142, .istore_n 3, 0, []), (143, .goto (-102), 41, []), (146, .return_, 0, [])]] -- X10_goThrough
def pC207 : List (List (Nat × pE)) := [[(0, .iload_n 2, 0, []), (1, .i2l, 0, []), (2, .ldc2_w 210, (-1), []), (5, .ldc2_w 174, 6, []), (8, .invokestatic 53, 154, []), (11, .ifCond .ne 9, 20, []), (14, .aload_n 0, 0, []), (15, .iconst 1, 1, []), (16, .invokevirtual 116, 153, []), (19, .ireturn, 0, []), (20, .iload_n 2, 0, []), (21, .aload_n 0, 0, []), (22, .getfield 7, 320, []), (25, .iconst 0, 0, []), (26, .iaload, 0, []), (27, .if_icmp .lt 9, 36, []), (30, .aload_n 0, 0, []), (31, .iconst 2, 2, [])],
  [(32, .invokevirtual 116, 153, []), (35, .ireturn, 0, []), (36, .aload_n 0, 0, []), (37, .iload_n 1, 0, []), (38, .iconst 0, 0, []), (39, .invokevirtual 212, 206, []), (42, .iload_n 2, 0, []), (43, .ifCond .ge 10, 53, []), (46, .aload_n 0, 0, []), (47, .getfield 200, 335, []), (50, .goto 9, 59, []), (53, .aload_n 0, 0, []), (54, .getfield 31, 334, []), (57, .iload_n 2, 0, []), (58, .iaload, 0, []), (59, .ireturn, 0, [])]] -- X10_bestTold
def pC208 : List (List (Nat × pE)) := [[(0, .aload_n 0, 0, []), (1, .iconst 0, 0, []), (2, .iload_n 1, 0, []), (3, .invokevirtual 216, 207, []), (6, .ireturn, 0, [])]] -- X10_least
def pC209 : List (List (Nat × pE)) := [[(0, .aload_n 0, 0, []), (1, .iconst 1, 1, []), (2, .iload_n 1, 0, []), (3, .invokevirtual 216, 207, []), (6, .ireturn, 0, [])]] -- X10_fewest
def pC210 : List (List (Nat × pE)) := [[(0, .iload_n 1, 0, []), (1, .i2l, 0, []), (2, .lconst 0, 0, []), (3, .ldc2_w 220, 9999, []), (6, .invokestatic 53, 154, []), (9, .ifCond .ne 9, 18, []), (12, .aload_n 0, 0, []), (13, .iconst 1, 1, []), (14, .invokevirtual 116, 153, []), (17, .ireturn, 0, []), (18, .aload_n 0, 0, []), (19, .iconst 0, 0, []), (20, .iload_n 1, 0, []), (21, .invokevirtual 212, 206, []), (24, .aload_n 0, 0, []), (25, .getfield 203, 336, []), (28, .ireturn, 0, [])]] -- X10_orders
def pC211 : List (List (Nat × pE)) := [[(0, .iconst 0, 0, []), (1, .istore_n 1, 0, []), (2, .iload_n 1, 0, []), (3, .aload_n 0, 0, []), (4, .getfield 7, 320, []), (7, .iconst 0, 0, []), (8, .iaload, 0, []), (9, .if_icmp .ge 22, 31, []), (12, .aload_n 0, 0, []), (13, .getfield 34, 337, []), (16, .iload_n 1, 0, []), (17, .aload_n 0, 0, []), (18, .iload_n 1, 0, []), (19, .bipush 8, 8, []), (21, .invokevirtual 132, 157, []), (24, .iastore, 0, []), (25, .iinc 1 1, 0, []), (28, .goto (-26), 2, []), (31, .return_, 0, [])]] -- X10_keepWills
def pC212 : List (List (Nat × pE)) := [[(0, .iconst 0, 0, []), (1, .istore_n 1, 0, []), (2, .iload_n 1, 0, []), (3, .aload_n 0, 0, []), (4, .getfield 7, 320, []), (7, .iconst 0, 0, []), (8, .iaload, 0, []), (9, .if_icmp .ge 22, 31, []), (12, .aload_n 0, 0, []), (13, .iload_n 1, 0, []), (14, .bipush 8, 8, []), (16, .aload_n 0, 0, []), (17, .getfield 34, 337, []), (20, .iload_n 1, 0, []), (21, .iaload, 0, []), (22, .invokevirtual 155, 158, []), (25, .iinc 1 1, 0, []), (28, .goto (-26), 2, []), (31, .return_, 0, [])]] -- X10_putWillsBack
def pC213 : List (List (Nat × pE)) := [[(0, .iconst 0, 0, []), (1, .istore_n 1, 0, []), (2, .iconst 0, 0, []), (3, .istore_n 2, 0, []), (4, .iload_n 2, 0, []), (5, .aload_n 0, 0, []), (6, .getfield 7, 320, []), (9, .iconst 0, 0, []), (10, .iaload, 0, []), (11, .if_icmp .ge 28, 39, []), (14, .iload_n 1, 0, []), (15, .aload_n 0, 0, []), (16, .iload_n 2, 0, []), (17, .iconst 2, 2, []), (18, .invokevirtual 132, 157, []), (21, .ifCond .ne 9, 30, []), (24, .iconst 1, 1, []), (25, .iload_n 2, 0, []), (26, .ishl, 0, []), (27, .goto 4, 31, []), (30, .iconst 0, 0, []), (31, .ior, 0, [])],
  [(32, .istore_n 1, 0, []), (33, .iinc 2 1, 0, []), (36, .goto (-32), 4, []), (39, .iload_n 1, 0, []), (40, .ireturn, 0, [])]] -- X10_roots
def pC214 : List (List (Nat × pE)) := [[(0, .aload_n 0, 0, []), (1, .invokevirtual 222, 211, []), (4, .iconst 0, 0, []), (5, .istore_n 2, 0, []), (6, .iload_n 2, 0, []), (7, .aload_n 0, 0, []), (8, .getfield 7, 320, []), (11, .iconst 0, 0, []), (12, .iaload, 0, []), (13, .if_icmp .ge 28, 41, []), (16, .aload_n 0, 0, []), (17, .iload_n 2, 0, []), (18, .bipush 8, 8, []), (20, .aload_n 0, 0, []), (21, .getfield 34, 337, []), (24, .iload_n 2, 0, []), (25, .iaload, 0, []), (26, .iload_n 1, 0, []), (27, .iload_n 2, 0, []), (28, .ishr, 0, []), (29, .iconst 1, 1, []), (30, .iand, 0, []), (31, .ixor, 0, [])],
  [(32, .invokevirtual 155, 158, []), (35, .iinc 2 1, 0, []), (38, .goto (-32), 6, []), (41, .aload_n 0, 0, []), (42, .invokevirtual 143, 177, []), (45, .istore_n 2, 0, []), (46, .aload_n 0, 0, []), (47, .invokevirtual 225, 212, []), (50, .iload_n 2, 0, []), (51, .ireturn, 0, [])]] -- X10_comingBy
def pC215 : List (List (Nat × pE)) := [[(0, .aload_n 0, 0, []), (1, .iload_n 1, 0, []), (2, .invokevirtual 159, 156, []), (5, .ifCond .eq 23, 28, []), (8, .iload_n 2, 0, []), (9, .i2l, 0, []), (10, .lconst 0, 0, []), (11, .lconst 1, 0, []), (12, .invokestatic 53, 154, []), (15, .ifCond .eq 13, 28, []), (18, .iload_n 3, 0, []), (19, .i2l, 0, []), (20, .lconst 0, 0, []), (21, .lconst 1, 0, []), (22, .invokestatic 53, 154, []), (25, .ifCond .ne 9, 34, []), (28, .aload_n 0, 0, []), (29, .iconst 1, 1, []), (30, .invokevirtual 116, 153, [])],
  [(33, .ireturn, 0, []), (34, .aload_n 0, 0, []), (35, .invokevirtual 228, 213, []), (38, .istore 4, 0, []), (40, .iconst (-1), (-1), []), (41, .istore 5, 0, []), (43, .iconst 0, 0, []), (44, .istore 6, 0, []), (46, .iload 6, 0, []), (48, .iconst 1, 1, []), (49, .aload_n 0, 0, []), (50, .getfield 7, 320, []), (53, .iconst 0, 0, []), (54, .iaload, 0, []), (55, .ishl, 0, []), (56, .if_icmp .ge 67, 123, []), (59, .iload 6, 0, []), (61, .iload 4, 0, []), (63, .iconst (-1), (-1), [])],
  [(64, .ixor, 0, []), (65, .iand, 0, []), (66, .ifCond .ne 25, 91, []), (69, .iload 5, 0, []), (71, .ifCond .lt 16, 87, []), (74, .iload 6, 0, []), (76, .invokestatic 136, 159, []), (79, .iload 5, 0, []), (81, .invokestatic 136, 159, []), (84, .if_icmp .ge 7, 91, []), (87, .iconst 1, 1, []), (88, .goto 4, 92, []), (91, .iconst 0, 0, []), (92, .istore 7, 0, []), (94, .iload 7, 0, [])],
  [(96, .ifCond .eq 21, 117, []), (99, .aload_n 0, 0, []), (100, .iload 6, 0, []), (102, .invokevirtual 231, 214, []), (105, .iload_n 1, 0, []), (106, .ishr, 0, []), (107, .iconst 1, 1, []), (108, .iand, 0, []), (109, .iload_n 2, 0, []), (110, .if_icmp .ne 7, 117, []), (113, .iload 6, 0, []), (115, .istore 5, 0, []), (117, .iinc 6 1, 0, []), (120, .goto (-74), 46, []), (123, .iload 5, 0, []), (125, .ifCond .ge 11, 136, [])],
  [(128, .aload_n 0, 0, []), (129, .iconst 2, 2, []), (130, .invokevirtual 116, 153, []), (133, .goto 17, 150, []), (136, .iload_n 3, 0, []), (137, .ifCond .ne 11, 148, []), (140, .iload 5, 0, []), (142, .invokestatic 136, 159, []), (145, .goto 5, 150, []), (148, .iload 5, 0, []), (150, .ireturn, 0, [])]] -- X10_mended
def pC216 : List (List (Nat × pE)) := [[(0, .iconst 0, 0, []), (1, .istore_n 2, 0, []), (2, .iconst 0, 0, []), (3, .istore_n 3, 0, []), (4, .iload_n 3, 0, []), (5, .iload_n 1, 0, []), (6, .if_icmp .ge 23, 29, []), (9, .iload_n 2, 0, []), (10, .iconst 1, 1, []), (11, .aload_n 0, 0, []), (12, .getfield 7, 320, []), (15, .bipush 80, 80, []), (17, .iload_n 3, 0, []), (18, .iadd, 0, []), (19, .iaload, 0, []), (20, .ishl, 0, []), (21, .ior, 0, []), (22, .istore_n 2, 0, []), (23, .iinc 3 1, 0, []), (26, .goto (-22), 4, []), (29, .aload_n 0, 0, []), (30, .invokevirtual 228, 213, [])],
  [(33, .istore_n 3, 0, []), (34, .aload_n 0, 0, []), (35, .invokevirtual 143, 177, []), (38, .istore 4, 0, []), (40, .iconst 0, 0, []), (41, .istore 5, 0, []), (43, .iconst 0, 0, []), (44, .istore 6, 0, []), (46, .iload 6, 0, []), (48, .iconst 1, 1, []), (49, .aload_n 0, 0, []), (50, .getfield 7, 320, []), (53, .iconst 0, 0, []), (54, .iaload, 0, []), (55, .ishl, 0, []), (56, .if_icmp .ge 42, 98, []), (59, .iload 6, 0, []), (61, .iload_n 3, 0, []), (62, .iconst (-1), (-1), []), (63, .ixor, 0, [])],
  [(64, .iand, 0, []), (65, .ifCond .ne 27, 92, []), (68, .iload 5, 0, []), (70, .aload_n 0, 0, []), (71, .iload 6, 0, []), (73, .invokevirtual 231, 214, []), (76, .iload 4, 0, []), (78, .ixor, 0, []), (79, .iload_n 2, 0, []), (80, .iand, 0, []), (81, .ifCond .ne 7, 88, []), (84, .iconst 1, 1, []), (85, .goto 4, 89, []), (88, .iconst 0, 0, []), (89, .iadd, 0, []), (90, .istore 5, 0, []), (92, .iinc 6 1, 0, []), (95, .goto (-49), 46, [])],
  [(98, .iload 5, 0, []), (100, .ireturn, 0, [])]] -- X10_thoughts
def pC217 : List (List (Nat × pE)) := [[(0, .iload_n 1, 0, []), (1, .i2l, 0, []), (2, .lconst 0, 0, []), (3, .aload_n 0, 0, []), (4, .getfield 7, 320, []), (7, .iconst 0, 0, []), (8, .iaload, 0, []), (9, .i2l, 0, []), (10, .invokestatic 53, 154, []), (13, .ifCond .eq 11, 24, []), (16, .aload_n 0, 0, []), (17, .iload_n 1, 0, []), (18, .invokevirtual 234, 216, []), (21, .goto 8, 29, []), (24, .aload_n 0, 0, []), (25, .iconst 1, 1, []), (26, .invokevirtual 116, 153, []), (29, .ireturn, 0, [])]] -- X10_thought
def pC218 : List (List (Nat × pE)) := [[(0, .iconst 0, 0, []), (1, .istore_n 1, 0, []), (2, .iload_n 1, 0, []), (3, .aload_n 0, 0, []), (4, .getfield 7, 320, []), (7, .iconst 0, 0, []), (8, .iaload, 0, []), (9, .if_icmp .gt 20, 29, []), (12, .aload_n 0, 0, []), (13, .iload_n 1, 0, []), (14, .invokevirtual 234, 216, []), (17, .iconst 1, 1, []), (18, .if_icmp .ne 5, 23, []), (21, .iload_n 1, 0, []), (22, .ireturn, 0, []), (23, .iinc 1 1, 0, []), (26, .goto (-24), 2, []), (29, .aload_n 0, 0, []), (30, .iconst 2, 2, []), (31, .invokevirtual 116, 153, [])],
  [(34, .ireturn, 0, [])]] -- X10_sure
def pC219 : List (List (Nat × pE)) := [[(0, .aload_n 0, 0, []), (1, .iload_n 1, 0, []), (2, .invokevirtual 159, 156, []), (5, .ifCond .eq 23, 28, []), (8, .iload_n 2, 0, []), (9, .i2l, 0, []), (10, .lconst 0, 0, []), (11, .iconst 1, 1, []), (12, .aload_n 0, 0, []), (13, .getfield 7, 320, []), (16, .iconst 0, 0, []), (17, .iaload, 0, []), (18, .ishl, 0, []), (19, .iconst 1, 1, []), (20, .isub, 0, []), (21, .i2l, 0, []), (22, .invokestatic 53, 154, []), (25, .ifCond .ne 9, 34, []), (28, .aload_n 0, 0, []), (29, .iconst 1, 1, []), (30, .invokevirtual 116, 153, [])],
  [(33, .ireturn, 0, []), (34, .aload_n 0, 0, []), (35, .iload_n 1, 0, []), (36, .iconst 0, 0, []), (37, .invokevirtual 132, 157, []), (40, .istore_n 3, 0, []), (41, .iconst (-1), (-1), []), (42, .istore 4, 0, []), (44, .bipush 6, 6, []), (46, .istore 5, 0, []), (48, .iload 5, 0, []), (50, .ifCond .lt 34, 84, []), (53, .aload_n 0, 0, []), (54, .iload_n 1, 0, []), (55, .iconst 0, 0, []), (56, .iload 5, 0, []), (58, .invokevirtual 155, 158, []), (61, .aload_n 0, 0, []), (62, .invokevirtual 143, 177, [])],
  [(65, .iload_n 2, 0, []), (66, .if_icmp .ne 8, 74, []), (69, .iload 5, 0, []), (71, .goto 5, 76, []), (74, .iload 4, 0, []), (76, .istore 4, 0, []), (78, .iinc 5 (-1), 0, []), (81, .goto (-33), 48, []), (84, .aload_n 0, 0, []), (85, .iload_n 1, 0, []), (86, .iconst 0, 0, []), (87, .iload_n 3, 0, []), (88, .invokevirtual 155, 158, []), (91, .iload 4, 0, []), (93, .ifCond .ge 11, 104, [])],
  [(96, .aload_n 0, 0, []), (97, .iconst 2, 2, []), (98, .invokevirtual 116, 153, []), (101, .goto 5, 106, []), (104, .iload 4, 0, []), (106, .ireturn, 0, [])]] -- X10_explained
def pC220 : List (List (Nat × pE)) := [[(0, .aload_n 0, 0, []), (1, .getfield 7, 320, []), (4, .iconst 3, 3, []), (5, .aload_n 0, 0, []), (6, .getfield 7, 320, []), (9, .iconst 3, 3, []), (10, .iaload, 0, []), (11, .aload_n 0, 0, []), (12, .iconst 1, 1, []), (13, .aload_n 0, 0, []), (14, .invokevirtual 237, 193, []), (17, .aload_n 0, 0, []), (18, .invokevirtual 240, 194, []), (21, .aload_n 0, 0, []), (22, .invokevirtual 243, 195, []), (25, .invokevirtual 128, 173, []), (28, .iadd, 0, []), (29, .ldc 246, (-99999), []), (31, .ldc 247, 99999, [])],
  [(33, .invokestatic 125, 155, []), (36, .iastore, 0, []), (37, .aload_n 0, 0, []), (38, .getfield 7, 320, []), (41, .iconst 4, 4, []), (42, .dup2, 0, []), (43, .iaload, 0, []), (44, .iconst 1, 1, []), (45, .iadd, 0, []), (46, .iastore, 0, []), (47, .return_, 0, [])]] -- X10_evening
def pC221 : List (List (Nat × pE)) := [[(0, .iload_n 1, 0, []), (1, .i2l, 0, []), (2, .lconst 1, 0, []), (3, .ldc2_w 248, 200, []), (6, .invokestatic 53, 154, []), (9, .ifCond .ne 9, 18, []), (12, .aload_n 0, 0, []), (13, .iconst 1, 1, []), (14, .invokevirtual 116, 153, []), (17, .ireturn, 0, []), (18, .aload_n 0, 0, []), (19, .getfield 7, 320, []), (22, .iconst 4, 4, []), (23, .iaload, 0, []), (24, .iload_n 1, 0, []), (25, .iadd, 0, []), (26, .sipush 9999, 9999, []), (29, .if_icmp .le 9, 38, [])],
  [(32, .aload_n 0, 0, []), (33, .iconst 3, 3, []), (34, .invokevirtual 116, 153, []), (37, .ireturn, 0, []), (38, .iconst 0, 0, []), (39, .istore_n 2, 0, []), (40, .iload_n 2, 0, []), (41, .iload_n 1, 0, []), (42, .if_icmp .ge 13, 55, []), (45, .aload_n 0, 0, []), (46, .invokevirtual 250, 220, []), (49, .iinc 2 1, 0, []), (52, .goto (-12), 40, []), (55, .aload_n 0, 0, []), (56, .getfield 7, 320, []), (59, .iconst 3, 3, []), (60, .iaload, 0, []), (61, .ireturn, 0, [])]] -- X10_evenings
def pC222 : List (List (Nat × pE)) := [[(0, .aload_n 0, 0, []), (1, .getfield 7, 320, []), (4, .iconst 1, 1, []), (5, .aload_n 0, 0, []), (6, .getfield 7, 320, []), (9, .iconst 1, 1, []), (10, .iaload, 0, []), (11, .ldc 253, 1103515245, []), (13, .imul, 0, []), (14, .sipush 12345, 12345, []), (17, .iadd, 0, []), (18, .iastore, 0, []), (19, .aload_n 0, 0, []), (20, .getfield 7, 320, []), (23, .iconst 1, 1, []), (24, .iaload, 0, []), (25, .bipush 8, 8, []), (27, .iushr, 0, []), (28, .ireturn, 0, [])]] -- X10_drawn
def pC223 : List (List (Nat × pE)) := [[(0, .iload_n 1, 0, []), (1, .i2l, 0, []), (2, .lconst 1, 0, []), (3, .ldc2_w 248, 200, []), (6, .invokestatic 53, 154, []), (9, .ifCond .ne 9, 18, []), (12, .aload_n 0, 0, []), (13, .iconst 1, 1, []), (14, .invokevirtual 116, 153, []), (17, .ireturn, 0, []), (18, .aload_n 0, 0, []), (19, .getfield 7, 320, []), (22, .iconst 4, 4, []), (23, .iaload, 0, []), (24, .iload_n 1, 0, []), (25, .iadd, 0, []), (26, .sipush 9999, 9999, []), (29, .if_icmp .le 9, 38, [])],
  [(32, .aload_n 0, 0, []), (33, .iconst 3, 3, []), (34, .invokevirtual 116, 153, []), (37, .ireturn, 0, []), (38, .iconst 0, 0, []), (39, .istore_n 2, 0, []), (40, .iload_n 2, 0, []), (41, .iload_n 1, 0, []), (42, .if_icmp .ge 81, 123, []), (45, .aload_n 0, 0, []), (46, .getfield 7, 320, []), (49, .iconst 0, 0, []), (50, .iaload, 0, []), (51, .iconst 1, 1, []), (52, .if_icmp .le 61, 113, []), (55, .aload_n 0, 0, []), (56, .invokevirtual 254, 222, []), (59, .aload_n 0, 0, []), (60, .getfield 7, 320, []), (63, .iconst 0, 0, [])],
  [(64, .iaload, 0, []), (65, .iconst 1, 1, []), (66, .isub, 0, []), (67, .irem, 0, []), (68, .istore_n 3, 0, []), (69, .aload_n 0, 0, []), (70, .getfield 7, 320, []), (73, .bipush 80, 80, []), (75, .iload_n 3, 0, []), (76, .iadd, 0, []), (77, .iaload, 0, []), (78, .istore 4, 0, []), (80, .aload_n 0, 0, []), (81, .getfield 7, 320, []), (84, .bipush 80, 80, []), (86, .iload_n 3, 0, []), (87, .iadd, 0, []), (88, .aload_n 0, 0, []), (89, .getfield 7, 320, []), (92, .bipush 80, 80, []), (94, .iload_n 3, 0, []), (95, .iadd, 0, [])],
  [(96, .iconst 1, 1, []), (97, .iadd, 0, []), (98, .iaload, 0, []), (99, .iastore, 0, []), (100, .aload_n 0, 0, []), (101, .getfield 7, 320, []), (104, .bipush 80, 80, []), (106, .iload_n 3, 0, []), (107, .iadd, 0, []), (108, .iconst 1, 1, []), (109, .iadd, 0, []), (110, .iload 4, 0, []), (112, .iastore, 0, []), (113, .aload_n 0, 0, []), (114, .invokevirtual 250, 220, []), (117, .iinc 2 1, 0, []), (120, .goto (-80), 40, []), (123, .aload_n 0, 0, []), (124, .getfield 7, 320, []), (127, .iconst 3, 3, [])],
  [(128, .iaload, 0, []), (129, .ireturn, 0, [])]] -- X10_loose
def pC224 : List (List (Nat × pE)) := [[(0, .aload_n 0, 0, []), (1, .getfield 7, 320, []), (4, .iconst 1, 1, []), (5, .iaload, 0, []), (6, .istore_n 2, 0, []), (7, .aload_n 0, 0, []), (8, .getfield 7, 320, []), (11, .iconst 1, 1, []), (12, .iload_n 1, 0, []), (13, .iastore, 0, []), (14, .iload_n 2, 0, []), (15, .ireturn, 0, [])]] -- X10_seed
def pC225 : List (List (Nat × pE)) := [[(0, .aload_n 0, 0, []), (1, .getfield 257, 339, []), (4, .bipush 40, 40, []), (6, .if_icmp .ge 23, 29, []), (9, .aload_n 0, 0, []), (10, .getfield 37, 338, []), (13, .aload_n 0, 0, []), (14, .getfield 257, 339, []), (17, .iload_n 1, 0, []), (18, .iastore, 0, []), (19, .aload_n 0, 0, []), (20, .dup, 0, []), (21, .getfield 257, 339, []), (24, .iconst 1, 1, []), (25, .iadd, 0, []), (26, .putfield 257, 339, []), (29, .return_, 0, [])]] -- X10_ran
def pC226 : List (List (Nat × pE)) := [[(0, .aload_n 0, 0, []), (1, .aload_n 0, 0, []), (2, .getfield 260, 340, []), (5, .iconst 0, 0, []), (6, .invokevirtual 132, 157, []), (9, .ireturn, 0, [])]] -- X10_own
def pC227 : List (List (Nat × pE)) := [[(0, .iload_n 1, 0, []), (1, .lookupswitch 58 #[(0, 27), (2, 40)], 59, [(0, 28), (2, 41)]), (28, .aload_n 0, 0, []), (29, .bipush 10, 10, []), (31, .invokevirtual 263, 225, [])],
  [(34, .iload_n 2, 0, []), (35, .aload_n 0, 0, []), (36, .getfield 260, 340, []), (39, .iadd, 0, []), (40, .ireturn, 0, []), (41, .aload_n 0, 0, []), (42, .bipush 30, 30, []), (44, .invokevirtual 263, 225, []), (47, .aload_n 0, 0, []), (48, .iconst 2, 2, []), (49, .invokestatic 176, 175, []), (52, .iload_n 2, 0, []), (53, .invokevirtual 267, 227, []), (56, .iconst 3, 3, []), (57, .imul, 0, []), (58, .ireturn, 0, []), (59, .aload_n 0, 0, []), (60, .iload_n 1, 0, []), (61, .invokestatic 176, 175, [])],
  [(64, .iload_n 2, 0, []), (65, .invokevirtual 267, 227, []), (68, .ireturn, 0, [])]] -- X10_opensBy
def pC228 : List (List (Nat × pE)) := [[(0, .iload_n 1, 0, []), (1, .tableswitch 99 0 4 #[35, 53, 99, 99, 81], 100, [(0, 36), (1, 54), (2, 100), (3, 100), (4, 82)])],
  [(36, .aload_n 0, 0, []), (37, .bipush 11, 11, []), (39, .invokevirtual 263, 225, []), (42, .aload_n 0, 0, []), (43, .aload_n 0, 0, []), (44, .invokevirtual 270, 226, []), (47, .iload_n 2, 0, []), (48, .invokevirtual 267, 227, []), (51, .iconst 2, 2, []), (52, .imul, 0, []), (53, .ireturn, 0, []), (54, .aload_n 0, 0, []), (55, .bipush 20, 20, []), (57, .invokevirtual 263, 225, []), (60, .aload_n 0, 0, []), (61, .iconst 1, 1, []), (62, .invokestatic 176, 175, [])],
  [(65, .iload_n 2, 0, []), (66, .invokevirtual 273, 228, []), (69, .istore_n 3, 0, []), (70, .iload_n 3, 0, []), (71, .aload_n 0, 0, []), (72, .aload_n 0, 0, []), (73, .invokevirtual 270, 226, []), (76, .iconst 1, 1, []), (77, .invokevirtual 276, 229, []), (80, .isub, 0, []), (81, .ireturn, 0, []), (82, .aload_n 0, 0, []), (83, .bipush 50, 50, []), (85, .invokevirtual 263, 225, []), (88, .aload_n 0, 0, []), (89, .iconst 4, 4, []), (90, .invokestatic 176, 175, []), (93, .iload_n 2, 0, []), (94, .iconst 1, 1, []), (95, .iadd, 0, [])],
  [(96, .invokevirtual 273, 228, []), (99, .ireturn, 0, []), (100, .aload_n 0, 0, []), (101, .iload_n 1, 0, []), (102, .invokestatic 176, 175, []), (105, .iload_n 2, 0, []), (106, .invokevirtual 273, 228, []), (109, .ireturn, 0, [])]] -- X10_playsBy
def pC229 : List (List (Nat × pE)) := [[(0, .iload_n 1, 0, []), (1, .lookupswitch 92 #[(0, 35), (3, 53), (6, 70)], 93, [(0, 36), (3, 54), (6, 71)])],
  [(36, .aload_n 0, 0, []), (37, .bipush 12, 12, []), (39, .invokevirtual 263, 225, []), (42, .iload_n 2, 0, []), (43, .aload_n 0, 0, []), (44, .aload_n 0, 0, []), (45, .getfield 260, 340, []), (48, .iconst 1, 1, []), (49, .invokevirtual 132, 157, []), (52, .isub, 0, []), (53, .ireturn, 0, []), (54, .aload_n 0, 0, []), (55, .bipush 40, 40, []), (57, .invokevirtual 263, 225, []), (60, .aload_n 0, 0, []), (61, .iconst 3, 3, []), (62, .invokestatic 176, 175, [])],
  [(65, .iload_n 2, 0, []), (66, .invokevirtual 276, 229, []), (69, .ineg, 0, []), (70, .ireturn, 0, []), (71, .aload_n 0, 0, []), (72, .bipush 70, 70, []), (74, .invokevirtual 263, 225, []), (77, .aload_n 0, 0, []), (78, .bipush 6, 6, []), (80, .invokestatic 176, 175, []), (83, .iload_n 2, 0, []), (84, .invokevirtual 276, 229, []), (87, .aload_n 0, 0, []), (88, .getfield 260, 340, []), (91, .ixor, 0, []), (92, .ireturn, 0, []), (93, .aload_n 0, 0, []), (94, .iload_n 1, 0, []), (95, .invokestatic 176, 175, [])],
  [(98, .iload_n 2, 0, []), (99, .invokevirtual 276, 229, []), (102, .ireturn, 0, [])]] -- X10_closesBy
def pC230 : List (List (Nat × pE)) := [[(0, .iload_n 1, 0, []), (1, .lookupswitch 120 #[(0, 35), (5, 63), (6, 91)], 121, [(0, 36), (5, 64), (6, 92)])],
  [(36, .aload_n 0, 0, []), (37, .bipush 13, 13, []), (39, .invokevirtual 263, 225, []), (42, .aload_n 0, 0, []), (43, .aload_n 0, 0, []), (44, .invokevirtual 270, 226, []), (47, .iload_n 2, 0, []), (48, .invokevirtual 273, 228, []), (51, .istore_n 3, 0, []), (52, .iload_n 3, 0, []), (53, .aload_n 0, 0, []), (54, .aload_n 0, 0, []), (55, .invokevirtual 270, 226, []), (58, .iload_n 2, 0, []), (59, .invokevirtual 276, 229, []), (62, .ixor, 0, []), (63, .ireturn, 0, [])],
  [(64, .aload_n 0, 0, []), (65, .bipush 60, 60, []), (67, .invokevirtual 263, 225, []), (70, .aload_n 0, 0, []), (71, .iconst 5, 5, []), (72, .invokestatic 176, 175, []), (75, .iload_n 2, 0, []), (76, .invokevirtual 279, 230, []), (79, .istore_n 3, 0, []), (80, .iload_n 3, 0, []), (81, .aload_n 0, 0, []), (82, .aload_n 0, 0, []), (83, .invokevirtual 270, 226, []), (86, .iconst 2, 2, []), (87, .invokevirtual 267, 227, []), (90, .isub, 0, []), (91, .ireturn, 0, []), (92, .aload_n 0, 0, []), (93, .bipush 71, 71, []), (95, .invokevirtual 263, 225, [])],
  [(98, .aload_n 0, 0, []), (99, .aload_n 0, 0, []), (100, .invokevirtual 270, 226, []), (103, .iload_n 2, 0, []), (104, .invokevirtual 273, 228, []), (107, .istore_n 3, 0, []), (108, .iload_n 3, 0, []), (109, .aload_n 0, 0, []), (110, .bipush 6, 6, []), (112, .invokestatic 176, 175, []), (115, .iload_n 2, 0, []), (116, .invokevirtual 279, 230, []), (119, .isub, 0, []), (120, .ireturn, 0, []), (121, .aload_n 0, 0, []), (122, .iload_n 1, 0, []), (123, .invokestatic 176, 175, []), (126, .iload_n 2, 0, []), (127, .invokevirtual 279, 230, [])],
  [(130, .ireturn, 0, [])]] -- X10_tellsBy
def pC231 : List (List (Nat × pE)) := [[(0, .aload_n 0, 0, []), (1, .iload_n 1, 0, []), (2, .invokevirtual 159, 156, []), (5, .ifCond .eq 15, 20, []), (8, .iload_n 2, 0, []), (9, .i2l, 0, []), (10, .lconst 0, 0, []), (11, .ldc2_w 282, 3, []), (14, .invokestatic 53, 154, []), (17, .ifCond .ne 9, 26, []), (20, .aload_n 0, 0, []), (21, .iconst 1, 1, []), (22, .invokevirtual 116, 153, []), (25, .ireturn, 0, []), (26, .aload_n 0, 0, []), (27, .iconst 0, 0, []), (28, .putfield 257, 339, []), (31, .aload_n 0, 0, [])],
  [(32, .iload_n 1, 0, []), (33, .putfield 260, 340, []), (36, .aload_n 0, 0, []), (37, .invokevirtual 270, 226, []), (40, .istore 4, 0, []), (42, .iload_n 2, 0, []), (43, .ifCond .ne 13, 56, []), (46, .aload_n 0, 0, []), (47, .iload 4, 0, []), (49, .iload_n 3, 0, []), (50, .invokevirtual 267, 227, []), (53, .goto 40, 93, []), (56, .iload_n 2, 0, []), (57, .iconst 1, 1, []), (58, .if_icmp .ne 13, 71, []), (61, .aload_n 0, 0, []), (62, .iload 4, 0, [])],
  [(64, .iload_n 3, 0, []), (65, .invokevirtual 273, 228, []), (68, .goto 25, 93, []), (71, .iload_n 2, 0, []), (72, .iconst 2, 2, []), (73, .if_icmp .ne 13, 86, []), (76, .aload_n 0, 0, []), (77, .iload 4, 0, []), (79, .iload_n 3, 0, []), (80, .invokevirtual 276, 229, []), (83, .goto 10, 93, []), (86, .aload_n 0, 0, []), (87, .iload 4, 0, []), (89, .iload_n 3, 0, []), (90, .invokevirtual 279, 230, []), (93, .ireturn, 0, [])]] -- X10_voice
def pC232 : List (List (Nat × pE)) := [[(0, .iload_n 1, 0, []), (1, .i2l, 0, []), (2, .lconst 0, 0, []), (3, .aload_n 0, 0, []), (4, .getfield 257, 339, []), (7, .iconst 1, 1, []), (8, .isub, 0, []), (9, .i2l, 0, []), (10, .invokestatic 53, 154, []), (13, .ifCond .eq 12, 25, []), (16, .aload_n 0, 0, []), (17, .getfield 37, 338, []), (20, .iload_n 1, 0, []), (21, .iaload, 0, []), (22, .goto 8, 30, []), (25, .aload_n 0, 0, []), (26, .iconst 2, 2, []), (27, .invokevirtual 116, 153, []), (30, .ireturn, 0, [])]] -- X10_trace
def pC233 : List (List (Nat × pE)) := [[(0, .iload_n 0, 0, []), (1, .i2l, 0, []), (2, .lconst 0, 0, []), (3, .ldc2_w 282, 3, []), (6, .invokestatic 53, 154, []), (9, .ireturn, 0, [])]] -- X10_isSheet
def pC234 : List (List (Nat × pE)) := [[(0, .iload_n 1, 0, []), (1, .invokestatic 284, 233, []), (4, .ifCond .eq 25, 29, []), (7, .iload_n 2, 0, []), (8, .ifCond .eq 27, 35, []), (11, .iload_n 2, 0, []), (12, .bipush 8, 8, []), (14, .if_icmp .eq 21, 35, []), (17, .iload_n 2, 0, []), (18, .bipush 16, 16, []), (20, .if_icmp .eq 15, 35, []), (23, .iload_n 2, 0, []), (24, .bipush 32, 32, []), (26, .if_icmp .eq 9, 35, []), (29, .aload_n 0, 0, []), (30, .iconst 1, 1, []), (31, .invokevirtual 116, 153, [])],
  [(34, .ireturn, 0, []), (35, .iload_n 2, 0, []), (36, .ifCond .eq 13, 49, []), (39, .iload_n 3, 0, []), (40, .ifCond .ge 9, 49, []), (43, .aload_n 0, 0, []), (44, .iconst 3, 3, []), (45, .invokevirtual 116, 153, []), (48, .ireturn, 0, []), (49, .iload_n 2, 0, []), (50, .ifCond .eq 15, 65, []), (53, .iload_n 3, 0, []), (54, .bipush 40, 40, []), (56, .if_icmp .le 9, 65, []), (59, .aload_n 0, 0, []), (60, .iconst 1, 1, []), (61, .invokevirtual 116, 153, [])],
  [(64, .ireturn, 0, []), (65, .aload_n 0, 0, []), (66, .getfield 40, 341, []), (69, .iload_n 1, 0, []), (70, .iload_n 2, 0, []), (71, .iastore, 0, []), (72, .aload_n 0, 0, []), (73, .getfield 43, 342, []), (76, .iload_n 1, 0, []), (77, .iload_n 2, 0, []), (78, .ifCond .ne 7, 85, []), (81, .iconst 0, 0, []), (82, .goto 4, 86, []), (85, .iload_n 3, 0, []), (86, .iastore, 0, []), (87, .iconst 0, 0, []), (88, .istore 4, 0, []), (90, .iload 4, 0, []), (92, .bipush 40, 40, []), (94, .if_icmp .ge 22, 116, [])],
  [(97, .aload_n 0, 0, []), (98, .getfield 46, 343, []), (101, .bipush 40, 40, []), (103, .iload_n 1, 0, []), (104, .imul, 0, []), (105, .iload 4, 0, []), (107, .iadd, 0, []), (108, .iconst 0, 0, []), (109, .iastore, 0, []), (110, .iinc 4 1, 0, []), (113, .goto (-23), 90, []), (116, .iconst 1, 1, []), (117, .ireturn, 0, [])]] -- X10_sheet
def pC235 : List (List (Nat × pE)) := [[(0, .iload_n 1, 0, []), (1, .invokestatic 284, 233, []), (4, .ifCond .ne 9, 13, []), (7, .aload_n 0, 0, []), (8, .iconst 1, 1, []), (9, .invokevirtual 116, 153, []), (12, .ireturn, 0, []), (13, .aload_n 0, 0, []), (14, .getfield 40, 341, []), (17, .iload_n 1, 0, []), (18, .iaload, 0, []), (19, .ifCond .ne 9, 28, []), (22, .aload_n 0, 0, []), (23, .iconst 2, 2, []), (24, .invokevirtual 116, 153, []), (27, .ireturn, 0, []), (28, .iload_n 2, 0, []), (29, .i2l, 0, []), (30, .lconst 0, 0, []), (31, .aload_n 0, 0, [])],
  [(32, .getfield 43, 342, []), (35, .iload_n 1, 0, []), (36, .iaload, 0, []), (37, .iconst 1, 1, []), (38, .isub, 0, []), (39, .i2l, 0, []), (40, .invokestatic 53, 154, []), (43, .ifCond .ne 9, 52, []), (46, .aload_n 0, 0, []), (47, .iconst 1, 1, []), (48, .invokevirtual 116, 153, []), (51, .ireturn, 0, []), (52, .aload_n 0, 0, []), (53, .getfield 46, 343, []), (56, .bipush 40, 40, []), (58, .iload_n 1, 0, []), (59, .imul, 0, []), (60, .iload_n 2, 0, []), (61, .iadd, 0, []), (62, .aload_n 0, 0, []), (63, .getfield 40, 341, [])],
  [(66, .iload_n 1, 0, []), (67, .iaload, 0, []), (68, .bipush 8, 8, []), (70, .if_icmp .ne 8, 78, []), (73, .iload_n 3, 0, []), (74, .i2b, 0, []), (75, .goto 20, 95, []), (78, .aload_n 0, 0, []), (79, .getfield 40, 341, []), (82, .iload_n 1, 0, []), (83, .iaload, 0, []), (84, .bipush 16, 16, []), (86, .if_icmp .ne 8, 94, []), (89, .iload_n 3, 0, []), (90, .i2s, 0, []), (91, .goto 4, 95, []), (94, .iload_n 3, 0, []), (95, .iastore, 0, [])],
  [(96, .iconst 1, 1, []), (97, .ireturn, 0, [])]] -- X10_put
def pC236 : List (List (Nat × pE)) := [[(0, .iload_n 1, 0, []), (1, .invokestatic 284, 233, []), (4, .ifCond .eq 10, 14, []), (7, .iload_n 3, 0, []), (8, .invokestatic 284, 233, []), (11, .ifCond .ne 9, 20, []), (14, .aload_n 0, 0, []), (15, .iconst 1, 1, []), (16, .invokevirtual 116, 153, []), (19, .ireturn, 0, []), (20, .aload_n 0, 0, []), (21, .getfield 40, 341, []), (24, .iload_n 1, 0, []), (25, .iaload, 0, []), (26, .ifCond .eq 12, 38, []), (29, .aload_n 0, 0, []), (30, .getfield 40, 341, [])],
  [(33, .iload_n 3, 0, []), (34, .iaload, 0, []), (35, .ifCond .ne 9, 44, []), (38, .aload_n 0, 0, []), (39, .iconst 2, 2, []), (40, .invokevirtual 116, 153, []), (43, .ireturn, 0, []), (44, .aload_n 0, 0, []), (45, .getfield 40, 341, []), (48, .iload_n 1, 0, []), (49, .iaload, 0, []), (50, .aload_n 0, 0, []), (51, .getfield 40, 341, []), (54, .iload_n 3, 0, []), (55, .iaload, 0, []), (56, .if_icmp .eq 9, 65, []), (59, .aload_n 0, 0, []), (60, .iconst 5, 5, []), (61, .invokevirtual 116, 153, [])],
  [(64, .ireturn, 0, []), (65, .iload 5, 0, []), (67, .ifCond .lt 39, 106, []), (70, .iload_n 2, 0, []), (71, .ifCond .lt 35, 106, []), (74, .iload 4, 0, []), (76, .ifCond .lt 30, 106, []), (79, .iload 5, 0, []), (81, .aload_n 0, 0, []), (82, .getfield 43, 342, []), (85, .iload_n 1, 0, []), (86, .iaload, 0, []), (87, .iload_n 2, 0, []), (88, .isub, 0, []), (89, .if_icmp .gt 17, 106, []), (92, .iload 5, 0, []), (94, .aload_n 0, 0, []), (95, .getfield 43, 342, [])],
  [(98, .iload_n 3, 0, []), (99, .iaload, 0, []), (100, .iload 4, 0, []), (102, .isub, 0, []), (103, .if_icmp .le 9, 112, []), (106, .aload_n 0, 0, []), (107, .iconst 1, 1, []), (108, .invokevirtual 116, 153, []), (111, .ireturn, 0, []), (112, .iconst 0, 0, []), (113, .istore 6, 0, []), (115, .iload 6, 0, []), (117, .iload 5, 0, []), (119, .if_icmp .ge 30, 149, []), (122, .aload_n 0, 0, []), (123, .getfield 49, 344, []), (126, .iload 6, 0, [])],
  [(128, .aload_n 0, 0, []), (129, .getfield 46, 343, []), (132, .bipush 40, 40, []), (134, .iload_n 1, 0, []), (135, .imul, 0, []), (136, .iload_n 2, 0, []), (137, .iadd, 0, []), (138, .iload 6, 0, []), (140, .iadd, 0, []), (141, .iaload, 0, []), (142, .iastore, 0, []), (143, .iinc 6 1, 0, []), (146, .goto (-31), 115, []), (149, .iconst 0, 0, []), (150, .istore 6, 0, []), (152, .iload 6, 0, []), (154, .iload 5, 0, []), (156, .if_icmp .ge 31, 187, []), (159, .aload_n 0, 0, [])],
  [(160, .getfield 46, 343, []), (163, .bipush 40, 40, []), (165, .iload_n 3, 0, []), (166, .imul, 0, []), (167, .iload 4, 0, []), (169, .iadd, 0, []), (170, .iload 6, 0, []), (172, .iadd, 0, []), (173, .aload_n 0, 0, []), (174, .getfield 49, 344, []), (177, .iload 6, 0, []), (179, .iaload, 0, []), (180, .iastore, 0, []), (181, .iinc 6 1, 0, []), (184, .goto (-32), 152, []), (187, .iload 5, 0, []), (189, .ireturn, 0, [])]] -- X10_move
def pC237 : List (List (Nat × pE)) := [[(0, .iconst 0, 0, []), (1, .istore_n 2, 0, []), (2, .aload_n 0, 0, []), (3, .getfield 43, 342, []), (6, .iload_n 1, 0, []), (7, .iaload, 0, []), (8, .aload_n 0, 0, []), (9, .getfield 7, 320, []), (12, .iconst 0, 0, []), (13, .iaload, 0, []), (14, .if_icmp .ne 7, 21, []), (17, .iconst 1, 1, []), (18, .goto 4, 22, []), (21, .iconst 0, 0, []), (22, .istore_n 3, 0, []), (23, .iconst 0, 0, []), (24, .istore 4, 0, []), (26, .iload 4, 0, []), (28, .aload_n 0, 0, []), (29, .getfield 43, 342, [])],
  [(32, .iload_n 1, 0, []), (33, .iaload, 0, []), (34, .if_icmp .ge 66, 100, []), (37, .iload_n 3, 0, []), (38, .ifCond .eq 62, 100, []), (41, .aload_n 0, 0, []), (42, .getfield 46, 343, []), (45, .bipush 40, 40, []), (47, .iload_n 1, 0, []), (48, .imul, 0, []), (49, .iload 4, 0, []), (51, .iadd, 0, []), (52, .iaload, 0, []), (53, .istore 5, 0, []), (55, .aload_n 0, 0, []), (56, .iload 5, 0, []), (58, .invokevirtual 159, 156, []), (61, .ifCond .eq 16, 77, [])],
  [(64, .iload_n 2, 0, []), (65, .iload 5, 0, []), (67, .ishr, 0, []), (68, .iconst 1, 1, []), (69, .iand, 0, []), (70, .ifCond .ne 7, 77, []), (73, .iconst 1, 1, []), (74, .goto 4, 78, []), (77, .iconst 0, 0, []), (78, .istore_n 3, 0, []), (79, .iload_n 2, 0, []), (80, .iload_n 3, 0, []), (81, .ifCond .eq 10, 91, []), (84, .iconst 1, 1, []), (85, .iload 5, 0, []), (87, .ishl, 0, []), (88, .goto 4, 92, []), (91, .iconst 0, 0, []), (92, .ior, 0, []), (93, .istore_n 2, 0, []), (94, .iinc 4 1, 0, [])],
  [(97, .goto (-71), 26, []), (100, .iload_n 3, 0, []), (101, .ireturn, 0, [])]] -- X10_areScenes
def pC238 : List (List (Nat × pE)) := [[(0, .iload_n 1, 0, []), (1, .invokestatic 284, 233, []), (4, .ifCond .ne 9, 13, []), (7, .aload_n 0, 0, []), (8, .iconst 1, 1, []), (9, .invokevirtual 116, 153, []), (12, .ireturn, 0, []), (13, .aload_n 0, 0, []), (14, .getfield 40, 341, []), (17, .iload_n 1, 0, []), (18, .iaload, 0, []), (19, .ifCond .ne 9, 28, []), (22, .aload_n 0, 0, []), (23, .iconst 2, 2, []), (24, .invokevirtual 116, 153, []), (27, .ireturn, 0, []), (28, .aload_n 0, 0, []), (29, .iload_n 1, 0, []), (30, .invokevirtual 287, 237, [])],
  [(33, .ifCond .ne 9, 42, []), (36, .aload_n 0, 0, []), (37, .iconst 3, 3, []), (38, .invokevirtual 116, 153, []), (41, .ireturn, 0, []), (42, .iconst 0, 0, []), (43, .istore_n 2, 0, []), (44, .iload_n 2, 0, []), (45, .aload_n 0, 0, []), (46, .getfield 7, 320, []), (49, .iconst 0, 0, []), (50, .iaload, 0, []), (51, .if_icmp .ge 29, 80, []), (54, .aload_n 0, 0, []), (55, .getfield 7, 320, []), (58, .bipush 80, 80, []), (60, .iload_n 2, 0, []), (61, .iadd, 0, []), (62, .aload_n 0, 0, []), (63, .getfield 46, 343, [])],
  [(66, .bipush 40, 40, []), (68, .iload_n 1, 0, []), (69, .imul, 0, []), (70, .iload_n 2, 0, []), (71, .iadd, 0, []), (72, .iaload, 0, []), (73, .iastore, 0, []), (74, .iinc 2 1, 0, []), (77, .goto (-33), 44, []), (80, .aload_n 0, 0, []), (81, .getfield 7, 320, []), (84, .iconst 0, 0, []), (85, .iaload, 0, []), (86, .ireturn, 0, [])]] -- X10_order
def pC239 : List (List (Nat × pE)) := [[(0, .iload_n 1, 0, []), (1, .invokestatic 284, 233, []), (4, .ifCond .ne 9, 13, []), (7, .aload_n 0, 0, []), (8, .iconst 1, 1, []), (9, .invokevirtual 116, 153, []), (12, .ireturn, 0, []), (13, .aload_n 0, 0, []), (14, .getfield 40, 341, []), (17, .iload_n 1, 0, []), (18, .iaload, 0, []), (19, .ifCond .ne 9, 28, []), (22, .aload_n 0, 0, []), (23, .iconst 2, 2, []), (24, .invokevirtual 116, 153, []), (27, .ireturn, 0, []), (28, .aload_n 0, 0, []), (29, .invokevirtual 143, 177, [])],
  [(32, .istore_n 2, 0, []), (33, .iconst 0, 0, []), (34, .istore_n 3, 0, []), (35, .iload_n 3, 0, []), (36, .aload_n 0, 0, []), (37, .getfield 43, 342, []), (40, .iload_n 1, 0, []), (41, .iaload, 0, []), (42, .if_icmp .ge 38, 80, []), (45, .iload_n 3, 0, []), (46, .aload_n 0, 0, []), (47, .getfield 7, 320, []), (50, .iconst 0, 0, []), (51, .iaload, 0, []), (52, .if_icmp .ge 28, 80, []), (55, .aload_n 0, 0, []), (56, .getfield 46, 343, []), (59, .bipush 40, 40, []), (61, .iload_n 1, 0, []), (62, .imul, 0, []), (63, .iload_n 3, 0, [])],
  [(64, .iadd, 0, []), (65, .iaload, 0, []), (66, .iload_n 2, 0, []), (67, .iload_n 3, 0, []), (68, .ishr, 0, []), (69, .iconst 1, 1, []), (70, .iand, 0, []), (71, .if_icmp .ne 9, 80, []), (74, .iinc 3 1, 0, []), (77, .goto (-42), 35, []), (80, .iload_n 3, 0, []), (81, .aload_n 0, 0, []), (82, .getfield 43, 342, []), (85, .iload_n 1, 0, []), (86, .iaload, 0, []), (87, .if_icmp .ne 17, 104, []), (90, .iload_n 3, 0, []), (91, .aload_n 0, 0, []), (92, .getfield 7, 320, []), (95, .iconst 0, 0, [])],
  [(96, .iaload, 0, []), (97, .if_icmp .ne 7, 104, []), (100, .iconst (-1), (-1), []), (101, .goto 4, 105, []), (104, .iload_n 3, 0, []), (105, .ireturn, 0, [])]] -- X10_judge
def pC240 : List (List (Nat × pE)) := [[(0, .iconst 0, 0, []), (1, .istore_n 1, 0, []), (2, .iload_n 1, 0, []), (3, .sipush 264, 264, []), (6, .if_icmp .ge 21, 27, []), (9, .aload_n 0, 0, []), (10, .getfield 13, 321, []), (13, .iload_n 1, 0, []), (14, .aload_n 0, 0, []), (15, .getfield 7, 320, []), (18, .iload_n 1, 0, []), (19, .iaload, 0, []), (20, .iastore, 0, []), (21, .iinc 1 1, 0, []), (24, .goto (-22), 2, []), (27, .aload_n 0, 0, []), (28, .dup, 0, []), (29, .getfield 290, 322, [])],
  [(32, .iconst 1, 1, []), (33, .iadd, 0, []), (34, .putfield 290, 322, []), (37, .aload_n 0, 0, []), (38, .getfield 290, 322, []), (41, .ireturn, 0, [])]] -- X10_image
def pC241 : List (List (Nat × pE)) := [[(0, .aload_n 0, 0, []), (1, .getfield 290, 322, []), (4, .ifCond .ne 9, 13, []), (7, .aload_n 0, 0, []), (8, .iconst 2, 2, []), (9, .invokevirtual 116, 153, []), (12, .ireturn, 0, []), (13, .iconst 0, 0, []), (14, .istore_n 1, 0, []), (15, .iload_n 1, 0, []), (16, .sipush 264, 264, []), (19, .if_icmp .ge 21, 40, []), (22, .aload_n 0, 0, []), (23, .getfield 7, 320, []), (26, .iload_n 1, 0, []), (27, .aload_n 0, 0, []), (28, .getfield 13, 321, []), (31, .iload_n 1, 0, [])],
  [(32, .iaload, 0, []), (33, .iastore, 0, []), (34, .iinc 1 1, 0, []), (37, .goto (-22), 15, []), (40, .aload_n 0, 0, []), (41, .getfield 7, 320, []), (44, .iconst 4, 4, []), (45, .iaload, 0, []), (46, .ireturn, 0, [])]] -- X10_restore
def pC242 : List (List (Nat × pE)) := [[(0, .aload_n 0, 0, []), (1, .getfield 7, 320, []), (4, .bipush 6, 6, []), (6, .iaload, 0, []), (7, .bipush 20, 20, []), (9, .if_icmp .ne 9, 18, []), (12, .aload_n 0, 0, []), (13, .iconst 4, 4, []), (14, .invokevirtual 116, 153, []), (17, .ireturn, 0, []), (18, .aload_n 0, 0, []), (19, .getfield 7, 320, []), (22, .bipush 92, 92, []), (24, .aload_n 0, 0, []), (25, .getfield 7, 320, []), (28, .bipush 6, 6, []), (30, .iaload, 0, []), (31, .iadd, 0, [])],
  [(32, .iload_n 1, 0, []), (33, .iastore, 0, []), (34, .aload_n 0, 0, []), (35, .getfield 7, 320, []), (38, .bipush 6, 6, []), (40, .dup2, 0, []), (41, .iaload, 0, []), (42, .iconst 1, 1, []), (43, .iadd, 0, []), (44, .iastore, 0, []), (45, .aload_n 0, 0, []), (46, .getfield 7, 320, []), (49, .bipush 6, 6, []), (51, .iaload, 0, []), (52, .ireturn, 0, [])]] -- X10_tell
def pC243 : List (List (Nat × pE)) := [[(0, .aload_n 0, 0, []), (1, .getfield 7, 320, []), (4, .bipush 6, 6, []), (6, .iaload, 0, []), (7, .istore_n 1, 0, []), (8, .aload_n 0, 0, []), (9, .getfield 7, 320, []), (12, .bipush 6, 6, []), (14, .iconst 0, 0, []), (15, .iastore, 0, []), (16, .iconst 0, 0, []), (17, .istore_n 2, 0, []), (18, .iload_n 2, 0, []), (19, .iload_n 1, 0, []), (20, .if_icmp .ge 40, 60, []), (23, .iload_n 2, 0, []), (24, .aload_n 0, 0, []), (25, .getfield 7, 320, []), (28, .iconst 0, 0, []), (29, .iaload, 0, []), (30, .if_icmp .ge 20, 50, [])],
  [(33, .aload_n 0, 0, []), (34, .getfield 7, 320, []), (37, .bipush 92, 92, []), (39, .iload_n 2, 0, []), (40, .iadd, 0, []), (41, .iaload, 0, []), (42, .aload_n 0, 0, []), (43, .iload_n 2, 0, []), (44, .invokevirtual 197, 200, []), (47, .if_icmp .eq 7, 54, []), (50, .iconst 1, 1, []), (51, .iload_n 2, 0, []), (52, .iadd, 0, []), (53, .ireturn, 0, []), (54, .iinc 2 1, 0, []), (57, .goto (-39), 18, []), (60, .iconst 0, 0, []), (61, .ireturn, 0, [])]] -- X10_check
def pC244 : List (List (Nat × pE)) := [[(0, .iconst 0, 0, []), (1, .istore_n 1, 0, []), (2, .iconst 0, 0, []), (3, .istore_n 2, 0, []), (4, .iload_n 2, 0, []), (5, .aload_n 0, 0, []), (6, .getfield 7, 320, []), (9, .iconst 0, 0, []), (10, .iaload, 0, []), (11, .if_icmp .ge 18, 29, []), (14, .iload_n 1, 0, []), (15, .aload_n 0, 0, []), (16, .iload_n 2, 0, []), (17, .iconst 3, 3, []), (18, .invokevirtual 132, 157, []), (21, .iadd, 0, []), (22, .istore_n 1, 0, []), (23, .iinc 2 1, 0, []), (26, .goto (-22), 4, []), (29, .iload_n 1, 0, []), (30, .ireturn, 0, [])]] -- X10_longOfAll
def pC245 : List (List (Nat × pE)) := [[(0, .iload_n 1, 0, []), (1, .tableswitch 138 0 11 #[63, 70, 75, 80, 85, 92, 99, 106, 111, 118, 126, 131], 139, [(0, 64), (1, 71), (2, 76), (3, 81), (4, 86), (5, 93), (6, 100), (7, 107), (8, 112), (9, 119), (10, 127), (11, 132)])],
  [],
  [(64, .aload_n 0, 0, []), (65, .getfield 7, 320, []), (68, .iconst 0, 0, []), (69, .iaload, 0, []), (70, .ireturn, 0, []), (71, .aload_n 0, 0, []), (72, .invokevirtual 237, 193, []), (75, .ireturn, 0, []), (76, .aload_n 0, 0, []), (77, .invokevirtual 240, 194, []), (80, .ireturn, 0, []), (81, .aload_n 0, 0, []), (82, .invokevirtual 243, 195, []), (85, .ireturn, 0, []), (86, .aload_n 0, 0, []), (87, .getfield 7, 320, []), (90, .iconst 2, 2, []), (91, .iaload, 0, []), (92, .ireturn, 0, []), (93, .aload_n 0, 0, []), (94, .getfield 7, 320, [])],
  [(97, .iconst 3, 3, []), (98, .iaload, 0, []), (99, .ireturn, 0, []), (100, .aload_n 0, 0, []), (101, .getfield 7, 320, []), (104, .iconst 4, 4, []), (105, .iaload, 0, []), (106, .ireturn, 0, []), (107, .aload_n 0, 0, []), (108, .invokevirtual 293, 244, []), (111, .ireturn, 0, []), (112, .aload_n 0, 0, []), (113, .getfield 7, 320, []), (116, .iconst 5, 5, []), (117, .iaload, 0, []), (118, .ireturn, 0, []), (119, .aload_n 0, 0, []), (120, .getfield 7, 320, []), (123, .bipush 6, 6, []), (125, .iaload, 0, []), (126, .ireturn, 0, []), (127, .aload_n 0, 0, [])],
  [(128, .getfield 257, 339, []), (131, .ireturn, 0, []), (132, .aload_n 0, 0, []), (133, .getfield 7, 320, []), (136, .iconst 1, 1, []), (137, .iaload, 0, []), (138, .ireturn, 0, []), (139, .aload_n 0, 0, []), (140, .iconst 1, 1, []), (141, .invokevirtual 116, 153, []), (144, .ireturn, 0, [])]] -- X10_count
def pC246 : List (List (Nat × pE)) := [[(0, .iload_n 1, 0, []), (1, .i2l, 0, []), (2, .lconst 1, 0, []), (3, .ldc2_w 164, 5, []), (6, .invokestatic 53, 154, []), (9, .ifCond .eq 12, 21, []), (12, .aload_n 0, 0, []), (13, .getfield 16, 323, []), (16, .iload_n 1, 0, []), (17, .iaload, 0, []), (18, .goto 8, 26, []), (21, .aload_n 0, 0, []), (22, .iconst 1, 1, []), (23, .invokevirtual 116, 153, []), (26, .ireturn, 0, [])]] -- X10_told
def pC247 : List (List (Nat × pE)) := [[(0, .aload_n 0, 0, []), (1, .getfield 9, 352, []), (4, .arraylength, 0, []), (5, .aload_n 0, 0, []), (6, .invokevirtual 335, 250, []), (9, .ishr, 0, []), (10, .ireturn, 0, [])]] -- J0_length_8abf5
def pC248 : List (List (Nat × pE)) := [[(0, .aload_n 0, 0, []), (1, .iload_n 1, 0, []), (2, .iconst 0, 0, []), (3, .invokevirtual 633, 249, []), (6, .ireturn, 0, [])]] -- J0_indexOf_0f7a4
def pC249 : List (List (Nat × pE)) := [[(0, .aload_n 0, 0, []), (1, .invokevirtual 492, 251, []), (4, .ifCond .eq 19, 23, []), (7, .aload_n 0, 0, []), (8, .getfield 9, 352, []), (11, .iload_n 1, 0, []), (12, .iload_n 2, 0, []), (13, .aload_n 0, 0, []), (14, .invokevirtual 505, 247, []), (17, .invokestatic 637, 253, []), (20, .goto 16, 36, []), (23, .aload_n 0, 0, []), (24, .getfield 9, 352, []), (27, .iload_n 1, 0, []), (28, .iload_n 2, 0, []), (29, .aload_n 0, 0, []), (30, .invokevirtual 505, 247, [])],
  [(33, .invokestatic 640, (-9), []), (36, .ireturn, 0, [])]] -- J0_indexOf_7cf53
def pC250 : List (List (Nat × pE)) := [[(0, .getstatic 38, 3, []), (3, .ifCond .eq 10, 13, []), (6, .aload_n 0, 0, []), (7, .getfield 15, 353, []), (10, .goto 4, 14, []), (13, .iconst 1, 1, []), (14, .ireturn, 0, [])]] -- J0_coder_7d493
def pC251 : List (List (Nat × pE)) := [[(0, .getstatic 38, 3, []), (3, .ifCond .eq 14, 17, []), (6, .aload_n 0, 0, []), (7, .getfield 15, 353, []), (10, .ifCond .ne 7, 17, []), (13, .iconst 1, 1, []), (14, .goto 4, 18, []), (17, .iconst 0, 0, []), (18, .ireturn, 0, [])]] -- J0_isLatin1_aae02
def pC252 : List (List (Nat × pE)) := [[(0, .iload_n 0, 0, []), (1, .ifCond .lt 14, 15, []), (4, .iload_n 0, 0, []), (5, .sipush 255, 255, []), (8, .if_icmp .gt 7, 15, []), (11, .iconst 1, 1, []), (12, .goto 4, 16, []), (15, .iconst 0, 0, []), (16, .ireturn, 0, [])]] -- J1_canEncode_9a6ad
def pC253 : List (List (Nat × pE)) := [[(0, .iload_n 1, 0, []), (1, .invokestatic 88, 252, []), (4, .ifCond .ne 5, 9, []), (7, .iconst (-1), (-1), []), (8, .ireturn, 0, []), (9, .iload_n 2, 0, []), (10, .iconst 0, 0, []), (11, .invokestatic 92, (-3), []), (14, .istore_n 2, 0, []), (15, .iload_n 3, 0, []), (16, .aload_n 0, 0, []), (17, .arraylength, 0, []), (18, .invokestatic 38, (-4), []), (21, .istore_n 3, 0, []), (22, .iload_n 2, 0, []), (23, .iload_n 3, 0, []), (24, .if_icmp .lt 5, 29, []), (27, .iconst (-1), (-1), []), (28, .ireturn, 0, []), (29, .aload_n 0, 0, []), (30, .iload_n 1, 0, []), (31, .iload_n 2, 0, [])],
  [(32, .iload_n 3, 0, []), (33, .invokestatic 95, 254, []), (36, .ireturn, 0, [])]] -- J1_indexOf_4cfef
def pC254 : List (List (Nat × pE)) := [[(0, .iload_n 1, 0, []), (1, .i2b, 0, []), (2, .istore 4, 0, []), (4, .iload_n 2, 0, []), (5, .istore 5, 0, []), (7, .iload 5, 0, []), (9, .iload_n 3, 0, []), (10, .if_icmp .ge 21, 31, []), (13, .aload_n 0, 0, []), (14, .iload 5, 0, []), (16, .baload, 0, []), (17, .iload 4, 0, []), (19, .if_icmp .ne 6, 25, []), (22, .iload 5, 0, []), (24, .ireturn, 0, []), (25, .iinc 5 1, 0, []), (28, .goto (-21), 7, []), (31, .iconst (-1), (-1), [])],
  [(32, .ireturn, 0, [])]] -- J1_indexOfChar_4cfef
def pC255 : List (List (Nat × pE)) := [[(0, .iload_n 0, 0, []), (1, .iload_n 0, 0, []), (2, .iconst 1, 1, []), (3, .iushr, 0, []), (4, .ldc_w 265, 1431655765, []), (7, .iand, 0, []), (8, .isub, 0, []), (9, .istore_n 0, 0, []), (10, .iload_n 0, 0, []), (11, .ldc_w 266, 858993459, []), (14, .iand, 0, []), (15, .iload_n 0, 0, []), (16, .iconst 2, 2, []), (17, .iushr, 0, []), (18, .ldc_w 266, 858993459, []), (21, .iand, 0, []), (22, .iadd, 0, []), (23, .istore_n 0, 0, []), (24, .iload_n 0, 0, []), (25, .iload_n 0, 0, []), (26, .iconst 4, 4, []), (27, .iushr, 0, []), (28, .iadd, 0, []), (29, .ldc_w 267, 252645135, [])],
  [(32, .iand, 0, []), (33, .istore_n 0, 0, []), (34, .iload_n 0, 0, []), (35, .iload_n 0, 0, []), (36, .bipush 8, 8, []), (38, .iushr, 0, []), (39, .iadd, 0, []), (40, .istore_n 0, 0, []), (41, .iload_n 0, 0, []), (42, .iload_n 0, 0, []), (43, .bipush 16, 16, []), (45, .iushr, 0, []), (46, .iadd, 0, []), (47, .istore_n 0, 0, []), (48, .iload_n 0, 0, []), (49, .bipush 63, 63, []), (51, .iand, 0, []), (52, .ireturn, 0, [])]] -- J6_bitCount_0f7a4
def pC256 : List (List (Nat × pE)) := [[(0, .new 7, 9, []), (3, .dup, 0, []), (4, .invokespecial 9, 95, []), (7, .astore_n 1, 0, []), (8, .new 10, 10, []), (11, .dup, 0, []), (12, .invokespecial 12, 152, []), (15, .astore_n 2, 0, []), (16, .iconst 0, 0, []), (17, .istore_n 3, 0, []), (18, .iload_n 3, 0, []), (19, .aload_n 0, 0, []), (20, .arraylength, 0, []), (21, .bipush 6, 6, []), (23, .isub, 0, []), (24, .if_icmp .gt 1360, 1384, []), (27, .aload_n 0, 0, []), (28, .iload_n 3, 0, []), (29, .iaload, 0, []), (30, .bipush 63, 63, [])],
  [(32, .iand, 0, []), (33, .tableswitch 1345 0 39 #[175, 228, 281, 314, 347, 380, 423, 436, 459, 492, 515, 538, 561, 574, 587, 650, 673, 726, 749, 772, 795, 838, 861, 874, 907, 930, 953, 976, 1019, 1042, 1085, 1128, 1191, 1214, 1237, 1250, 1263, 1286, 1299, 1322], 1378, [(0, 208), (1, 261), (2, 314), (3, 347), (4, 380), (5, 413), (6, 456), (7, 469), (8, 492), (9, 525), (10, 548), (11, 571), (12, 594), (13, 607), (14, 620), (15, 683), (16, 706), (17, 759), (18, 782), (19, 805), (20, 828), (21, 871), (22, 894), (23, 907), (24, 940), (25, 963), (26, 986), (27, 1009), (28, 1052), (29, 1075), (30, 1118), (31, 1161), (32, 1224), (33, 1247), (34, 1270), (35, 1283), (36, 1296), (37, 1319), (38, 1332), (39, 1355)])],
  [],
  [],
  [],
  [],
  [(208, .aload_n 1, 0, []), (209, .aload_n 0, 0, []), (210, .iload_n 3, 0, []), (211, .iconst 1, 1, []), (212, .iadd, 0, []), (213, .iaload, 0, []), (214, .aload_n 0, 0, []), (215, .iload_n 3, 0, []), (216, .iconst 2, 2, []), (217, .iadd, 0, []), (218, .iaload, 0, []), (219, .aload_n 0, 0, []), (220, .iload_n 3, 0, []), (221, .iconst 3, 3, []), (222, .iadd, 0, []), (223, .iaload, 0, [])],
  [(224, .aload_n 0, 0, []), (225, .iload_n 3, 0, []), (226, .iconst 4, 4, []), (227, .iadd, 0, []), (228, .iaload, 0, []), (229, .invokevirtual 13, 96, []), (232, .aload_n 2, 0, []), (233, .aload_n 0, 0, []), (234, .iload_n 3, 0, []), (235, .iconst 1, 1, []), (236, .iadd, 0, []), (237, .iaload, 0, []), (238, .aload_n 0, 0, []), (239, .iload_n 3, 0, []), (240, .iconst 2, 2, []), (241, .iadd, 0, []), (242, .iaload, 0, []), (243, .aload_n 0, 0, []), (244, .iload_n 3, 0, []), (245, .iconst 3, 3, []), (246, .iadd, 0, []), (247, .iaload, 0, []), (248, .aload_n 0, 0, []), (249, .iload_n 3, 0, []), (250, .iconst 4, 4, []), (251, .iadd, 0, []), (252, .iaload, 0, []), (253, .invokevirtual 17, 181, [])],
  [(256, .if_icmp .eq 1122, 1378, []), (259, .iconst 0, 0, []), (260, .ireturn, 0, []), (261, .aload_n 1, 0, []), (262, .aload_n 0, 0, []), (263, .iload_n 3, 0, []), (264, .iconst 1, 1, []), (265, .iadd, 0, []), (266, .iaload, 0, []), (267, .aload_n 0, 0, []), (268, .iload_n 3, 0, []), (269, .iconst 2, 2, []), (270, .iadd, 0, []), (271, .iaload, 0, []), (272, .aload_n 0, 0, []), (273, .iload_n 3, 0, []), (274, .iconst 3, 3, []), (275, .iadd, 0, []), (276, .iaload, 0, []), (277, .aload_n 0, 0, []), (278, .iload_n 3, 0, []), (279, .iconst 4, 4, []), (280, .iadd, 0, []), (281, .iaload, 0, []), (282, .invokevirtual 18, 97, []), (285, .aload_n 2, 0, []), (286, .aload_n 0, 0, []), (287, .iload_n 3, 0, [])],
  [(288, .iconst 1, 1, []), (289, .iadd, 0, []), (290, .iaload, 0, []), (291, .aload_n 0, 0, []), (292, .iload_n 3, 0, []), (293, .iconst 2, 2, []), (294, .iadd, 0, []), (295, .iaload, 0, []), (296, .aload_n 0, 0, []), (297, .iload_n 3, 0, []), (298, .iconst 3, 3, []), (299, .iadd, 0, []), (300, .iaload, 0, []), (301, .aload_n 0, 0, []), (302, .iload_n 3, 0, []), (303, .iconst 4, 4, []), (304, .iadd, 0, []), (305, .iaload, 0, []), (306, .invokevirtual 21, 182, []), (309, .if_icmp .eq 1069, 1378, []), (312, .iconst 0, 0, []), (313, .ireturn, 0, []), (314, .aload_n 1, 0, []), (315, .aload_n 0, 0, []), (316, .iload_n 3, 0, []), (317, .iconst 1, 1, []), (318, .iadd, 0, []), (319, .iaload, 0, [])],
  [(320, .aload_n 0, 0, []), (321, .iload_n 3, 0, []), (322, .iconst 2, 2, []), (323, .iadd, 0, []), (324, .iaload, 0, []), (325, .invokevirtual 22, 98, []), (328, .aload_n 2, 0, []), (329, .aload_n 0, 0, []), (330, .iload_n 3, 0, []), (331, .iconst 1, 1, []), (332, .iadd, 0, []), (333, .iaload, 0, []), (334, .aload_n 0, 0, []), (335, .iload_n 3, 0, []), (336, .iconst 2, 2, []), (337, .iadd, 0, []), (338, .iaload, 0, []), (339, .invokevirtual 26, 183, []), (342, .if_icmp .eq 1036, 1378, []), (345, .iconst 0, 0, []), (346, .ireturn, 0, []), (347, .aload_n 1, 0, []), (348, .aload_n 0, 0, []), (349, .iload_n 3, 0, []), (350, .iconst 1, 1, []), (351, .iadd, 0, [])],
  [(352, .iaload, 0, []), (353, .aload_n 0, 0, []), (354, .iload_n 3, 0, []), (355, .iconst 2, 2, []), (356, .iadd, 0, []), (357, .iaload, 0, []), (358, .invokevirtual 27, 99, []), (361, .aload_n 2, 0, []), (362, .aload_n 0, 0, []), (363, .iload_n 3, 0, []), (364, .iconst 1, 1, []), (365, .iadd, 0, []), (366, .iaload, 0, []), (367, .aload_n 0, 0, []), (368, .iload_n 3, 0, []), (369, .iconst 2, 2, []), (370, .iadd, 0, []), (371, .iaload, 0, []), (372, .invokevirtual 30, 184, []), (375, .if_icmp .eq 1003, 1378, []), (378, .iconst 0, 0, []), (379, .ireturn, 0, []), (380, .aload_n 1, 0, []), (381, .aload_n 0, 0, []), (382, .iload_n 3, 0, []), (383, .iconst 1, 1, [])],
  [(384, .iadd, 0, []), (385, .iaload, 0, []), (386, .aload_n 0, 0, []), (387, .iload_n 3, 0, []), (388, .iconst 2, 2, []), (389, .iadd, 0, []), (390, .iaload, 0, []), (391, .invokevirtual 31, 100, []), (394, .aload_n 2, 0, []), (395, .aload_n 0, 0, []), (396, .iload_n 3, 0, []), (397, .iconst 1, 1, []), (398, .iadd, 0, []), (399, .iaload, 0, []), (400, .aload_n 0, 0, []), (401, .iload_n 3, 0, []), (402, .iconst 2, 2, []), (403, .iadd, 0, []), (404, .iaload, 0, []), (405, .invokevirtual 34, 185, []), (408, .if_icmp .eq 970, 1378, []), (411, .iconst 0, 0, []), (412, .ireturn, 0, []), (413, .aload_n 1, 0, []), (414, .aload_n 0, 0, []), (415, .iload_n 3, 0, [])],
  [(416, .iconst 1, 1, []), (417, .iadd, 0, []), (418, .iaload, 0, []), (419, .aload_n 0, 0, []), (420, .iload_n 3, 0, []), (421, .iconst 2, 2, []), (422, .iadd, 0, []), (423, .iaload, 0, []), (424, .aload_n 0, 0, []), (425, .iload_n 3, 0, []), (426, .iconst 3, 3, []), (427, .iadd, 0, []), (428, .iaload, 0, []), (429, .invokevirtual 35, 101, []), (432, .aload_n 2, 0, []), (433, .aload_n 0, 0, []), (434, .iload_n 3, 0, []), (435, .iconst 1, 1, []), (436, .iadd, 0, []), (437, .iaload, 0, []), (438, .aload_n 0, 0, []), (439, .iload_n 3, 0, []), (440, .iconst 2, 2, []), (441, .iadd, 0, []), (442, .iaload, 0, []), (443, .aload_n 0, 0, []), (444, .iload_n 3, 0, []), (445, .iconst 3, 3, []), (446, .iadd, 0, []), (447, .iaload, 0, [])],
  [(448, .invokevirtual 39, 186, []), (451, .if_icmp .eq 927, 1378, []), (454, .iconst 0, 0, []), (455, .ireturn, 0, []), (456, .aload_n 1, 0, []), (457, .invokevirtual 40, 102, []), (460, .aload_n 2, 0, []), (461, .invokevirtual 44, 187, []), (464, .if_icmp .eq 914, 1378, []), (467, .iconst 0, 0, []), (468, .ireturn, 0, []), (469, .aload_n 1, 0, []), (470, .aload_n 0, 0, []), (471, .iload_n 3, 0, []), (472, .iconst 1, 1, []), (473, .iadd, 0, []), (474, .iaload, 0, []), (475, .invokevirtual 45, 103, []), (478, .aload_n 2, 0, []), (479, .aload_n 0, 0, [])],
  [(480, .iload_n 3, 0, []), (481, .iconst 1, 1, []), (482, .iadd, 0, []), (483, .iaload, 0, []), (484, .invokevirtual 49, 196, []), (487, .if_icmp .eq 891, 1378, []), (490, .iconst 0, 0, []), (491, .ireturn, 0, []), (492, .aload_n 1, 0, []), (493, .aload_n 0, 0, []), (494, .iload_n 3, 0, []), (495, .iconst 1, 1, []), (496, .iadd, 0, []), (497, .iaload, 0, []), (498, .aload_n 0, 0, []), (499, .iload_n 3, 0, []), (500, .iconst 2, 2, []), (501, .iadd, 0, []), (502, .iaload, 0, []), (503, .invokevirtual 50, 104, []), (506, .aload_n 2, 0, []), (507, .aload_n 0, 0, []), (508, .iload_n 3, 0, []), (509, .iconst 1, 1, []), (510, .iadd, 0, []), (511, .iaload, 0, [])],
  [(512, .aload_n 0, 0, []), (513, .iload_n 3, 0, []), (514, .iconst 2, 2, []), (515, .iadd, 0, []), (516, .iaload, 0, []), (517, .invokevirtual 53, 198, []), (520, .if_icmp .eq 858, 1378, []), (523, .iconst 0, 0, []), (524, .ireturn, 0, []), (525, .aload_n 1, 0, []), (526, .aload_n 0, 0, []), (527, .iload_n 3, 0, []), (528, .iconst 1, 1, []), (529, .iadd, 0, []), (530, .iaload, 0, []), (531, .invokevirtual 54, 105, []), (534, .aload_n 2, 0, []), (535, .aload_n 0, 0, []), (536, .iload_n 3, 0, []), (537, .iconst 1, 1, []), (538, .iadd, 0, []), (539, .iaload, 0, []), (540, .invokevirtual 57, 199, []), (543, .if_icmp .eq 835, 1378, [])],
  [(546, .iconst 0, 0, []), (547, .ireturn, 0, []), (548, .aload_n 1, 0, []), (549, .aload_n 0, 0, []), (550, .iload_n 3, 0, []), (551, .iconst 1, 1, []), (552, .iadd, 0, []), (553, .iaload, 0, []), (554, .invokevirtual 58, 106, []), (557, .aload_n 2, 0, []), (558, .aload_n 0, 0, []), (559, .iload_n 3, 0, []), (560, .iconst 1, 1, []), (561, .iadd, 0, []), (562, .iaload, 0, []), (563, .invokevirtual 61, 201, []), (566, .if_icmp .eq 812, 1378, []), (569, .iconst 0, 0, []), (570, .ireturn, 0, []), (571, .aload_n 1, 0, []), (572, .aload_n 0, 0, []), (573, .iload_n 3, 0, []), (574, .iconst 1, 1, []), (575, .iadd, 0, [])],
  [(576, .iaload, 0, []), (577, .invokevirtual 62, 107, []), (580, .aload_n 2, 0, []), (581, .aload_n 0, 0, []), (582, .iload_n 3, 0, []), (583, .iconst 1, 1, []), (584, .iadd, 0, []), (585, .iaload, 0, []), (586, .invokevirtual 65, 202, []), (589, .if_icmp .eq 789, 1378, []), (592, .iconst 0, 0, []), (593, .ireturn, 0, []), (594, .aload_n 1, 0, []), (595, .invokevirtual 66, 108, []), (598, .aload_n 2, 0, []), (599, .invokevirtual 69, 203, []), (602, .if_icmp .eq 776, 1378, []), (605, .iconst 0, 0, []), (606, .ireturn, 0, []), (607, .aload_n 1, 0, [])],
  [(608, .invokevirtual 70, 109, []), (611, .aload_n 2, 0, []), (612, .invokevirtual 73, 204, []), (615, .if_icmp .eq 763, 1378, []), (618, .iconst 0, 0, []), (619, .ireturn, 0, []), (620, .aload_n 1, 0, []), (621, .aload_n 0, 0, []), (622, .iload_n 3, 0, []), (623, .iconst 1, 1, []), (624, .iadd, 0, []), (625, .iaload, 0, []), (626, .i2l, 0, []), (627, .bipush 32, 32, []), (629, .lshl, 0, []), (630, .aload_n 0, 0, []), (631, .iload_n 3, 0, []), (632, .iconst 2, 2, []), (633, .iadd, 0, []), (634, .iaload, 0, []), (635, .i2l, 0, []), (636, .ldc2_w 74, 4294967295, []), (639, .land, 0, [])],
  [(640, .lor, 0, []), (641, .aload_n 0, 0, []), (642, .iload_n 3, 0, []), (643, .iconst 3, 3, []), (644, .iadd, 0, []), (645, .iaload, 0, []), (646, .invokevirtual 76, 110, []), (649, .aload_n 2, 0, []), (650, .aload_n 0, 0, []), (651, .iload_n 3, 0, []), (652, .iconst 1, 1, []), (653, .iadd, 0, []), (654, .iaload, 0, []), (655, .i2l, 0, []), (656, .bipush 32, 32, []), (658, .lshl, 0, []), (659, .aload_n 0, 0, []), (660, .iload_n 3, 0, []), (661, .iconst 2, 2, []), (662, .iadd, 0, []), (663, .iaload, 0, []), (664, .i2l, 0, []), (665, .ldc2_w 74, 4294967295, []), (668, .land, 0, []), (669, .lor, 0, []), (670, .aload_n 0, 0, []), (671, .iload_n 3, 0, [])],
  [(672, .iconst 3, 3, []), (673, .iadd, 0, []), (674, .iaload, 0, []), (675, .invokevirtual 80, 171, []), (678, .if_icmp .eq 700, 1378, []), (681, .iconst 0, 0, []), (682, .ireturn, 0, []), (683, .aload_n 1, 0, []), (684, .aload_n 0, 0, []), (685, .iload_n 3, 0, []), (686, .iconst 1, 1, []), (687, .iadd, 0, []), (688, .iaload, 0, []), (689, .invokevirtual 81, 111, []), (692, .aload_n 2, 0, []), (693, .aload_n 0, 0, []), (694, .iload_n 3, 0, []), (695, .iconst 1, 1, []), (696, .iadd, 0, []), (697, .iaload, 0, []), (698, .invokevirtual 84, 172, []), (701, .if_icmp .eq 677, 1378, [])],
  [(704, .iconst 0, 0, []), (705, .ireturn, 0, []), (706, .aload_n 1, 0, []), (707, .aload_n 0, 0, []), (708, .iload_n 3, 0, []), (709, .iconst 1, 1, []), (710, .iadd, 0, []), (711, .iaload, 0, []), (712, .aload_n 0, 0, []), (713, .iload_n 3, 0, []), (714, .iconst 2, 2, []), (715, .iadd, 0, []), (716, .iaload, 0, []), (717, .aload_n 0, 0, []), (718, .iload_n 3, 0, []), (719, .iconst 3, 3, []), (720, .iadd, 0, []), (721, .iaload, 0, []), (722, .aload_n 0, 0, []), (723, .iload_n 3, 0, []), (724, .iconst 4, 4, []), (725, .iadd, 0, []), (726, .iaload, 0, []), (727, .invokevirtual 85, 112, []), (730, .aload_n 2, 0, []), (731, .aload_n 0, 0, []), (732, .iload_n 3, 0, []), (733, .iconst 1, 1, []), (734, .iadd, 0, []), (735, .iaload, 0, [])],
  [(736, .aload_n 0, 0, []), (737, .iload_n 3, 0, []), (738, .iconst 2, 2, []), (739, .iadd, 0, []), (740, .iaload, 0, []), (741, .aload_n 0, 0, []), (742, .iload_n 3, 0, []), (743, .iconst 3, 3, []), (744, .iadd, 0, []), (745, .iaload, 0, []), (746, .aload_n 0, 0, []), (747, .iload_n 3, 0, []), (748, .iconst 4, 4, []), (749, .iadd, 0, []), (750, .iaload, 0, []), (751, .invokevirtual 88, 174, []), (754, .if_icmp .eq 624, 1378, []), (757, .iconst 0, 0, []), (758, .ireturn, 0, []), (759, .aload_n 1, 0, []), (760, .aload_n 0, 0, []), (761, .iload_n 3, 0, []), (762, .iconst 1, 1, []), (763, .iadd, 0, []), (764, .iaload, 0, []), (765, .invokevirtual 89, 113, [])],
  [(768, .aload_n 2, 0, []), (769, .aload_n 0, 0, []), (770, .iload_n 3, 0, []), (771, .iconst 1, 1, []), (772, .iadd, 0, []), (773, .iaload, 0, []), (774, .invokevirtual 92, 208, []), (777, .if_icmp .eq 601, 1378, []), (780, .iconst 0, 0, []), (781, .ireturn, 0, []), (782, .aload_n 1, 0, []), (783, .aload_n 0, 0, []), (784, .iload_n 3, 0, []), (785, .iconst 1, 1, []), (786, .iadd, 0, []), (787, .iaload, 0, []), (788, .invokevirtual 93, 114, []), (791, .aload_n 2, 0, []), (792, .aload_n 0, 0, []), (793, .iload_n 3, 0, []), (794, .iconst 1, 1, []), (795, .iadd, 0, []), (796, .iaload, 0, []), (797, .invokevirtual 96, 209, [])],
  [(800, .if_icmp .eq 578, 1378, []), (803, .iconst 0, 0, []), (804, .ireturn, 0, []), (805, .aload_n 1, 0, []), (806, .aload_n 0, 0, []), (807, .iload_n 3, 0, []), (808, .iconst 1, 1, []), (809, .iadd, 0, []), (810, .iaload, 0, []), (811, .invokevirtual 97, 115, []), (814, .aload_n 2, 0, []), (815, .aload_n 0, 0, []), (816, .iload_n 3, 0, []), (817, .iconst 1, 1, []), (818, .iadd, 0, []), (819, .iaload, 0, []), (820, .invokevirtual 100, 210, []), (823, .if_icmp .eq 555, 1378, []), (826, .iconst 0, 0, []), (827, .ireturn, 0, []), (828, .aload_n 1, 0, []), (829, .aload_n 0, 0, []), (830, .iload_n 3, 0, []), (831, .iconst 1, 1, [])],
  [(832, .iadd, 0, []), (833, .iaload, 0, []), (834, .aload_n 0, 0, []), (835, .iload_n 3, 0, []), (836, .iconst 2, 2, []), (837, .iadd, 0, []), (838, .iaload, 0, []), (839, .aload_n 0, 0, []), (840, .iload_n 3, 0, []), (841, .iconst 3, 3, []), (842, .iadd, 0, []), (843, .iaload, 0, []), (844, .invokevirtual 101, 116, []), (847, .aload_n 2, 0, []), (848, .aload_n 0, 0, []), (849, .iload_n 3, 0, []), (850, .iconst 1, 1, []), (851, .iadd, 0, []), (852, .iaload, 0, []), (853, .aload_n 0, 0, []), (854, .iload_n 3, 0, []), (855, .iconst 2, 2, []), (856, .iadd, 0, []), (857, .iaload, 0, []), (858, .aload_n 0, 0, []), (859, .iload_n 3, 0, []), (860, .iconst 3, 3, []), (861, .iadd, 0, []), (862, .iaload, 0, []), (863, .invokevirtual 104, 215, [])],
  [(866, .if_icmp .eq 512, 1378, []), (869, .iconst 0, 0, []), (870, .ireturn, 0, []), (871, .aload_n 1, 0, []), (872, .aload_n 0, 0, []), (873, .iload_n 3, 0, []), (874, .iconst 1, 1, []), (875, .iadd, 0, []), (876, .iaload, 0, []), (877, .invokevirtual 105, 117, []), (880, .aload_n 2, 0, []), (881, .aload_n 0, 0, []), (882, .iload_n 3, 0, []), (883, .iconst 1, 1, []), (884, .iadd, 0, []), (885, .iaload, 0, []), (886, .invokevirtual 108, 217, []), (889, .if_icmp .eq 489, 1378, []), (892, .iconst 0, 0, []), (893, .ireturn, 0, []), (894, .aload_n 1, 0, []), (895, .invokevirtual 109, 118, [])],
  [(898, .aload_n 2, 0, []), (899, .invokevirtual 112, 218, []), (902, .if_icmp .eq 476, 1378, []), (905, .iconst 0, 0, []), (906, .ireturn, 0, []), (907, .aload_n 1, 0, []), (908, .aload_n 0, 0, []), (909, .iload_n 3, 0, []), (910, .iconst 1, 1, []), (911, .iadd, 0, []), (912, .iaload, 0, []), (913, .aload_n 0, 0, []), (914, .iload_n 3, 0, []), (915, .iconst 2, 2, []), (916, .iadd, 0, []), (917, .iaload, 0, []), (918, .invokevirtual 113, 119, []), (921, .aload_n 2, 0, []), (922, .aload_n 0, 0, []), (923, .iload_n 3, 0, []), (924, .iconst 1, 1, []), (925, .iadd, 0, []), (926, .iaload, 0, []), (927, .aload_n 0, 0, [])],
  [(928, .iload_n 3, 0, []), (929, .iconst 2, 2, []), (930, .iadd, 0, []), (931, .iaload, 0, []), (932, .invokevirtual 116, 219, []), (935, .if_icmp .eq 443, 1378, []), (938, .iconst 0, 0, []), (939, .ireturn, 0, []), (940, .aload_n 1, 0, []), (941, .aload_n 0, 0, []), (942, .iload_n 3, 0, []), (943, .iconst 1, 1, []), (944, .iadd, 0, []), (945, .iaload, 0, []), (946, .invokevirtual 117, 120, []), (949, .aload_n 2, 0, []), (950, .aload_n 0, 0, []), (951, .iload_n 3, 0, []), (952, .iconst 1, 1, []), (953, .iadd, 0, []), (954, .iaload, 0, []), (955, .invokevirtual 120, 221, []), (958, .if_icmp .eq 420, 1378, [])],
  [(961, .iconst 0, 0, []), (962, .ireturn, 0, []), (963, .aload_n 1, 0, []), (964, .aload_n 0, 0, []), (965, .iload_n 3, 0, []), (966, .iconst 1, 1, []), (967, .iadd, 0, []), (968, .iaload, 0, []), (969, .invokevirtual 121, 121, []), (972, .aload_n 2, 0, []), (973, .aload_n 0, 0, []), (974, .iload_n 3, 0, []), (975, .iconst 1, 1, []), (976, .iadd, 0, []), (977, .iaload, 0, []), (978, .invokevirtual 124, 223, []), (981, .if_icmp .eq 397, 1378, []), (984, .iconst 0, 0, []), (985, .ireturn, 0, []), (986, .aload_n 1, 0, []), (987, .aload_n 0, 0, []), (988, .iload_n 3, 0, []), (989, .iconst 1, 1, []), (990, .iadd, 0, []), (991, .iaload, 0, [])],
  [(992, .invokevirtual 125, 122, []), (995, .aload_n 2, 0, []), (996, .aload_n 0, 0, []), (997, .iload_n 3, 0, []), (998, .iconst 1, 1, []), (999, .iadd, 0, []), (1000, .iaload, 0, []), (1001, .invokevirtual 128, 224, []), (1004, .if_icmp .eq 374, 1378, []), (1007, .iconst 0, 0, []), (1008, .ireturn, 0, []), (1009, .aload_n 1, 0, []), (1010, .aload_n 0, 0, []), (1011, .iload_n 3, 0, []), (1012, .iconst 1, 1, []), (1013, .iadd, 0, []), (1014, .iaload, 0, []), (1015, .aload_n 0, 0, []), (1016, .iload_n 3, 0, []), (1017, .iconst 2, 2, []), (1018, .iadd, 0, []), (1019, .iaload, 0, []), (1020, .aload_n 0, 0, []), (1021, .iload_n 3, 0, []), (1022, .iconst 3, 3, []), (1023, .iadd, 0, [])],
  [(1024, .iaload, 0, []), (1025, .invokevirtual 129, 123, []), (1028, .aload_n 2, 0, []), (1029, .aload_n 0, 0, []), (1030, .iload_n 3, 0, []), (1031, .iconst 1, 1, []), (1032, .iadd, 0, []), (1033, .iaload, 0, []), (1034, .aload_n 0, 0, []), (1035, .iload_n 3, 0, []), (1036, .iconst 2, 2, []), (1037, .iadd, 0, []), (1038, .iaload, 0, []), (1039, .aload_n 0, 0, []), (1040, .iload_n 3, 0, []), (1041, .iconst 3, 3, []), (1042, .iadd, 0, []), (1043, .iaload, 0, []), (1044, .invokevirtual 132, 231, []), (1047, .if_icmp .eq 331, 1378, []), (1050, .iconst 0, 0, []), (1051, .ireturn, 0, []), (1052, .aload_n 1, 0, []), (1053, .aload_n 0, 0, []), (1054, .iload_n 3, 0, []), (1055, .iconst 1, 1, [])],
  [(1056, .iadd, 0, []), (1057, .iaload, 0, []), (1058, .invokevirtual 133, 124, []), (1061, .aload_n 2, 0, []), (1062, .aload_n 0, 0, []), (1063, .iload_n 3, 0, []), (1064, .iconst 1, 1, []), (1065, .iadd, 0, []), (1066, .iaload, 0, []), (1067, .invokevirtual 136, 232, []), (1070, .if_icmp .eq 308, 1378, []), (1073, .iconst 0, 0, []), (1074, .ireturn, 0, []), (1075, .aload_n 1, 0, []), (1076, .aload_n 0, 0, []), (1077, .iload_n 3, 0, []), (1078, .iconst 1, 1, []), (1079, .iadd, 0, []), (1080, .iaload, 0, []), (1081, .aload_n 0, 0, []), (1082, .iload_n 3, 0, []), (1083, .iconst 2, 2, []), (1084, .iadd, 0, []), (1085, .iaload, 0, []), (1086, .aload_n 0, 0, []), (1087, .iload_n 3, 0, [])],
  [(1088, .iconst 3, 3, []), (1089, .iadd, 0, []), (1090, .iaload, 0, []), (1091, .invokevirtual 137, 125, []), (1094, .aload_n 2, 0, []), (1095, .aload_n 0, 0, []), (1096, .iload_n 3, 0, []), (1097, .iconst 1, 1, []), (1098, .iadd, 0, []), (1099, .iaload, 0, []), (1100, .aload_n 0, 0, []), (1101, .iload_n 3, 0, []), (1102, .iconst 2, 2, []), (1103, .iadd, 0, []), (1104, .iaload, 0, []), (1105, .aload_n 0, 0, []), (1106, .iload_n 3, 0, []), (1107, .iconst 3, 3, []), (1108, .iadd, 0, []), (1109, .iaload, 0, []), (1110, .invokevirtual 140, 234, []), (1113, .if_icmp .eq 265, 1378, []), (1116, .iconst 0, 0, []), (1117, .ireturn, 0, []), (1118, .aload_n 1, 0, []), (1119, .aload_n 0, 0, [])],
  [(1120, .iload_n 3, 0, []), (1121, .iconst 1, 1, []), (1122, .iadd, 0, []), (1123, .iaload, 0, []), (1124, .aload_n 0, 0, []), (1125, .iload_n 3, 0, []), (1126, .iconst 2, 2, []), (1127, .iadd, 0, []), (1128, .iaload, 0, []), (1129, .aload_n 0, 0, []), (1130, .iload_n 3, 0, []), (1131, .iconst 3, 3, []), (1132, .iadd, 0, []), (1133, .iaload, 0, []), (1134, .invokevirtual 141, 126, []), (1137, .aload_n 2, 0, []), (1138, .aload_n 0, 0, []), (1139, .iload_n 3, 0, []), (1140, .iconst 1, 1, []), (1141, .iadd, 0, []), (1142, .iaload, 0, []), (1143, .aload_n 0, 0, []), (1144, .iload_n 3, 0, []), (1145, .iconst 2, 2, []), (1146, .iadd, 0, []), (1147, .iaload, 0, []), (1148, .aload_n 0, 0, []), (1149, .iload_n 3, 0, []), (1150, .iconst 3, 3, []), (1151, .iadd, 0, [])],
  [(1152, .iaload, 0, []), (1153, .invokevirtual 144, 235, []), (1156, .if_icmp .eq 222, 1378, []), (1159, .iconst 0, 0, []), (1160, .ireturn, 0, []), (1161, .aload_n 1, 0, []), (1162, .aload_n 0, 0, []), (1163, .iload_n 3, 0, []), (1164, .iconst 1, 1, []), (1165, .iadd, 0, []), (1166, .iaload, 0, []), (1167, .aload_n 0, 0, []), (1168, .iload_n 3, 0, []), (1169, .iconst 2, 2, []), (1170, .iadd, 0, []), (1171, .iaload, 0, []), (1172, .aload_n 0, 0, []), (1173, .iload_n 3, 0, []), (1174, .iconst 3, 3, []), (1175, .iadd, 0, []), (1176, .iaload, 0, []), (1177, .aload_n 0, 0, []), (1178, .iload_n 3, 0, []), (1179, .iconst 4, 4, []), (1180, .iadd, 0, []), (1181, .iaload, 0, []), (1182, .aload_n 0, 0, []), (1183, .iload_n 3, 0, [])],
  [(1184, .iconst 5, 5, []), (1185, .iadd, 0, []), (1186, .iaload, 0, []), (1187, .invokevirtual 145, 127, []), (1190, .aload_n 2, 0, []), (1191, .aload_n 0, 0, []), (1192, .iload_n 3, 0, []), (1193, .iconst 1, 1, []), (1194, .iadd, 0, []), (1195, .iaload, 0, []), (1196, .aload_n 0, 0, []), (1197, .iload_n 3, 0, []), (1198, .iconst 2, 2, []), (1199, .iadd, 0, []), (1200, .iaload, 0, []), (1201, .aload_n 0, 0, []), (1202, .iload_n 3, 0, []), (1203, .iconst 3, 3, []), (1204, .iadd, 0, []), (1205, .iaload, 0, []), (1206, .aload_n 0, 0, []), (1207, .iload_n 3, 0, []), (1208, .iconst 4, 4, []), (1209, .iadd, 0, []), (1210, .iaload, 0, []), (1211, .aload_n 0, 0, []), (1212, .iload_n 3, 0, []), (1213, .iconst 5, 5, []), (1214, .iadd, 0, []), (1215, .iaload, 0, [])],
  [(1216, .invokevirtual 149, 236, []), (1219, .if_icmp .eq 159, 1378, []), (1222, .iconst 0, 0, []), (1223, .ireturn, 0, []), (1224, .aload_n 1, 0, []), (1225, .aload_n 0, 0, []), (1226, .iload_n 3, 0, []), (1227, .iconst 1, 1, []), (1228, .iadd, 0, []), (1229, .iaload, 0, []), (1230, .invokevirtual 150, 128, []), (1233, .aload_n 2, 0, []), (1234, .aload_n 0, 0, []), (1235, .iload_n 3, 0, []), (1236, .iconst 1, 1, []), (1237, .iadd, 0, []), (1238, .iaload, 0, []), (1239, .invokevirtual 153, 238, []), (1242, .if_icmp .eq 136, 1378, []), (1245, .iconst 0, 0, []), (1246, .ireturn, 0, []), (1247, .aload_n 1, 0, [])],
  [(1248, .aload_n 0, 0, []), (1249, .iload_n 3, 0, []), (1250, .iconst 1, 1, []), (1251, .iadd, 0, []), (1252, .iaload, 0, []), (1253, .invokevirtual 154, 129, []), (1256, .aload_n 2, 0, []), (1257, .aload_n 0, 0, []), (1258, .iload_n 3, 0, []), (1259, .iconst 1, 1, []), (1260, .iadd, 0, []), (1261, .iaload, 0, []), (1262, .invokevirtual 157, 239, []), (1265, .if_icmp .eq 113, 1378, []), (1268, .iconst 0, 0, []), (1269, .ireturn, 0, []), (1270, .aload_n 1, 0, []), (1271, .invokevirtual 158, 130, []), (1274, .aload_n 2, 0, []), (1275, .invokevirtual 161, 240, []), (1278, .if_icmp .eq 100, 1378, [])],
  [(1281, .iconst 0, 0, []), (1282, .ireturn, 0, []), (1283, .aload_n 1, 0, []), (1284, .invokevirtual 162, 131, []), (1287, .aload_n 2, 0, []), (1288, .invokevirtual 165, 241, []), (1291, .if_icmp .eq 87, 1378, []), (1294, .iconst 0, 0, []), (1295, .ireturn, 0, []), (1296, .aload_n 1, 0, []), (1297, .aload_n 0, 0, []), (1298, .iload_n 3, 0, []), (1299, .iconst 1, 1, []), (1300, .iadd, 0, []), (1301, .iaload, 0, []), (1302, .invokevirtual 166, 132, []), (1305, .aload_n 2, 0, []), (1306, .aload_n 0, 0, []), (1307, .iload_n 3, 0, []), (1308, .iconst 1, 1, []), (1309, .iadd, 0, []), (1310, .iaload, 0, []), (1311, .invokevirtual 169, 242, [])],
  [(1314, .if_icmp .eq 64, 1378, []), (1317, .iconst 0, 0, []), (1318, .ireturn, 0, []), (1319, .aload_n 1, 0, []), (1320, .invokevirtual 170, 133, []), (1323, .aload_n 2, 0, []), (1324, .invokevirtual 173, 243, []), (1327, .if_icmp .eq 51, 1378, []), (1330, .iconst 0, 0, []), (1331, .ireturn, 0, []), (1332, .aload_n 1, 0, []), (1333, .aload_n 0, 0, []), (1334, .iload_n 3, 0, []), (1335, .iconst 1, 1, []), (1336, .iadd, 0, []), (1337, .iaload, 0, []), (1338, .invokevirtual 174, 134, []), (1341, .aload_n 2, 0, []), (1342, .aload_n 0, 0, []), (1343, .iload_n 3, 0, [])],
  [(1344, .iconst 1, 1, []), (1345, .iadd, 0, []), (1346, .iaload, 0, []), (1347, .invokevirtual 177, 245, []), (1350, .if_icmp .eq 28, 1378, []), (1353, .iconst 0, 0, []), (1354, .ireturn, 0, []), (1355, .aload_n 1, 0, []), (1356, .aload_n 0, 0, []), (1357, .iload_n 3, 0, []), (1358, .iconst 1, 1, []), (1359, .iadd, 0, []), (1360, .iaload, 0, []), (1361, .invokevirtual 178, 135, []), (1364, .aload_n 2, 0, []), (1365, .aload_n 0, 0, []), (1366, .iload_n 3, 0, []), (1367, .iconst 1, 1, []), (1368, .iadd, 0, []), (1369, .iaload, 0, []), (1370, .invokevirtual 181, 246, []), (1373, .if_icmp .eq 5, 1378, [])],
  [(1376, .iconst 0, 0, []), (1377, .ireturn, 0, []), (1378, .iinc 3 6, 0, []), (1381, .goto (-1363), 18, []), (1384, .iconst 1, 1, []), (1385, .ireturn, 0, [])]] -- L_law
def pCs0 : List (List (List (Nat × pE))) := [pC0, pC1, pC2, pC3, pC4, pC5, pC6, pC7, pC8, pC9, pC10, pC11, pC12, pC13, pC14, pC15]
def pCs1 : List (List (List (Nat × pE))) := [pC16, pC17, pC18, pC19, pC20, pC21, pC22, pC23, pC24, pC25, pC26, pC27, pC28, pC29, pC30, pC31]
def pCs2 : List (List (List (Nat × pE))) := [pC32, pC33, pC34, pC35, pC36, pC37, pC38, pC39, pC40, pC41, pC42, pC43, pC44, pC45, pC46, pC47]
def pCs3 : List (List (List (Nat × pE))) := [pC48, pC49, pC50, pC51, pC52, pC53, pC54, pC55, pC56, pC57, pC58, pC59, pC60, pC61, pC62, pC63]
def pCs4 : List (List (List (Nat × pE))) := [pC64, pC65, pC66, pC67, pC68, pC69, pC70, pC71, pC72, pC73, pC74, pC75, pC76, pC77, pC78, pC79]
def pCs5 : List (List (List (Nat × pE))) := [pC80, pC81, pC82, pC83, pC84, pC85, pC86, pC87, pC88, pC89, pC90, pC91, pC92, pC93, pC94, pC95]
def pCs6 : List (List (List (Nat × pE))) := [pC96, pC97, pC98, pC99, pC100, pC101, pC102, pC103, pC104, pC105, pC106, pC107, pC108, pC109, pC110, pC111]
def pCs7 : List (List (List (Nat × pE))) := [pC112, pC113, pC114, pC115, pC116, pC117, pC118, pC119, pC120, pC121, pC122, pC123, pC124, pC125, pC126, pC127]
def pCs8 : List (List (List (Nat × pE))) := [pC128, pC129, pC130, pC131, pC132, pC133, pC134, pC135, pC136, pC137, pC138, pC139, pC140, pC141, pC142, pC143]
def pCs9 : List (List (List (Nat × pE))) := [pC144, pC145, pC146, pC147, pC148, pC149, pC150, pC151, pC152, pC153, pC154, pC155, pC156, pC157, pC158, pC159]
def pCs10 : List (List (List (Nat × pE))) := [pC160, pC161, pC162, pC163, pC164, pC165, pC166, pC167, pC168, pC169, pC170, pC171, pC172, pC173, pC174, pC175]
def pCs11 : List (List (List (Nat × pE))) := [pC176, pC177, pC178, pC179, pC180, pC181, pC182, pC183, pC184, pC185, pC186, pC187, pC188, pC189, pC190, pC191]
def pCs12 : List (List (List (Nat × pE))) := [pC192, pC193, pC194, pC195, pC196, pC197, pC198, pC199, pC200, pC201, pC202, pC203, pC204, pC205, pC206, pC207]
def pCs13 : List (List (List (Nat × pE))) := [pC208, pC209, pC210, pC211, pC212, pC213, pC214, pC215, pC216, pC217, pC218, pC219, pC220, pC221, pC222, pC223]
def pCs14 : List (List (List (Nat × pE))) := [pC224, pC225, pC226, pC227, pC228, pC229, pC230, pC231, pC232, pC233, pC234, pC235, pC236, pC237, pC238, pC239]
def pCs15 : List (List (List (Nat × pE))) := [pC240, pC241, pC242, pC243, pC244, pC245, pC246, pC247, pC248, pC249, pC250, pC251, pC252, pC253, pC254, pC255]
def pCs16 : List (List (List (Nat × pE))) := [pC256]
def pCs : List (List (List (List (Nat × pE)))) := [pCs0, pCs1, pCs2, pCs3, pCs4, pCs5, pCs6, pCs7, pCs8, pCs9, pCs10, pCs11, pCs12, pCs13, pCs14, pCs15, pCs16]
def pCode (k : Nat) : List (List (Nat × pE)) := (pCs.getD (k / 16) []).getD (k % 16) []
def pFind (pc : Nat) : List (Nat × pE) → Option pE
  | [] => none
  | (p, e) :: l => bif Nat.beq p pc then some e else pFind pc l
def pEnt (k pc : Nat) : Option pE := pFind pc ((pCode k).getD (pc / 32) [])
def FLk : List (Nat × Nat × Nat) := [(0, 9, 0), (0, 21, 1), (0, 25, 2), (0, 28, 3), (0, 31, 4), (0, 34, 5), (0, 40, 6), (0, 51, 71), (0, 69, 163), (0, 135, 166), (0, 141, 72), (1, 9, 32), (1, 20, 33), (1, 24, 34), (1, 27, 129), (2, 11, 64), (2, 26, 65), (2, 33, 66), (2, 37, 67), (2, 41, 68), (2, 44, 69), (2, 47, 70), (2, 50, 72), (2, 54, 75), (2, 57, 71), (2, 72, 169), (2, 75, 163), (2, 96, 161), (2, 106, 165), (2, 127, 164), (2, 130, 162), (2, 139, 129), (2, 146, 166), (2, 170, 73), (2, 178, 74), (2, 189, 34), (3, 9, 96), (3, 17, 97), (3, 26, 99), (3, 33, 98), (3, 44, 129), (4, 13, 128), (4, 22, 129), (5, 9, 160), (5, 15, 166), (5, 18, 161), (5, 21, 162), (5, 24, 163), (5, 27, 164), (5, 30, 165), (5, 33, 169), (5, 40, 167), (5, 43, 168), (6, 14, 192), (6, 20, 193), (7, 14, 224), (7, 42, 161), (7, 48, 160), (7, 55, 162), (8, 9, 256), (8, 20, 257), (8, 58, 129), (9, 12, 288), (9, 16, 289), (9, 24, 290), (9, 31, 291), (9, 37, 69), (9, 44, 292), (9, 51, 293), (9, 57, 294), (9, 62, 295), (9, 82, 71), (9, 126, 161), (9, 129, 162), (9, 145, 68), (9, 163, 72), (9, 179, 129), (9, 198, 34), (9, 203, 99), (9, 214, 6), (9, 252, 73), (9, 258, 75), (9, 261, 224), (9, 282, 192), (9, 288, 193), (9, 309, 296), (9, 312, 74), (9, 315, 70), (10, 7, 320), (10, 13, 321), (10, 16, 323), (10, 19, 330), (10, 22, 331), (10, 25, 332), (10, 28, 333), (10, 31, 334), (10, 34, 337), (10, 37, 338), (10, 40, 341), (10, 43, 342), (10, 46, 343), (10, 49, 344), (10, 57, 325), (10, 61, 326), (10, 64, 327), (10, 67, 324), (10, 74, 329), (10, 97, 328), (10, 200, 335), (10, 203, 336), (10, 257, 339), (10, 260, 340), (10, 290, 322), (11, 9, 352), (11, 15, 353)]
def FLkp : List Nat := [262, 263, 264, 265, 266, 267, 268, 218, 125, 132, 221, 192, 193, 194, 172, 206, 207, 208, 209, 210, 213, 214, 219, 226, 217, 137, 126, 119, 130, 128, 123, 177, 133, 222, 224, 196, 309, 310, 312, 311, 174, 171, 173, 114, 131, 116, 120, 124, 127, 129, 136, 134, 135, 346, 348, 332, 117, 115, 122, 293, 294, 175, 355, 356, 357, 358, 212, 359, 360, 361, 362, 216, 118, 121, 211, 220, 176, 195, 313, 269, 223, 227, 333, 347, 349, 363, 225, 215, 1116, 1117, 1119, 1126, 1127, 1128, 1129, 1130, 1133, 1134, 1137, 1138, 1139, 1140, 1121, 1122, 1123, 1120, 1125, 1124, 1131, 1132, 1135, 1136, 1118, 1584, 1583]
def MLk : List (Nat × Nat × Nat) := [(0, 15, 56), (0, 37, 55), (0, 57, 33), (0, 61, 58), (0, 65, 20), (0, 74, 255), (0, 80, 57), (0, 82, 22), (0, 86, 1), (0, 90, 4), (0, 101, 3), (0, 104, 5), (0, 107, 66), (0, 110, 7), (0, 113, 59), (0, 116, 2), (0, 119, 9), (0, 123, 11), (0, 126, 68), (0, 129, 12), (0, 132, 14), (0, 138, 13), (0, 144, 81), (0, 147, 80), (1, 17, 55), (1, 30, 17), (1, 37, 66), (1, 40, 57), (1, 44, 59), (1, 47, 60), (1, 51, 18), (2, 17, 72), (2, 20, 56), (2, 32, 15), (2, 40, 55), (2, 60, 20), (2, 64, 73), (2, 68, 61), (2, 82, 24), (2, 86, 27), (2, 90, 255), (2, 99, 79), (2, 109, 28), (2, 113, 26), (2, 116, 57), (2, 118, 29), (2, 121, 31), (2, 124, 33), (2, 133, 16), (2, 136, 78), (2, 140, 32), (2, 143, 68), (2, 149, 80), (2, 152, 81), (2, 155, 58), (2, 158, 22), (2, 161, 34), (2, 164, 37), (2, 167, 38), (2, 182, 64), (2, 185, 82), (2, 192, 69), (3, 23, 55), (3, 37, 66), (3, 40, 49), (3, 47, 57), (3, 50, 50), (3, 54, 47), (3, 58, 48), (3, 61, 59), (3, 64, 54), (3, 67, 53), (3, 70, 248), (3, 75, 51), (3, 78, 52), (4, 19, 55), (4, 26, 57), (4, 30, 58), (4, 34, 64), (4, 43, 68), (4, 49, 71), (4, 53, 70), (5, 36, 74), (5, 46, 78), (5, 54, 75), (5, 58, 255), (6, 11, 55), (6, 24, 67), (6, 27, 58), (7, 11, 55), (7, 20, 88), (7, 32, 87), (7, 35, 59), (7, 38, 90), (7, 51, 89), (8, 17, 55), (8, 24, 25), (8, 30, 24), (8, 33, 22), (8, 36, 255), (8, 42, 27), (8, 46, 26), (8, 49, 66), (8, 52, 59), (8, 55, 31), (8, 62, 57), (9, 11, 19), (9, 21, 0), (9, 30, 91), (9, 41, 45), (9, 50, 86), (9, 61, 83), (9, 66, 140), (9, 70, 139), (9, 73, 146), (9, 78, 136), (9, 87, 23), (9, 91, 137), (9, 94, 20), (9, 98, 74), (9, 104, 26), (9, 108, 28), (9, 112, 149), (9, 115, 29), (9, 119, 148), (9, 123, 75), (9, 132, 151), (9, 136, 76), (9, 139, 77), (9, 142, 138), (9, 148, 57), (9, 152, 63), (9, 155, 62), (9, 159, 61), (9, 166, 32), (9, 169, 36), (9, 172, 30), (9, 176, 65), (9, 182, 59), (9, 185, 141), (9, 188, 46), (9, 191, 66), (9, 194, 21), (9, 204, 69), (9, 207, 16), (9, 211, 6), (9, 217, 10), (9, 220, 8), (9, 223, 92), (9, 226, 255), (9, 231, 93), (9, 234, 94), (9, 237, 24), (9, 240, 27), (9, 243, 145), (9, 246, 41), (9, 249, 42), (9, 255, 43), (9, 264, 89), (9, 268, 142), (9, 272, 143), (9, 276, 84), (9, 279, 144), (9, 285, 85), (9, 291, 70), (9, 294, 71), (9, 298, 40), (9, 307, 44), (9, 318, 35), (9, 321, 34), (9, 324, 37), (9, 327, 38), (9, 330, 39), (9, 334, 22), (9, 343, 150), (10, 53, 154), (10, 70, 160), (10, 78, 165), (10, 81, 162), (10, 85, 166), (10, 88, 167), (10, 91, 168), (10, 94, 169), (10, 100, 161), (10, 103, 164), (10, 106, 163), (10, 116, 153), (10, 121, 170), (10, 125, 155), (10, 128, 173), (10, 132, 157), (10, 136, 159), (10, 139, 176), (10, 143, 177), (10, 146, 179), (10, 155, 158), (10, 159, 156), (10, 168, 178), (10, 171, 180), (10, 176, 175), (10, 179, 190), (10, 182, 188), (10, 185, 189), (10, 188, 191), (10, 191, 192), (10, 194, 197), (10, 197, 200), (10, 206, 205), (10, 212, 206), (10, 216, 207), (10, 222, 211), (10, 225, 212), (10, 228, 213), (10, 231, 214), (10, 234, 216), (10, 237, 193), (10, 240, 194), (10, 243, 195), (10, 250, 220), (10, 254, 222), (10, 263, 225), (10, 267, 227), (10, 270, 226), (10, 273, 228), (10, 276, 229), (10, 279, 230), (10, 284, 233), (10, 287, 237), (10, 293, 244), (11, 335, 250), (11, 492, 251), (11, 505, 247), (11, 633, 249), (11, 637, 253), (12, 88, 252), (12, 95, 254), (15, 9, 95), (15, 12, 152), (15, 13, 96), (15, 17, 181), (15, 18, 97), (15, 21, 182), (15, 22, 98), (15, 26, 183), (15, 27, 99), (15, 30, 184), (15, 31, 100), (15, 34, 185), (15, 35, 101), (15, 39, 186), (15, 40, 102), (15, 44, 187), (15, 45, 103), (15, 49, 196), (15, 50, 104), (15, 53, 198), (15, 54, 105), (15, 57, 199), (15, 58, 106), (15, 61, 201), (15, 62, 107), (15, 65, 202), (15, 66, 108), (15, 69, 203), (15, 70, 109), (15, 73, 204), (15, 76, 110), (15, 80, 171), (15, 81, 111), (15, 84, 172), (15, 85, 112), (15, 88, 174), (15, 89, 113), (15, 92, 208), (15, 93, 114), (15, 96, 209), (15, 97, 115), (15, 100, 210), (15, 101, 116), (15, 104, 215), (15, 105, 117), (15, 108, 217), (15, 109, 118), (15, 112, 218), (15, 113, 119), (15, 116, 219), (15, 117, 120), (15, 120, 221), (15, 121, 121), (15, 124, 223), (15, 125, 122), (15, 128, 224), (15, 129, 123), (15, 132, 231), (15, 133, 124), (15, 136, 232), (15, 137, 125), (15, 140, 234), (15, 141, 126), (15, 144, 235), (15, 145, 127), (15, 149, 236), (15, 150, 128), (15, 153, 238), (15, 154, 129), (15, 157, 239), (15, 158, 130), (15, 161, 240), (15, 162, 131), (15, 165, 241), (15, 166, 132), (15, 169, 242), (15, 170, 133), (15, 173, 243), (15, 174, 134), (15, 177, 245), (15, 178, 135), (15, 181, 246)]
def MLkp : List Nat := [259, 261, 811, 812, 825, 826, 827, 817, 818, 821, 807, 813, 830, 831, 835, 881, 887, 844, 865, 848, 869, 852, 856, 860, 191, 576, 580, 584, 585, 589, 593, 110, 159, 186, 205, 412, 416, 424, 446, 450, 454, 460, 488, 620, 563, 621, 564, 568, 572, 603, 1094, 956, 957, 958, 959, 1060, 948, 952, 960, 980, 1073, 1077, 308, 658, 659, 671, 663, 667, 770, 679, 672, 675, 680, 762, 766, 164, 545, 635, 631, 1032, 783, 787, 420, 494, 520, 464, 345, 1027, 1045, 331, 996, 993, 1002, 1003, 1007, 292, 899, 903, 904, 905, 906, 915, 916, 917, 922, 923, 103, 255, 287, 302, 326, 340, 387, 393, 390, 402, 408, 432, 436, 437, 442, 468, 480, 484, 489, 490, 506, 512, 516, 529, 533, 541, 546, 550, 559, 608, 616, 627, 644, 649, 652, 773, 774, 778, 798, 803, 840, 877, 895, 483, 911, 918, 933, 934, 939, 944, 964, 975, 989, 1016, 1019, 1023, 1037, 1041, 1050, 1051, 1056, 1069, 1090, 1099, 1100, 1101, 1102, 397, 475, 1197, 1238, 1218, 1246, 1222, 1226, 1230, 1234, 1242, 1214, 1250, 1200, 1210, 1264, 1260, 1293, 1305, 1301, 1297, 1312, 1274, 1282, 1308, 1316, 1329, 1372, 1364, 1368, 1405, 1401, 1348, 1360, 1409, 1397, 1392, 1434, 1438, 1426, 1430, 1446, 1467, 1471, 1475, 1463, 1485, 1507, 1503, 1499, 1511, 1515, 1519, 1531, 1546, 1574, 698, 688, 694, 684, 702, 705, 710, 95, 1112, 383, 1267, 428, 1278, 438, 1288, 498, 1320, 502, 1324, 508, 1332, 521, 1336, 525, 1340, 537, 1344, 551, 1352, 555, 1356, 604, 1376, 612, 1380, 623, 1384, 639, 1192, 645, 1206, 794, 1256, 799, 1388, 836, 1413, 873, 1417, 891, 1422, 907, 1442, 925, 1450, 929, 1454, 935, 1458, 971, 1481, 981, 1490, 985, 1494, 1008, 1523, 1012, 1527, 1033, 1534, 1046, 1538, 1052, 1542, 1061, 1550, 1065, 1554, 1078, 1558, 1082, 1562, 1086, 1566, 1095, 1570, 1106, 1578]
def NLk : List (Nat × Nat × Nat) := [(0, 47, 146), (0, 150, 148), (1, 34, 147), (2, 78, 148), (2, 103, 151), (2, 175, 147), (4, 37, 147), (5, 50, 146), (7, 24, 150), (8, 65, 148)]
def NLkp : List Nat := [886, 864, 596, 465, 472, 970, 1031, 515, 1001, 924]
def XLk : List (Nat × Nat) := [(0, 98), (4, 7), (9, 337), (12, 92)]
def XLkp : List Nat := [829, 168, 602, 708]
def YLk : List (Nat × Nat) := [(0, 93), (4, 46), (9, 302), (12, 38)]
def YLkp : List Nat := [828, 782, 599, 709]
def OLk : List (Nat × Nat) := [(0, 3), (1, 3), (2, 3), (3, 3), (4, 1), (5, 3), (6, 3), (7, 3), (8, 3), (9, 3), (10, 1)]
def OLkp : List Nat := [258, 189, 106, 305, 167, 113, 343, 329, 290, 98, 1115]
def ALk : List (Nat × Nat) := [(4, 57)]
def ALkp : List Nat := [791]
def CNk : List (Nat × Nat × Int) := [(2, 173, (-99999)), (2, 174, 99999), (2, 181, 1103515245), (9, 77, (-1000000001)), (9, 86, (-1000000004)), (9, 135, (-1000000005)), (9, 175, (-1000000002)), (9, 271, (-1000000003)), (9, 333, (-1000000000)), (10, 52, (-1000000000)), (10, 246, (-99999)), (10, 247, 99999), (10, 253, 1103515245), (13, 265, 1431655765), (13, 266, 858993459), (13, 267, 252645135)]
def CNkp : List Nat := [968, 969, 979, 401, 407, 507, 622, 943, 406, 1204, 1479, 1480, 1489, 457, 458, 459]
def CLk : List (Nat × Nat × Int) := [(9, 180, 255), (10, 110, 48), (10, 112, 57), (10, 114, 8), (10, 119, 255), (10, 149, 69), (10, 151, 30), (10, 153, 63), (10, 162, 4), (10, 164, 5), (10, 166, 10), (10, 174, 6), (10, 210, (-1)), (10, 220, 9999), (10, 248, 200), (10, 282, 3), (15, 74, 4294967295)]
def CLkp : List Nat := [643, 1254, 1255, 1196, 1205, 1271, 1272, 1273, 1286, 1287, 1292, 1328, 1396, 1421, 1462, 1498, 1582]
def CSk : List (Nat × Nat × Nat) := [(0, 16, 4), (1, 15, 4), (2, 9, 5), (2, 21, 4), (2, 30, 1), (3, 21, 4), (4, 14, 4), (6, 9, 4), (7, 9, 4), (8, 15, 4), (9, 9, 2), (9, 19, 0), (9, 28, 8), (9, 35, 3), (9, 48, 7), (9, 55, 6), (15, 7, 9), (15, 10, 10)]
def CSkp : List Nat := [260, 190, 107, 204, 184, 307, 162, 344, 330, 291, 101, 253, 285, 300, 324, 337, 93, 1110]
def SRk : List (Nat × Nat × Nat) := [(3, 15, 0), (3, 29, 1), (3, 31, 2)]
def SRkp : List Nat := [306, 656, 657]
def STk : List (Nat × Nat × Nat) := [(0, 43, 1), (7, 28, 2), (9, 340, 0), (11, 38, 3)]
def STkp : List Nat := [884, 999, 478, 692]
end
section
/-! the program's data, checked against the class files' bytes and the tables' words -/
def tbS : List Int → Int → Int → List (Int × Nat)
  | [], _, _ => []
  | o :: l, lo, pc => (lo, (pc + o).toNat) :: tbS l (lo + 1) pc
def tgE (pc : Nat) (off x : Int) : Bool := decide ((pc : Int) + off = x) && decide (0 ≤ x)
def okE (k pc n : Nat) (i : Instr) (x : Int) (ps : List (Int × Nat)) : Bool := match i with
  | .iconst c => n == 1 && decide (x = c)
  | .bipush c => n == 2 && decide ((Int8.ofInt c).toInt32 = Int32.ofInt x)
  | .sipush c => n == 3 && decide ((Int16.ofInt c).toInt32 = Int32.ofInt x)
  | .lconst _ => n == 1
  | .ldc j => n == 2 && (match ps with
    | [] => decide ((mOwn k, j, x) ∈ CNk)
    | _ => decide (0 ≤ x) && decide ((mOwn k, j, x.toNat) ∈ SRk))
  | .ldc_w j => n == 3 && decide ((mOwn k, j, x) ∈ CNk)
  | .ldc2_w j => n == 3 && decide ((mOwn k, j, x) ∈ CLk)
  | .iload _ => n == 2
  | .iload_n _ => n == 1
  | .aload _ => n == 2
  | .aload_n _ => n == 1
  | .lload _ => n == 2
  | .lload_n _ => n == 1
  | .istore _ => n == 2
  | .istore_n _ => n == 1
  | .astore _ => n == 2
  | .astore_n _ => n == 1
  | .iinc _ _ => n == 3
  | .iadd | .isub | .imul | .idiv | .irem | .ineg | .iand | .ior | .ixor | .ishl | .ishr | .iushr => n == 1
  | .i2l | .l2i | .i2b | .i2s | .i2c | .land | .lor | .lshl | .lshr | .lushr | .lcmp => n == 1
  | .dup | .dup2 | .pop | .arraylength | .iaload | .baload | .aaload | .iastore | .aastore => n == 1
  | .ireturn | .areturn | .return_ => n == 1
  | .goto o => n == 3 && tgE pc o x
  | .if_icmp _ o => n == 3 && tgE pc o x
  | .ifCond _ o => n == 3 && tgE pc o x
  | .getfield j => n == 3 && decide (0 ≤ x) && decide ((mOwn k, j, x.toNat) ∈ FLk)
  | .putfield j => n == 3 && decide (0 ≤ x) && decide ((mOwn k, j, x.toNat) ∈ FLk) && decide (x.toNat / 32 < 11) && (if (cTt (x.toNat / 32) (x.toNat % 32)).2.2.2 then decide ((mYn k).name = "<init>") && decide ((cTt (x.toNat / 32) (x.toNat % 32)).1 = cNm (mOwn k)) else true)
  | .getstatic j => n == 3 && decide (0 ≤ x) && decide ((mOwn k, j, x.toNat) ∈ STk)
  | .invokevirtual j => n == 3 && (decide (x = -9) || (decide (0 ≤ x) && decide ((mOwn k, j, x.toNat) ∈ MLk) && !(mSt x.toNat) && decide ((mYn x.toNat).name ≠ "<init>") && decide (mOwn x.toNat < 12)))
  | .invokestatic j => n == 3 && (decide (x = -9) || (decide (x = -2) && decide ((mOwn k, j) ∈ ALk)) || (decide (x = -3) && decide ((mOwn k, j) ∈ XLk)) || (decide (x = -4) && decide ((mOwn k, j) ∈ YLk)) || (decide (0 ≤ x) && (decide ((mOwn k, j, x.toNat) ∈ MLk) || decide ((mOwn k, j, x.toNat) ∈ NLk)) && mSt x.toNat))
  | .invokespecial j => n == 3 && ((decide (x = -1) && decide ((mOwn k, j) ∈ OLk)) || (decide (0 ≤ x) && decide ((mOwn k, j, x.toNat) ∈ MLk) && !(mSt x.toNat) && decide ((mYn x.toNat).name = "<init>") && decide (mRet x.toNat = none)))
  | .new j => n == 3 && decide (0 ≤ x) && decide ((mOwn k, j, x.toNat) ∈ CSk) && decide (x.toNat < 11)
  | .newarray t => n == 2 && decide (t = .int)
  | .anewarray j => n == 3 && ((decide (x = 2) && decide ((mOwn k, j, 5) ∈ CSk)) || (decide (x = 3) && decide ((mOwn k, j, 6) ∈ CSk)))
  | .tableswitch d lo hi offs => decide (0 ≤ x) && decide ((pc : Int) + d = x) && decide (ps = tbS offs.toList lo pc) && decide (lo + (offs.toList.length : Int) = hi + 1) && decide (-2147483648 ≤ lo) && decide (hi ≤ 2147483647) && offs.toList.all (fun o => decide (0 ≤ (pc : Int) + o))
  | .lookupswitch d prs => decide (0 ≤ x) && decide ((pc : Int) + d = x) && decide (ps = prs.toList.map (fun q => (q.1, ((pc : Int) + q.2).toNat))) && prs.toList.all (fun q => decide (0 ≤ (pc : Int) + q.2) && decide (-2147483648 ≤ q.1) && decide (q.1 ≤ 2147483647)) && (prs.toList.zip (prs.toList.drop 1)).all (fun (a, next) => a.1 < next.1)
  | _ => false
def chkE (k pc : Nat) (e : pE) : Bool := match decode (mCode k) pc with
  | .ok (i, n) => decide (i = e.1) && okE k pc n e.1 e.2.1 e.2.2
  | _ => false
def chkM (k : Nat) : Bool := (pCode k).all fun row => row.all fun q => chkE k q.1 q.2
theorem chk_spec {k pc : Nat} {e : pE} (h : chkE k pc e = true) : ∃ n, decode (mCode k) pc = .ok (e.1, n) ∧ okE k pc n e.1 e.2.1 e.2.2 = true := by
  unfold chkE at h
  split at h
  · rename_i i n hd
    simp only [Bool.and_eq_true, decide_eq_true_eq] at h
    obtain ⟨h1, h2⟩ := h
    subst h1
    exact ⟨n, hd, h2⟩
  · cases h
set_option maxRecDepth 100000 in
theorem chk_c0 : ((List.range 16).all fun j => chkM (0 * 16 + j)) = true := by decide +kernel
set_option maxRecDepth 100000 in
theorem chk_c1 : ((List.range 16).all fun j => chkM (1 * 16 + j)) = true := by decide +kernel
set_option maxRecDepth 100000 in
theorem chk_c2 : ((List.range 16).all fun j => chkM (2 * 16 + j)) = true := by decide +kernel
set_option maxRecDepth 100000 in
theorem chk_c3 : ((List.range 16).all fun j => chkM (3 * 16 + j)) = true := by decide +kernel
set_option maxRecDepth 100000 in
theorem chk_c4 : ((List.range 16).all fun j => chkM (4 * 16 + j)) = true := by decide +kernel
set_option maxRecDepth 100000 in
theorem chk_c5 : ((List.range 16).all fun j => chkM (5 * 16 + j)) = true := by decide +kernel
set_option maxRecDepth 100000 in
theorem chk_c6 : ((List.range 16).all fun j => chkM (6 * 16 + j)) = true := by decide +kernel
set_option maxRecDepth 100000 in
theorem chk_c7 : ((List.range 16).all fun j => chkM (7 * 16 + j)) = true := by decide +kernel
set_option maxRecDepth 100000 in
theorem chk_c8 : ((List.range 16).all fun j => chkM (8 * 16 + j)) = true := by decide +kernel
set_option maxRecDepth 100000 in
theorem chk_c9 : ((List.range 16).all fun j => chkM (9 * 16 + j)) = true := by decide +kernel
set_option maxRecDepth 100000 in
theorem chk_c10 : ((List.range 16).all fun j => chkM (10 * 16 + j)) = true := by decide +kernel
set_option maxRecDepth 100000 in
theorem chk_c11 : ((List.range 16).all fun j => chkM (11 * 16 + j)) = true := by decide +kernel
set_option maxRecDepth 100000 in
theorem chk_c12 : ((List.range 16).all fun j => chkM (12 * 16 + j)) = true := by decide +kernel
set_option maxRecDepth 100000 in
theorem chk_c13 : ((List.range 16).all fun j => chkM (13 * 16 + j)) = true := by decide +kernel
set_option maxRecDepth 100000 in
theorem chk_c14 : ((List.range 16).all fun j => chkM (14 * 16 + j)) = true := by decide +kernel
set_option maxRecDepth 100000 in
theorem chk_c15 : ((List.range 16).all fun j => chkM (15 * 16 + j)) = true := by decide +kernel
theorem chk_of {c : Nat} (h : ((List.range 16).all fun j => chkM (c * 16 + j)) = true) {k : Nat} (hk : k / 16 = c) : chkM k = true := by
  have h1 := List.all_eq_true.mp h (k % 16) (List.mem_range.mpr (Nat.mod_lt _ (by decide)))
  have e : c * 16 + k % 16 = k := by omega
  rw [e] at h1
  exact h1
def chkR (r : Nat) : Bool := ((pCode 256).getD r []).all fun q => chkE 256 q.1 q.2
set_option maxRecDepth 100000 in
theorem chk_Ln : (pCode 256).length = 44 := by decide +kernel
set_option maxRecDepth 100000 in
theorem chk_L0 : chkR 0 = true := by decide +kernel
set_option maxRecDepth 100000 in
theorem chk_L1 : chkR 1 = true := by decide +kernel
set_option maxRecDepth 100000 in
theorem chk_L2 : chkR 2 = true := by decide +kernel
set_option maxRecDepth 100000 in
theorem chk_L3 : chkR 3 = true := by decide +kernel
set_option maxRecDepth 100000 in
theorem chk_L4 : chkR 4 = true := by decide +kernel
set_option maxRecDepth 100000 in
theorem chk_L5 : chkR 5 = true := by decide +kernel
set_option maxRecDepth 100000 in
theorem chk_L6 : chkR 6 = true := by decide +kernel
set_option maxRecDepth 100000 in
theorem chk_L7 : chkR 7 = true := by decide +kernel
set_option maxRecDepth 100000 in
theorem chk_L8 : chkR 8 = true := by decide +kernel
set_option maxRecDepth 100000 in
theorem chk_L9 : chkR 9 = true := by decide +kernel
set_option maxRecDepth 100000 in
theorem chk_L10 : chkR 10 = true := by decide +kernel
set_option maxRecDepth 100000 in
theorem chk_L11 : chkR 11 = true := by decide +kernel
set_option maxRecDepth 100000 in
theorem chk_L12 : chkR 12 = true := by decide +kernel
set_option maxRecDepth 100000 in
theorem chk_L13 : chkR 13 = true := by decide +kernel
set_option maxRecDepth 100000 in
theorem chk_L14 : chkR 14 = true := by decide +kernel
set_option maxRecDepth 100000 in
theorem chk_L15 : chkR 15 = true := by decide +kernel
set_option maxRecDepth 100000 in
theorem chk_L16 : chkR 16 = true := by decide +kernel
set_option maxRecDepth 100000 in
theorem chk_L17 : chkR 17 = true := by decide +kernel
set_option maxRecDepth 100000 in
theorem chk_L18 : chkR 18 = true := by decide +kernel
set_option maxRecDepth 100000 in
theorem chk_L19 : chkR 19 = true := by decide +kernel
set_option maxRecDepth 100000 in
theorem chk_L20 : chkR 20 = true := by decide +kernel
set_option maxRecDepth 100000 in
theorem chk_L21 : chkR 21 = true := by decide +kernel
set_option maxRecDepth 100000 in
theorem chk_L22 : chkR 22 = true := by decide +kernel
set_option maxRecDepth 100000 in
theorem chk_L23 : chkR 23 = true := by decide +kernel
set_option maxRecDepth 100000 in
theorem chk_L24 : chkR 24 = true := by decide +kernel
set_option maxRecDepth 100000 in
theorem chk_L25 : chkR 25 = true := by decide +kernel
set_option maxRecDepth 100000 in
theorem chk_L26 : chkR 26 = true := by decide +kernel
set_option maxRecDepth 100000 in
theorem chk_L27 : chkR 27 = true := by decide +kernel
set_option maxRecDepth 100000 in
theorem chk_L28 : chkR 28 = true := by decide +kernel
set_option maxRecDepth 100000 in
theorem chk_L29 : chkR 29 = true := by decide +kernel
set_option maxRecDepth 100000 in
theorem chk_L30 : chkR 30 = true := by decide +kernel
set_option maxRecDepth 100000 in
theorem chk_L31 : chkR 31 = true := by decide +kernel
set_option maxRecDepth 100000 in
theorem chk_L32 : chkR 32 = true := by decide +kernel
set_option maxRecDepth 100000 in
theorem chk_L33 : chkR 33 = true := by decide +kernel
set_option maxRecDepth 100000 in
theorem chk_L34 : chkR 34 = true := by decide +kernel
set_option maxRecDepth 100000 in
theorem chk_L35 : chkR 35 = true := by decide +kernel
set_option maxRecDepth 100000 in
theorem chk_L36 : chkR 36 = true := by decide +kernel
set_option maxRecDepth 100000 in
theorem chk_L37 : chkR 37 = true := by decide +kernel
set_option maxRecDepth 100000 in
theorem chk_L38 : chkR 38 = true := by decide +kernel
set_option maxRecDepth 100000 in
theorem chk_L39 : chkR 39 = true := by decide +kernel
set_option maxRecDepth 100000 in
theorem chk_L40 : chkR 40 = true := by decide +kernel
set_option maxRecDepth 100000 in
theorem chk_L41 : chkR 41 = true := by decide +kernel
set_option maxRecDepth 100000 in
theorem chk_L42 : chkR 42 = true := by decide +kernel
set_option maxRecDepth 100000 in
theorem chk_L43 : chkR 43 = true := by decide +kernel
theorem chk_L {r : Nat} (h : r < 44) : chkR r = true := by
  match r, h with
  | 0, _ => exact chk_L0
  | 1, _ => exact chk_L1
  | 2, _ => exact chk_L2
  | 3, _ => exact chk_L3
  | 4, _ => exact chk_L4
  | 5, _ => exact chk_L5
  | 6, _ => exact chk_L6
  | 7, _ => exact chk_L7
  | 8, _ => exact chk_L8
  | 9, _ => exact chk_L9
  | 10, _ => exact chk_L10
  | 11, _ => exact chk_L11
  | 12, _ => exact chk_L12
  | 13, _ => exact chk_L13
  | 14, _ => exact chk_L14
  | 15, _ => exact chk_L15
  | 16, _ => exact chk_L16
  | 17, _ => exact chk_L17
  | 18, _ => exact chk_L18
  | 19, _ => exact chk_L19
  | 20, _ => exact chk_L20
  | 21, _ => exact chk_L21
  | 22, _ => exact chk_L22
  | 23, _ => exact chk_L23
  | 24, _ => exact chk_L24
  | 25, _ => exact chk_L25
  | 26, _ => exact chk_L26
  | 27, _ => exact chk_L27
  | 28, _ => exact chk_L28
  | 29, _ => exact chk_L29
  | 30, _ => exact chk_L30
  | 31, _ => exact chk_L31
  | 32, _ => exact chk_L32
  | 33, _ => exact chk_L33
  | 34, _ => exact chk_L34
  | 35, _ => exact chk_L35
  | 36, _ => exact chk_L36
  | 37, _ => exact chk_L37
  | 38, _ => exact chk_L38
  | 39, _ => exact chk_L39
  | 40, _ => exact chk_L40
  | 41, _ => exact chk_L41
  | 42, _ => exact chk_L42
  | 43, _ => exact chk_L43
  | r + 44, h => exact absurd h (by omega)
theorem allL {α : Type} (P : α → Bool) (C : List (List α)) (h : ∀ r, r < C.length → ((C.getD r []).all P) = true) : (C.all fun row => row.all P) = true := by
  refine List.all_eq_true.mpr fun row hr => ?_
  obtain ⟨i, hi⟩ := List.getElem?_of_mem hr
  have h1 := h i (List.getElem?_eq_some_iff.mp hi).1
  rw [List.getD_eq_getElem?_getD, hi] at h1
  exact h1
theorem chk_256 : chkM 256 = true := allL _ _ (fun r hr => chk_L (by rw [chk_Ln] at hr; exact hr))
theorem chk_all {k : Nat} (hk : k < 257) : chkM k = true := by
  by_cases h : k < 256
  · have h : k / 16 < 16 := by omega
    generalize hc : k / 16 = c at h
    match c, h, hc with
    | 0, _, hc => exact chk_of chk_c0 hc
    | 1, _, hc => exact chk_of chk_c1 hc
    | 2, _, hc => exact chk_of chk_c2 hc
    | 3, _, hc => exact chk_of chk_c3 hc
    | 4, _, hc => exact chk_of chk_c4 hc
    | 5, _, hc => exact chk_of chk_c5 hc
    | 6, _, hc => exact chk_of chk_c6 hc
    | 7, _, hc => exact chk_of chk_c7 hc
    | 8, _, hc => exact chk_of chk_c8 hc
    | 9, _, hc => exact chk_of chk_c9 hc
    | 10, _, hc => exact chk_of chk_c10 hc
    | 11, _, hc => exact chk_of chk_c11 hc
    | 12, _, hc => exact chk_of chk_c12 hc
    | 13, _, hc => exact chk_of chk_c13 hc
    | 14, _, hc => exact chk_of chk_c14 hc
    | 15, _, hc => exact chk_of chk_c15 hc
    | c + 16, h, _ => exact absurd h (by omega)
  · have h : k = 256 := by omega
    subst h; exact chk_256
theorem pFind_mem {pc : Nat} {e : pE} : ∀ {l : List (Nat × pE)}, pFind pc l = some e → (pc, e) ∈ l := by
  intro l
  induction l with
  | nil => intro h; cases h
  | cons q l ih =>
    intro h
    obtain ⟨p, x⟩ := q
    unfold pFind at h
    cases hb : Nat.beq p pc with
    | true =>
      rw [hb] at h
      have h1 : p = pc := Nat.eq_of_beq_eq_true hb
      have h2 : x = e := Option.some.inj h
      subst h1; subst h2
      exact List.mem_cons_self
    | false =>
      rw [hb] at h
      exact List.mem_cons_of_mem _ (ih h)
theorem pf_chk {pc i : Nat} {e : pE} (C : List (List (Nat × pE))) (P : Nat × pE → Bool) (h : (C.all fun row => row.all P) = true) (hf : pFind pc (C.getD i []) = some e) : P (pc, e) = true := by
  have h2 := pFind_mem hf
  rw [List.getD_eq_getElem?_getD] at h2
  cases hr : C[i]? with
  | none => rw [hr] at h2; simp at h2
  | some row =>
    rw [hr] at h2
    exact List.all_eq_true.mp (List.all_eq_true.mp h row (List.mem_of_getElem? hr)) _ h2
theorem pEnt_chk {k pc : Nat} {e : pE} (hk : k < 257) (h : pEnt k pc = some e) : chkE k pc e = true := pf_chk (pCode k) (fun q => chkE k q.1 q.2) (chk_all hk) h
def gT : List Cond := lw_tbl.filter goodWord
theorem gT_i {i : Nat} {w : Cond} (h : (decide (lw_tbl[i]? = some w) && goodWord w) = true) : w ∈ gT := by
  simp only [Bool.and_eq_true, decide_eq_true_eq] at h
  exact List.mem_filter.mpr ⟨List.mem_of_getElem? h.1, h.2⟩
end
section
/-! words by their places -/
theorem zip_mem {α : Type} {l : List α} {ps : List Nat} {f : α → Cond} (hl : l.length = ps.length) (h : (l.zip ps).all (fun q => decide (lw_tbl[q.2]? = some (f q.1)) && goodWord (f q.1)) = true) : ∀ q ∈ l, f q ∈ gT := by
  intro q hq
  obtain ⟨i, hi⟩ := List.getElem?_of_mem hq
  have hlt : i < l.length := (List.getElem?_eq_some_iff.mp hi).1
  have hlt2 : i < ps.length := by omega
  have hz : (l.zip ps)[i]? = some (q, ps[i]) := by
    rw [List.getElem?_zip_eq_some]
    exact ⟨hi, List.getElem?_eq_getElem hlt2⟩
  have h1 := List.all_eq_true.mp h _ (List.mem_of_getElem? hz)
  exact gT_i h1
def wFL (q : Nat × Nat × Nat) : Cond := .fieldLink (cNm q.1) q.2.1 (cTt (q.2.2 / 32) (q.2.2 % 32)).1 (cTt (q.2.2 / 32) (q.2.2 % 32)).2.1 (cTt (q.2.2 / 32) (q.2.2 % 32)).2.2.1
def wML (q : Nat × Nat × Nat) : Cond := .methodLink (cNm q.1) q.2.1 (mYn q.2.2)
def wNL (q : Nat × Nat × Nat) : Cond := .methodLinkNest (cNm q.1) q.2.1 (mYn q.2.2) "PlayedBack"
def wXL (q : Nat × Nat) : Cond := .methodLink (cNm q.1) q.2 Lib.Math.max.name
def wYL (q : Nat × Nat) : Cond := .methodLink (cNm q.1) q.2 Lib.Math.min.name
def wOL (q : Nat × Nat) : Cond := .methodLink (cNm q.1) q.2 Lib.objectInit
def wAL (q : Nat × Nat) : Cond := .methodLink (cNm q.1) q.2 arraycopyName
def wCN (q : Nat × Nat × Int) : Cond := .constant (cNm q.1) q.2.1 (Int32.ofInt q.2.2)
def wCL (q : Nat × Nat × Int) : Cond := .constantLong (cNm q.1) q.2.1 (Int64.ofInt q.2.2)
def wCS (q : Nat × Nat × Nat) : Cond := .classLink (cNm q.1) q.2.1 (cNm q.2.2)
def sTx : Nat → String
  | 0 => ""
  | 1 => "clm"
  | _ => "ghr"
def wSR (q : Nat × Nat × Nat) : Cond := .stringRef (cNm q.1) q.2.1 (sTx q.2.2)
def sTa : Nat → String × String × String
  | 0 => ("PlayedBack", "ABOVE", "[I")
  | 1 => ("PlayedBack$Choices", "WAYS", "[I")
  | 2 => ("PlayedBack$Voices", "BODIES", "[I")
  | _ => ("java/lang/String", "COMPACT_STRINGS", "Z")
def wST (q : Nat × Nat × Nat) : Cond := .fieldLink (cNm q.1) q.2.1 (sTa q.2.2).1 (sTa q.2.2).2.1 (sTa q.2.2).2.2
set_option maxRecDepth 100000 in
theorem FL_in : ∀ q ∈ FLk, wFL q ∈ gT := zip_mem (ps := FLkp) (by decide +kernel) (by decide +kernel)
set_option maxRecDepth 100000 in
theorem ML_in : ∀ q ∈ MLk, wML q ∈ gT := zip_mem (ps := MLkp) (by decide +kernel) (by decide +kernel)
set_option maxRecDepth 100000 in
theorem OL_in : ∀ q ∈ OLk, wOL q ∈ gT := zip_mem (ps := OLkp) (by decide +kernel) (by decide +kernel)
set_option maxRecDepth 100000 in
theorem AL_in : ∀ q ∈ ALk, wAL q ∈ gT := zip_mem (ps := ALkp) (by decide +kernel) (by decide +kernel)
set_option maxRecDepth 100000 in
theorem CN_in : ∀ q ∈ CNk, wCN q ∈ gT := zip_mem (ps := CNkp) (by decide +kernel) (by decide +kernel)
set_option maxRecDepth 100000 in
theorem CL_in : ∀ q ∈ CLk, wCL q ∈ gT := zip_mem (ps := CLkp) (by decide +kernel) (by decide +kernel)
set_option maxRecDepth 100000 in
theorem CS_in : ∀ q ∈ CSk, wCS q ∈ gT := zip_mem (ps := CSkp) (by decide +kernel) (by decide +kernel)
set_option maxRecDepth 100000 in
theorem ST_in : ∀ q ∈ STk, wST q ∈ gT := zip_mem (ps := STkp) (by decide +kernel) (by decide +kernel)
set_option maxRecDepth 100000 in
theorem XL_in : ∀ q ∈ XLk, wXL q ∈ gT := zip_mem (ps := XLkp) (by decide +kernel) (by decide +kernel)
set_option maxRecDepth 100000 in
theorem YL_in : ∀ q ∈ YLk, wYL q ∈ gT := zip_mem (ps := YLkp) (by decide +kernel) (by decide +kernel)
def wMc (k : Nat) : Cond := .code (mYn k) (mCode k) (mMax k) (mRet k)
def wMi (k : Nat) : Cond := if mSt k then .static (mYn k) else .instanceMethod (mYn k)
def mPl (k : Nat) : Nat × Nat × Nat := (pMt k).2.2.2.2.2.2.2.2
def chW (k : Nat) : Bool := (decide (lw_tbl[(mPl k).1]? = some (wMc k)) && goodWord (wMc k)) && (decide (lw_tbl[(mPl k).2.1]? = some (wMi k)) && goodWord (wMi k)) && (mSt k || decide ((mYn k).name = "<init>") || (decide (lw_tbl[(mPl k).2.2]? = some (.selects (cNm (mOwn k)) (mYn k) (mYn k))) && goodWord (.selects (cNm (mOwn k)) (mYn k) (mYn k)))) && decide ((mYn k).cls ≠ "java/lang/invoke/MethodHandle" ∧ (mYn k).cls ≠ "java/lang/invoke/VarHandle") && decide ((parseMethodDescriptor (mYn k).desc).map (fun d => d.parameters.length) = some (if mSt k then (mSig k).length else (mSig k).length - 1)) && plainName (mYn k).cls && decide (mMax k ≤ 20) && decide (mOwn k < 15) && (mSt k || decide (1 ≤ (mSig k).length))
set_option maxRecDepth 100000 in
theorem chW_c0 : ((List.range 16).all fun j => decide (256 ≤ 0 * 16 + j) || chW (0 * 16 + j)) = true := by decide +kernel
set_option maxRecDepth 100000 in
theorem chW_c1 : ((List.range 16).all fun j => decide (256 ≤ 1 * 16 + j) || chW (1 * 16 + j)) = true := by decide +kernel
set_option maxRecDepth 100000 in
theorem chW_c2 : ((List.range 16).all fun j => decide (256 ≤ 2 * 16 + j) || chW (2 * 16 + j)) = true := by decide +kernel
set_option maxRecDepth 100000 in
theorem chW_c3 : ((List.range 16).all fun j => decide (256 ≤ 3 * 16 + j) || chW (3 * 16 + j)) = true := by decide +kernel
set_option maxRecDepth 100000 in
theorem chW_c4 : ((List.range 16).all fun j => decide (256 ≤ 4 * 16 + j) || chW (4 * 16 + j)) = true := by decide +kernel
set_option maxRecDepth 100000 in
theorem chW_c5 : ((List.range 16).all fun j => decide (256 ≤ 5 * 16 + j) || chW (5 * 16 + j)) = true := by decide +kernel
set_option maxRecDepth 100000 in
theorem chW_c6 : ((List.range 16).all fun j => decide (256 ≤ 6 * 16 + j) || chW (6 * 16 + j)) = true := by decide +kernel
set_option maxRecDepth 100000 in
theorem chW_c7 : ((List.range 16).all fun j => decide (256 ≤ 7 * 16 + j) || chW (7 * 16 + j)) = true := by decide +kernel
set_option maxRecDepth 100000 in
theorem chW_c8 : ((List.range 16).all fun j => decide (256 ≤ 8 * 16 + j) || chW (8 * 16 + j)) = true := by decide +kernel
set_option maxRecDepth 100000 in
theorem chW_c9 : ((List.range 16).all fun j => decide (256 ≤ 9 * 16 + j) || chW (9 * 16 + j)) = true := by decide +kernel
set_option maxRecDepth 100000 in
theorem chW_c10 : ((List.range 16).all fun j => decide (256 ≤ 10 * 16 + j) || chW (10 * 16 + j)) = true := by decide +kernel
set_option maxRecDepth 100000 in
theorem chW_c11 : ((List.range 16).all fun j => decide (256 ≤ 11 * 16 + j) || chW (11 * 16 + j)) = true := by decide +kernel
set_option maxRecDepth 100000 in
theorem chW_c12 : ((List.range 16).all fun j => decide (256 ≤ 12 * 16 + j) || chW (12 * 16 + j)) = true := by decide +kernel
set_option maxRecDepth 100000 in
theorem chW_c13 : ((List.range 16).all fun j => decide (256 ≤ 13 * 16 + j) || chW (13 * 16 + j)) = true := by decide +kernel
set_option maxRecDepth 100000 in
theorem chW_c14 : ((List.range 16).all fun j => decide (256 ≤ 14 * 16 + j) || chW (14 * 16 + j)) = true := by decide +kernel
set_option maxRecDepth 100000 in
theorem chW_c15 : ((List.range 16).all fun j => decide (256 ≤ 15 * 16 + j) || chW (15 * 16 + j)) = true := by decide +kernel
theorem chW_of {c : Nat} (h : ((List.range 16).all fun j => decide (256 ≤ c * 16 + j) || chW (c * 16 + j)) = true) {k : Nat} (hk : k / 16 = c) (h8 : k < 256) : chW k = true := by
  have h1 := List.all_eq_true.mp h (k % 16) (List.mem_range.mpr (Nat.mod_lt _ (by decide)))
  have e : c * 16 + k % 16 = k := by omega
  rw [e] at h1
  simp only [Bool.or_eq_true, decide_eq_true_eq] at h1
  exact h1.resolve_left (by omega)
theorem chW_all {k : Nat} (hk : k < 256) : chW k = true := by
  have h : k / 16 < 16 := by omega
  generalize hc : k / 16 = c at h
  match c, h, hc with
  | 0, _, hc => exact chW_of chW_c0 hc hk
  | 1, _, hc => exact chW_of chW_c1 hc hk
  | 2, _, hc => exact chW_of chW_c2 hc hk
  | 3, _, hc => exact chW_of chW_c3 hc hk
  | 4, _, hc => exact chW_of chW_c4 hc hk
  | 5, _, hc => exact chW_of chW_c5 hc hk
  | 6, _, hc => exact chW_of chW_c6 hc hk
  | 7, _, hc => exact chW_of chW_c7 hc hk
  | 8, _, hc => exact chW_of chW_c8 hc hk
  | 9, _, hc => exact chW_of chW_c9 hc hk
  | 10, _, hc => exact chW_of chW_c10 hc hk
  | 11, _, hc => exact chW_of chW_c11 hc hk
  | 12, _, hc => exact chW_of chW_c12 hc hk
  | 13, _, hc => exact chW_of chW_c13 hc hk
  | 14, _, hc => exact chW_of chW_c14 hc hk
  | 15, _, hc => exact chW_of chW_c15 hc hk
  | c + 16, h, _ => exact absurd h (by omega)
set_option maxRecDepth 100000 in
theorem ini_in : ∀ c, c < 15 → Cond.initialized (cNm c) ∈ gT := by
  intro c hc
  match c, hc with
  | 0, _ => exact gT_i (i := 80) (by decide +kernel)
  | 1, _ => exact gT_i (i := 79) (by decide +kernel)
  | 2, _ => exact gT_i (i := 75) (by decide +kernel)
  | 3, _ => exact gT_i (i := 82) (by decide +kernel)
  | 4, _ => exact gT_i (i := 77) (by decide +kernel)
  | 5, _ => exact gT_i (i := 76) (by decide +kernel)
  | 6, _ => exact gT_i (i := 84) (by decide +kernel)
  | 7, _ => exact gT_i (i := 83) (by decide +kernel)
  | 8, _ => exact gT_i (i := 81) (by decide +kernel)
  | 9, _ => exact gT_i (i := 74) (by decide +kernel)
  | 10, _ => exact gT_i (i := 85) (by decide +kernel)
  | 11, _ => exact gT_i (i := 87) (by decide +kernel)
  | 12, _ => exact gT_i (i := 88) (by decide +kernel)
  | 13, _ => exact gT_i (i := 86) (by decide +kernel)
  | 14, _ => exact gT_i (i := 78) (by decide +kernel)
set_option maxRecDepth 100000 in
theorem ins_in : ∀ c, c < 11 → Cond.instantiable (cNm c) (cNf c) ∈ gT := by
  intro c hc
  match c, hc with
  | 0, _ => exact gT_i (i := 254) (by decide +kernel)
  | 1, _ => exact gT_i (i := 185) (by decide +kernel)
  | 2, _ => exact gT_i (i := 102) (by decide +kernel)
  | 3, _ => exact gT_i (i := 301) (by decide +kernel)
  | 4, _ => exact gT_i (i := 163) (by decide +kernel)
  | 5, _ => exact gT_i (i := 109) (by decide +kernel)
  | 6, _ => exact gT_i (i := 339) (by decide +kernel)
  | 7, _ => exact gT_i (i := 325) (by decide +kernel)
  | 8, _ => exact gT_i (i := 286) (by decide +kernel)
  | 9, _ => exact gT_i (i := 94) (by decide +kernel)
  | 10, _ => exact gT_i (i := 1111) (by decide +kernel)
theorem zip_memL {α : Type} {l : List α} {ps : List Nat} {f : α → Cond} (hl : l.length = ps.length) (h : (l.zip ps).all (fun q => decide (lw_tbl[q.2]? = some (f q.1))) = true) : ∀ q ∈ l, f q ∈ lw_tbl := by
  intro q hq
  obtain ⟨i, hi⟩ := List.getElem?_of_mem hq
  have hlt : i < l.length := (List.getElem?_eq_some_iff.mp hi).1
  have hlt2 : i < ps.length := by omega
  have hz : (l.zip ps)[i]? = some (q, ps[i]) := by
    rw [List.getElem?_zip_eq_some]
    exact ⟨hi, List.getElem?_eq_getElem hlt2⟩
  have h1 := List.all_eq_true.mp h _ (List.mem_of_getElem? hz)
  simp only [decide_eq_true_eq] at h1
  exact List.mem_of_getElem? h1
theorem SR_in : ∀ q ∈ SRk, wSR q ∈ lw_tbl := zip_memL (ps := SRkp) (by decide +kernel) (by decide +kernel)
theorem NL_in : ∀ q ∈ NLk, wNL q ∈ lw_tbl := zip_memL (ps := NLkp) (by decide +kernel) (by decide +kernel)
theorem gT_good : ∀ w ∈ gT, goodWord w = true := fun w h => (List.mem_filter.mp h).2
theorem gT_in : ∀ w ∈ gT, w ∈ lw_tbl := fun w h => (List.mem_filter.mp h).1
end
section
/-! AN ABSTRACT MACHINE over numbered cells: what the program's data does, as a function.
Cells 0, 1, 2: the texts "", clm, ghr; 3, 4, 5: their bytes; 6, 7, 8: ABOVE, WAYS, BODIES; 9: the script; from 10 on what is made. -/
abbrev pSh : Type := Nat ⊕ (Nat × Nat)
/-- how many cells and slots there are, their shapes, what they hold -/
abbrev pH : Type := (Nat × Nat) × (Nat → pSh) × (Nat → Nat → Option Nat) × (Nat → Nat → Int32)
abbrev pF : Type := Nat × List Value × List Value × pH
abbrev pR : Type := pF ⊕ (Option Value × pH)
def nX : Nat := 10
def uI (f : Nat → Nat → Int32) (a k : Nat) (v : Int32) : Nat → Nat → Int32 := va_up f a (upd (f a) k v)
def uR (f : Nat → Nat → Option Nat) (a k : Nat) (v : Option Nat) : Nat → Nat → Option Nat := va_up f a (va_up (f a) k v)
def pAl (h : pH) (s : pSh) (sl : Nat) : pH := ((h.1.1 + 1, h.1.2 + sl), va_up h.2.1 h.1.1 s, va_up h.2.2.1 h.1.1 (fun _ => none), va_up h.2.2.2 h.1.1 (fun _ => 0))
def fv (h : pH) (a ci k : Nat) : Value := if (cKd ci).getD k 0 = 2 then va_rf (h.2.2.1 a k) else .int (h.2.2.2 a k)
def swt (x : Int32) : List (Int × Nat) → Nat → Nat
  | [], d => d
  | (a, t) :: l, d => if x = Int32.ofInt a then t else swt x l d
def brc (c : ClassFile.Cond) (x y : Int32) (t f : Nat) : Nat := match c with
  | .eq => if x = y then t else f
  | .ne => if x = y then f else t
  | .lt => if x < y then t else f
  | .ge => if x < y then f else t
  | .gt => if y < x then t else f
  | .le => if y < x then f else t
/-- the places behind a long's first word -/
def lgP : Nat → List Nat → List Nat
  | _, [] => []
  | j, t :: l => if t = 1 then (j + 1) :: lgP (j + 2) l else lgP (j + 1) l
def nLg (k i : Nat) : Bool := !((lgP 0 (mSig k)).contains i)
/-- a call of method m: what it takes lies on the stack -/
def doC (cf : Nat → List Value → pH → Option (Option Value × pH)) (m pc : Nat) (L st : List Value) (h : pH) : Option pR :=
  if st.length < (mSig m).length ∨ 4 < st.length - (mSig m).length then none else
  match cf m (st.take (mSig m).length).reverse h with
  | some (v, h') => some (.inl (pc + 3, L, v.toList ++ st.drop (mSig m).length, h'))
  | none => none
def isO (m : Nat) (as : List Value) (h : pH) : Bool := match as with
  | .ref b :: _ => decide (h.2.1 b = .inl (mOwn m))
  | _ => false
def stp (cf : Nat → List Value → pH → Option (Option Value × pH)) (k pc : Nat) (e : pE) (L st : List Value) (h : pH) : Option pR :=
  match e.1 with
  | .iconst _ => some (.inl (pc + 1, L, .int (Int32.ofInt e.2.1) :: st, h))
  | .bipush _ => some (.inl (pc + 2, L, .int (Int32.ofInt e.2.1) :: st, h))
  | .sipush _ => some (.inl (pc + 3, L, .int (Int32.ofInt e.2.1) :: st, h))
  | .lconst c => some (.inl (pc + 1, L, .long (Int64.ofNat (c : Nat)) :: st, h))
  | .ldc _ => (match e.2.2 with
    | [] => some (.inl (pc + 2, L, .int (Int32.ofInt e.2.1) :: st, h))
    | _ => some (.inl (pc + 2, L, .ref e.2.1.toNat :: st, h)))
  | .ldc_w _ => some (.inl (pc + 3, L, .int (Int32.ofInt e.2.1) :: st, h))
  | .ldc2_w _ => some (.inl (pc + 3, L, .long (Int64.ofInt e.2.1) :: st, h))
  | .iload i => (match L[i]? with
    | some (.int x) => some (.inl (pc + 2, L, .int x :: st, h))
    | _ => none)
  | .iload_n i => (match L[(i : Nat)]? with
    | some (.int x) => some (.inl (pc + 1, L, .int x :: st, h))
    | _ => none)
  | .aload i => (match L[i]? with
    | some (.ref x) => some (.inl (pc + 2, L, .ref x :: st, h))
    | _ => none)
  | .aload_n i => (match L[(i : Nat)]? with
    | some (.ref x) => some (.inl (pc + 1, L, .ref x :: st, h))
    | _ => none)
  | .lload i => (match L[i]? with
    | some (.long x) => some (.inl (pc + 2, L, .long x :: st, h))
    | _ => none)
  | .lload_n i => (match L[(i : Nat)]? with
    | some (.long x) => some (.inl (pc + 1, L, .long x :: st, h))
    | _ => none)
  | .istore i => (match st with
    | .int x :: r => if i < L.length ∧ nLg k i = true then some (.inl (pc + 2, L.set i (.int x), r, h)) else none
    | _ => none)
  | .istore_n i => (match st with
    | .int x :: r => if (i : Nat) < L.length ∧ nLg k (i : Nat) = true then some (.inl (pc + 1, L.set (i : Nat) (.int x), r, h)) else none
    | _ => none)
  | .astore i => (match st with
    | .ref x :: r => if i < L.length ∧ nLg k i = true then some (.inl (pc + 2, L.set i (.ref x), r, h)) else none
    | _ => none)
  | .astore_n i => (match st with
    | .ref x :: r => if (i : Nat) < L.length ∧ nLg k (i : Nat) = true then some (.inl (pc + 1, L.set (i : Nat) (.ref x), r, h)) else none
    | _ => none)
  | .iinc i n => (match L[i]? with
    | some (.int x) => if nLg k i = true then some (.inl (pc + 3, L.set i (.int (x + Int32.ofInt n)), st, h)) else none
    | _ => none)
  | .iadd => (match st with | .int y :: .int x :: r => some (.inl (pc + 1, L, .int (x + y) :: r, h)) | _ => none)
  | .isub => (match st with | .int y :: .int x :: r => some (.inl (pc + 1, L, .int (x - y) :: r, h)) | _ => none)
  | .imul => (match st with | .int y :: .int x :: r => some (.inl (pc + 1, L, .int (x * y) :: r, h)) | _ => none)
  | .iand => (match st with | .int y :: .int x :: r => some (.inl (pc + 1, L, .int (x &&& y) :: r, h)) | _ => none)
  | .ior => (match st with | .int y :: .int x :: r => some (.inl (pc + 1, L, .int (x ||| y) :: r, h)) | _ => none)
  | .ixor => (match st with | .int y :: .int x :: r => some (.inl (pc + 1, L, .int (x ^^^ y) :: r, h)) | _ => none)
  | .idiv => (match st with | .int y :: .int x :: r => if y = 0 then none else some (.inl (pc + 1, L, .int (x / y) :: r, h)) | _ => none)
  | .irem => (match st with | .int y :: .int x :: r => if y = 0 then none else some (.inl (pc + 1, L, .int (x - x / y * y) :: r, h)) | _ => none)
  | .ineg => (match st with | .int x :: r => some (.inl (pc + 1, L, .int (-x) :: r, h)) | _ => none)
  | .ishl => (match st with | .int y :: .int x :: r => some (.inl (pc + 1, L, .int (x <<< (y &&& 31)) :: r, h)) | _ => none)
  | .ishr => (match st with | .int y :: .int x :: r => some (.inl (pc + 1, L, .int (x >>> (y &&& 31)) :: r, h)) | _ => none)
  | .iushr => (match st with | .int y :: .int x :: r => some (.inl (pc + 1, L, .int (x.toUInt32 >>> (y.toUInt32 &&& Int32.toUInt32 31)).toInt32 :: r, h)) | _ => none)
  | .i2l => (match st with | .int x :: r => some (.inl (pc + 1, L, .long x.toInt64 :: r, h)) | _ => none)
  | .l2i => (match st with | .long x :: r => some (.inl (pc + 1, L, .int x.toInt32 :: r, h)) | _ => none)
  | .i2b => (match st with | .int x :: r => some (.inl (pc + 1, L, .int x.toInt8.toInt32 :: r, h)) | _ => none)
  | .i2s => (match st with | .int x :: r => some (.inl (pc + 1, L, .int x.toInt16.toInt32 :: r, h)) | _ => none)
  | .i2c => (match st with | .int x :: r => some (.inl (pc + 1, L, .int (x.toUInt32 % 65536).toInt32 :: r, h)) | _ => none)
  | .land => (match st with | .long y :: .long x :: r => some (.inl (pc + 1, L, .long (x &&& y) :: r, h)) | _ => none)
  | .lor => (match st with | .long y :: .long x :: r => some (.inl (pc + 1, L, .long (x ||| y) :: r, h)) | _ => none)
  | .lshl => (match st with | .int y :: .long x :: r => some (.inl (pc + 1, L, .long (x <<< (y.toInt64 &&& 63)) :: r, h)) | _ => none)
  | .lshr => (match st with | .int y :: .long x :: r => some (.inl (pc + 1, L, .long (x >>> (y.toInt64 &&& 63)) :: r, h)) | _ => none)
  | .lushr => (match st with | .int y :: .long x :: r => some (.inl (pc + 1, L, .long (x.toUInt64 >>> (y.toInt64.toUInt64 &&& Int64.toUInt64 63)).toInt64 :: r, h)) | _ => none)
  | .lcmp => (match st with | .long y :: .long x :: r => some (.inl (pc + 1, L, .int (lg_cmp x y) :: r, h)) | _ => none)
  | .dup => (match st with
    | .int x :: r => some (.inl (pc + 1, L, .int x :: .int x :: r, h))
    | .ref x :: r => some (.inl (pc + 1, L, .ref x :: .ref x :: r, h))
    | _ => none)
  | .dup2 => (match st with
    | .int y :: .ref x :: r => some (.inl (pc + 1, L, .int y :: .ref x :: .int y :: .ref x :: r, h))
    | _ => none)
  | .pop => (match st with
    | .int _ :: r => some (.inl (pc + 1, L, r, h))
    | _ => none)
  | .goto _ => some (.inl (e.2.1.toNat, L, st, h))
  | .if_icmp c _ => (match st with | .int y :: .int x :: r => some (.inl (brc c x y e.2.1.toNat (pc + 3), L, r, h)) | _ => none)
  | .ifCond c _ => (match st with | .int x :: r => some (.inl (brc c x 0 e.2.1.toNat (pc + 3), L, r, h)) | _ => none)
  | .tableswitch _ _ _ _ => (match st with | .int x :: r => some (.inl (swt x e.2.2 e.2.1.toNat, L, r, h)) | _ => none)
  | .lookupswitch _ _ => (match st with | .int x :: r => some (.inl (swt x e.2.2 e.2.1.toNat, L, r, h)) | _ => none)
  | .getfield _ => (match st with
    | .ref a :: r => if h.2.1 a = .inl (e.2.1.toNat / 32) ∧ e.2.1.toNat % 32 < cNf (e.2.1.toNat / 32) then some (.inl (pc + 3, L, fv h a (e.2.1.toNat / 32) (e.2.1.toNat % 32) :: r, h)) else none
    | _ => none)
  | .putfield _ => (match st with
    | .int v :: .ref a :: r => if h.2.1 a = .inl (e.2.1.toNat / 32) ∧ e.2.1.toNat % 32 < cNf (e.2.1.toNat / 32) ∧ nX ≤ a ∧ ((cKd (e.2.1.toNat / 32)).getD (e.2.1.toNat % 32) 0 = 0 ∨ ((cKd (e.2.1.toNat / 32)).getD (e.2.1.toNat % 32) 0 = 1 ∧ (v = 0 ∨ v = 1))) then some (.inl (pc + 3, L, r, (h.1, h.2.1, h.2.2.1, uI h.2.2.2 a (e.2.1.toNat % 32) v))) else none
    | .ref v :: .ref a :: r => if h.2.1 a = .inl (e.2.1.toNat / 32) ∧ e.2.1.toNat % 32 < cNf (e.2.1.toNat / 32) ∧ nX ≤ a ∧ (cKd (e.2.1.toNat / 32)).getD (e.2.1.toNat % 32) 0 = 2 then some (.inl (pc + 3, L, r, (h.1, h.2.1, uR h.2.2.1 a (e.2.1.toNat % 32) (some v), h.2.2.2))) else none
    | _ => none)
  | .getstatic _ => some (.inl (pc + 3, L, (if e.2.1.toNat < 3 then .ref (6 + e.2.1.toNat) else .int 1) :: st, h))
  | .arraylength => (match st with
    | .ref a :: r => (match h.2.1 a with
      | .inr (t, n) => if t < 4 then some (.inl (pc + 1, L, .int (Int32.ofNat n) :: r, h)) else none
      | _ => none)
    | _ => none)
  | .iaload => (match st with
    | .int j :: .ref a :: r => (match h.2.1 a with
      | .inr (0, n) => if ¬ j < 0 ∧ j.toNatClampNeg < n then some (.inl (pc + 1, L, .int (h.2.2.2 a j.toNatClampNeg) :: r, h)) else none
      | _ => none)
    | _ => none)
  | .baload => (match st with
    | .int j :: .ref a :: r => (match h.2.1 a with
      | .inr (1, n) => if ¬ j < 0 ∧ j.toNatClampNeg < n then some (.inl (pc + 1, L, .int (h.2.2.2 a j.toNatClampNeg) :: r, h)) else none
      | _ => none)
    | _ => none)
  | .aaload => (match st with
    | .int j :: .ref a :: r => (match h.2.1 a with
      | .inr (t, n) => if (t = 2 ∨ t = 3) ∧ nX ≤ a ∧ ¬ j < 0 ∧ j.toNatClampNeg < n then some (.inl (pc + 1, L, va_rf (h.2.2.1 a j.toNatClampNeg) :: r, h)) else none
      | _ => none)
    | _ => none)
  | .iastore => (match st with
    | .int v :: .int j :: .ref a :: r => (match h.2.1 a with
      | .inr (0, n) => if nX ≤ a ∧ ¬ j < 0 ∧ j.toNatClampNeg < n then some (.inl (pc + 1, L, r, (h.1, h.2.1, h.2.2.1, uI h.2.2.2 a j.toNatClampNeg v))) else none
      | _ => none)
    | _ => none)
  | .aastore => (match st with
    | .ref v :: .int j :: .ref a :: r => (match h.2.1 a with
      | .inr (t, n) => if ((t = 2 ∧ h.2.1 v = .inl 5) ∨ (t = 3 ∧ h.2.1 v = .inl 6)) ∧ nX ≤ a ∧ nX ≤ v ∧ ¬ j < 0 ∧ j.toNatClampNeg < n then some (.inl (pc + 1, L, r, (h.1, h.2.1, uR h.2.2.1 a j.toNatClampNeg (some v), h.2.2.2))) else none
      | _ => none)
    | _ => none)
  | .new _ => some (.inl (pc + 3, L, .ref h.1.1 :: st, pAl h (.inl e.2.1.toNat) (cNf e.2.1.toNat)))
  | .newarray _ => (match st with
    | .int n :: r => if ¬ n < 0 ∧ n.toNatClampNeg ≤ 10000 then some (.inl (pc + 2, L, .ref h.1.1 :: r, pAl h (.inr (0, n.toNatClampNeg)) n.toNatClampNeg)) else none
    | _ => none)
  | .anewarray _ => (match st with
    | .int n :: r => if ¬ n < 0 ∧ n.toNatClampNeg ≤ 10000 then some (.inl (pc + 3, L, .ref h.1.1 :: r, pAl h (.inr (e.2.1.toNat, n.toNatClampNeg)) n.toNatClampNeg)) else none
    | _ => none)
  | .invokevirtual _ => if 0 ≤ e.2.1 ∧ isO e.2.1.toNat (st.take (mSig e.2.1.toNat).length).reverse h = true then doC cf e.2.1.toNat pc L st h else none
  | .invokestatic _ => if 0 ≤ e.2.1 then doC cf e.2.1.toNat pc L st h else
    if e.2.1 = -2 then (match st with
      | .int n :: .int dp :: .ref b :: .int sp :: .ref a :: r => (match h.2.1 a, h.2.1 b with
        | .inr (0, na), .inr (0, nb) => if nX ≤ a ∧ nX ≤ b ∧ ¬ sp < 0 ∧ ¬ dp < 0 ∧ ¬ n < 0 ∧ sp.toNatClampNeg + n.toNatClampNeg ≤ na ∧ dp.toNatClampNeg + n.toNatClampNeg ≤ nb ∧ r.length ≤ 4 then some (.inl (pc + 3, L, r, (h.1, h.2.1, h.2.2.1, va_up h.2.2.2 b (va_cpy (h.2.2.2 a) (h.2.2.2 b) sp.toNatClampNeg dp.toNatClampNeg n.toNatClampNeg)))) else none
        | _, _ => none)
      | _ => none) else
    if e.2.1 = -3 then (match st with | .int y :: .int x :: r => if r.length ≤ 4 then some (.inl (pc + 3, L, .int (if x < y then y else x) :: r, h)) else none | _ => none) else
    if e.2.1 = -4 then (match st with | .int y :: .int x :: r => if r.length ≤ 4 then some (.inl (pc + 3, L, .int (if y < x then y else x) :: r, h)) else none | _ => none) else none
  | .invokespecial _ => if 0 ≤ e.2.1 then doC cf e.2.1.toNat pc L st h else
    if e.2.1 = -1 then (match st with | .ref _ :: r => if r.length ≤ 4 then some (.inl (pc + 3, L, r, h)) else none | _ => none) else none
  | .ireturn => (match st, mRet k with
    | [.int v], some ty => if narrow ty (.int v) = .int v then some (.inr (some (.int v), h)) else none
    | _, _ => none)
  | .areturn => (match st, mRet k with
    | [.ref a], some (.object _) => some (.inr (some (.ref a), h))
    | _, _ => none)
  | .return_ => (match st, mRet k with
    | [], none => some (.inr (none, h))
    | _, _ => none)
  | _ => none
def okA : List Nat → List Value → Bool
  | [], [] => true
  | 0 :: s, .int _ :: l => okA s l
  | 1 :: s, .long _ :: l => okA s l
  | 2 :: s, .ref _ :: l => okA s l
  | _, _ => false
def inA (args : List Value) : List Value := args.flatMap (fun v => match v with | .long x => [.long x, .retAddr 0] | v => [v])
def inL (m : Nat) (args : List Value) : List Value := inA args ++ List.replicate (mMax m - (inA args).length) (.retAddr 0)
def run (cf : Nat → List Value → pH → Option (Option Value × pH)) (k : Nat) : Nat → pF → Option (Option Value × pH)
  | 0, _ => none
  | n + 1, c => match pEnt k c.1 with
    | none => none
    | some e => match stp cf k c.1 e c.2.1 c.2.2.1 c.2.2.2 with
      | none => none
      | some (.inl c') => run cf k n c'
      | some (.inr r) => some r
def evM : Nat → Nat → Nat → List Value → pH → Option (Option Value × pH)
  | 0, _, _, _, _ => none
  | d + 1, n, m, args, h => if okA (mSig m) args = true ∧ m < 256 then run (evM d n) m n (0, inL m args, [], h) else none
end
section
/-! how the abstract machine's cells lie in the heap -/
/-- class numbers, slots, array classes, addresses of what was there before, where the made cells begin -/
abbrev pX : Type := (Nat → ClassId) × (Nat → Nat → Nat) × (Nat → ClassId) × (Nat → Nat) × Nat
def aD (X : pX) (i : Nat) : Nat := if i < nX then X.2.2.2.1 i else X.2.2.2.2 + (i - nX)
def aV (X : pX) : Value → Value
  | .ref a => .ref (aD X a)
  | v => v
def aE (X : pX) (h : pH) (id : Nat) : va_E := match h.2.1 id with
  | .inl ci => .inr (ci, (List.range (cNf ci)).map fun k => aV X (fv h id ci k))
  | .inr (t, n) => if t = 0 then .inl (X.2.2.1 0, n, .inl (h.2.2.2 id)) else .inl (X.2.2.1 t, n, .inr (.inr (.inr (.inr fun j => (h.2.2.1 id j).map (aD X)))))
def aW (X : pX) (h : pH) : va_W := (List.range (h.1.1 - nX)).map fun j => (aD X (nX + j), aE X h (nX + j))
def aT (X : pX) : List (ClassId × FieldType) := [(X.2.2.1 0, .int), (X.2.2.1 2, .object RX5), (X.2.2.1 3, .object RX6)]
abbrev aG (X : pX) : va_G := (X.1, X.2.1)
def aA (X : pX) : Nat → Prop := fun q => X.2.2.2.2 ≤ q
/-- what was there before, and stays -/
def aX (X : pX) (h : pH) (U : State) (H : Heap) : Prop :=
  (∀ i, i < 3 → h.2.1 i = .inl 11 ∧ h.2.2.2 i 1 = 0 ∧ h.2.2.1 i 0 = some (3 + i) ∧ va_O "java/lang/String" (X.2.2.2.1 i) (aA X) U H ∧ va_OF "java/lang/String" "coder" "B" (.int 0) (X.2.2.2.1 i) (aA X) U H ∧ va_OF "java/lang/String" "value" "[B" (.ref (X.2.2.2.1 (3 + i))) (X.2.2.2.1 i) (aA X) U H) ∧
  (∀ i, 3 ≤ i → i < nX → ∃ (t n : Nat), h.2.1 i = .inr (t, n) ∧ ((t = 1 ∧ va_T .byte (X.2.2.2.1 i) n (fun j => .int (h.2.2.2 i j)) (aA X) U H) ∨ (t = 0 ∧ va_T .int (X.2.2.2.1 i) n (fun j => .int (h.2.2.2 i j)) (aA X) U H))) ∧
  (∀ j, j < 3 → va_Z (sTa j).1 (sTa j).2.1 (sTa j).2.2 (.ref (X.2.2.2.1 (6 + j))) (aA X) U H) ∧
  va_Z (sTa 3).1 (sTa 3).2.1 (sTa 3).2.2 (.int 1) (aA X) U H ∧
  (∀ q ∈ SRk, vk_R (cNm q.1) q.2.1 (sTx q.2.2) (X.2.2.2.1 q.2.2) U) ∧ (∀ q ∈ NLk, va_Nw (wNL q) U) ∧ va_AO RX5 U ∧ va_AO RX6 U
theorem aX.moved {X : pX} {h : pH} {s U : State} {H : Heap} (hW : s.WarmedH U.vm) (hx : aX X h s H) : aX X h U H := by
  obtain ⟨h1, h2, h3, h4, h5, h6, h7, h8⟩ := hx
  have hvm := hW.alike
  refine ⟨fun i hi => ?_, fun i hi hj => ?_, fun j hj => va_Z.moved hvm (h3 j hj), va_Z.moved hvm h4, fun q hq => vk_R.warm hW (h5 q hq), fun q hq => va_Nw.warmM hW (h6 q hq), va_AO.moved hvm h7, va_AO.moved hvm h8⟩
  · obtain ⟨a, b, c, d, e, f⟩ := h1 i hi
    exact ⟨a, b, c, va_O.moved hvm d, va_OF.moved hvm e, va_OF.moved hvm f⟩
  · obtain ⟨t, n, a, b⟩ := h2 i hi hj
    refine ⟨t, n, a, ?_⟩
    rcases b with ⟨b1, b2⟩ | ⟨b1, b2⟩
    · exact Or.inl ⟨b1, va_T.moved hvm b2⟩
    · exact Or.inr ⟨b1, va_T.moved hvm b2⟩
theorem aX.same {X : pX} {h : pH} {u U : State} {H : Heap} (hv : U.vm = u.vm) (hx : aX X h u H) : aX X h U H := by
  obtain ⟨h1, h2, h3, h4, h5, h6, h7, h8⟩ := hx
  have hvm : u.vm.Alike U.vm := by rw [hv]; exact Vm.Alike.refl _
  refine ⟨fun i hi => ?_, fun i hi hj => ?_, fun j hj => va_Z.moved hvm (h3 j hj), va_Z.moved hvm h4, fun q hq => vk_R.same hv (h5 q hq), fun q hq => va_Nw.same rfl hv.symm (h6 q hq), va_AO.moved hvm h7, va_AO.moved hvm h8⟩
  · obtain ⟨a, b, c, d, e, f⟩ := h1 i hi
    exact ⟨a, b, c, va_O.moved hvm d, va_OF.moved hvm e, va_OF.moved hvm f⟩
  · obtain ⟨t, n, a, b⟩ := h2 i hi hj
    refine ⟨t, n, a, ?_⟩
    rcases b with ⟨b1, b2⟩ | ⟨b1, b2⟩
    · exact Or.inl ⟨b1, va_T.moved hvm b2⟩
    · exact Or.inr ⟨b1, va_T.moved hvm b2⟩
theorem aX.kept {X : pX} {h : pH} {U : State} {H H1 : Heap} (hq : ∀ a : Nat, a < H.size → ¬ aA X a → H1[a]? = H[a]?) (hx : aX X h U H) : aX X h U H1 := by
  obtain ⟨h1, h2, h3, h4, h5, h6, h7, h8⟩ := hx
  refine ⟨fun i hi => ?_, fun i hi hj => ?_, fun j hj => va_Z.kept (h3 j hj) hq, va_Z.kept h4 hq, h5, h6, h7, h8⟩
  · obtain ⟨a, b, c, d, e, f⟩ := h1 i hi
    exact ⟨a, b, c, va_O.kept d hq, va_OF.kept e hq, va_OF.kept f hq⟩
  · obtain ⟨t, n, a, b⟩ := h2 i hi hj
    refine ⟨t, n, a, ?_⟩
    rcases b with ⟨b1, b2⟩ | ⟨b1, b2⟩
    · exact Or.inl ⟨b1, va_T.kept b2 hq⟩
    · exact Or.inr ⟨b1, va_T.kept b2 hq⟩
/-- two abstract heaps agree on what was there before -/
def eX (h h' : pH) : Prop := ∀ i, i < nX → h'.2.1 i = h.2.1 i ∧ h'.2.2.1 i = h.2.2.1 i ∧ h'.2.2.2 i = h.2.2.2 i
theorem eX.rf {h : pH} : eX h h := fun _ _ => ⟨rfl, rfl, rfl⟩
theorem eX.tr {a b c : pH} (h1 : eX a b) (h2 : eX b c) : eX a c := fun i hi => ⟨(h2 i hi).1.trans (h1 i hi).1, (h2 i hi).2.1.trans (h1 i hi).2.1, (h2 i hi).2.2.trans (h1 i hi).2.2⟩
theorem aX.eX {X : pX} {h h' : pH} {U : State} {H : Heap} (he : eX h h') (hx : aX X h U H) : aX X h' U H := by
  obtain ⟨h1, h2, h3, h4, h5, h6, h7, h8⟩ := hx
  refine ⟨fun i hi => ?_, fun i hi hj => ?_, h3, h4, h5, h6, h7, h8⟩
  · obtain ⟨e1, e2, e3⟩ := he i (Nat.lt_trans hi (by decide))
    rw [e1, e2, e3]
    exact h1 i hi
  · obtain ⟨e1, e2, e3⟩ := he i hj
    rw [e1, e3]
    exact h2 i hi hj
/-- the made cells' shapes -/
def pU (h : pH) : Prop := nX ≤ h.1.1 ∧ (∀ i, h.1.1 ≤ i → h.2.1 i = .inr (9, 0)) ∧ (∀ i, nX ≤ i → ∀ ci, h.2.1 i = .inl ci → ci < 11) ∧ ∀ i, nX ≤ i → ∀ t n, h.2.1 i = .inr (t, n) → t ≠ 1
theorem pU.lt {h : pH} (hu : pU h) {i : Nat} {s : pSh} (hs : h.2.1 i = s) (hn : s ≠ .inr (9, 0)) : i < h.1.1 := by
  rcases Nat.lt_or_ge i h.1.1 with q | q
  · exact q
  · exact absurd (hs.symm.trans (hu.2.1 i q)) hn
theorem aW_at {X : pX} {h : pH} {id : Nat} (h1 : nX ≤ id) (h2 : id < h.1.1) : (aW X h)[id - nX]? = some (aD X id, aE X h id) := by
  unfold aW
  rw [List.getElem?_map, List.getElem?_range (by omega)]
  show some (aD X (nX + (id - nX)), aE X h (nX + (id - nX))) = _
  rw [show nX + (id - nX) = id by omega]
theorem aW_get {X : pX} {h : pH} {k : Nat} {q : Nat × va_E} (hq : (aW X h)[k]? = some q) : k < h.1.1 - nX ∧ q = (aD X (nX + k), aE X h (nX + k)) := by
  have hl : k < (aW X h).length := (List.getElem?_eq_some_iff.mp hq).1
  have hl2 : k < h.1.1 - nX := by simpa [aW] using hl
  refine ⟨hl2, ?_⟩
  have h3 := aW_at (X := X) (h := h) (id := nX + k) (by omega) (by omega)
  rw [show nX + k - nX = k by omega, hq] at h3
  exact Option.some.inj h3
theorem aD_ge {X : pX} {i : Nat} (h : nX ≤ i) : aD X i = X.2.2.2.2 + (i - nX) := by
  unfold aD
  rw [if_neg (by omega)]
theorem aW_D {X : pX} {h : pH} : va_D (aA X) (aW X h) := by
  refine ⟨fun i j p q hp hq e => ?_, fun k q hq => ?_⟩
  · obtain ⟨h1, rfl⟩ := aW_get hp
    obtain ⟨h2, rfl⟩ := aW_get hq
    simp only at e
    rw [aD_ge (by omega), aD_ge (by omega)] at e
    omega
  · obtain ⟨h1, rfl⟩ := aW_get hq
    show X.2.2.2.2 ≤ aD X _
    rw [aD_ge (by omega)]
    omega
/-- one cell changes -/
theorem aW_set {X : pX} {h h' : pH} {id : Nat} (hn : h'.1.1 = h.1.1) (h1 : nX ≤ id) (ho : ∀ i, i ≠ id → aE X h' i = aE X h i) : (aW X h).set (id - nX) (aD X id, aE X h' id) = aW X h' := by
  apply List.ext_getElem?
  intro j
  rw [List.getElem?_set]
  by_cases hj : id - nX = j
  · subst hj
    rw [if_pos rfl]
    by_cases hl : id < h.1.1
    · rw [if_pos (by simp [aW]; omega), aW_at h1 (by omega)]
    · rw [if_neg (by simp [aW]; omega)]
      symm
      simp [aW]
      omega
  · rw [if_neg hj]
    by_cases hl : j < h.1.1 - nX
    · have e1 := aW_at (X := X) (h := h) (id := nX + j) (by omega) (by omega)
      have e2 := aW_at (X := X) (h := h') (id := nX + j) (by omega) (by omega)
      rw [show nX + j - nX = j by omega] at e1 e2
      rw [e1, e2, ho _ (by omega)]
    · have e1 : (aW X h)[j]? = none := by simp [aW]; omega
      have e2 : (aW X h')[j]? = none := by simp [aW]; omega
      rw [e1, e2]
theorem rm_set {α : Type} {N k : Nat} {f g : Nat → α} (hk : k < N) (ho : ∀ j, j ≠ k → g j = f j) : (List.range N).map g = ((List.range N).map f).set k (g k) := by
  apply List.ext_getElem?
  intro j
  rw [List.getElem?_set]
  by_cases hj : k = j
  · subst hj
    simp [hk]
  · rw [if_neg hj]
    by_cases hl : j < N
    · simp [hl, ho j (Ne.symm hj)]
    · simp [hl]
/-- a cell is pushed -/
theorem aW_push {X : pX} {h h' : pH} {sh : pSh} (hx : nX ≤ h.1.1) (hn : h'.1.1 = h.1.1 + 1) (ho : ∀ i, i < h.1.1 → aE X h' i = aE X h i) : aW X h ++ [(aD X h.1.1, aE X h' h.1.1)] = aW X h' := by
  unfold aW
  rw [hn, show h.1.1 + 1 - nX = (h.1.1 - nX) + 1 by omega, List.range_succ, List.map_append]
  congr 1
  · apply List.map_congr_left
    intro j hj
    have hj2 : j < h.1.1 - nX := List.mem_range.mp hj
    rw [ho _ (by omega)]
  · show [(aD X h.1.1, aE X h' h.1.1)] = [(aD X (nX + (h.1.1 - nX)), aE X h' (nX + (h.1.1 - nX)))]
    rw [show nX + (h.1.1 - nX) = h.1.1 by omega]
/-- the locals -/
def lR (X : pX) (k nL : Nat) (ls : Array Slot) (L : List Value) : Prop := ls.size = nL ∧ L.length = nL ∧ lv_wf ls ∧ (∀ (i : Nat) (v : Value), L[i]? = some v → (∀ p, v ≠ .retAddr p) → ls[i]? = some (.val (aV X v))) ∧ ∀ (i : Nat) (v : Value), L[i]? = some v → v.category = 2 → i + 1 ∈ lgP 0 (mSig k)
def lPr (X : pX) (L : List Value) : List (Nat × Value) := (List.range L.length).filterMap fun i => match (L[i]? : Option Value) with
  | some (Value.retAddr _) => none
  | some v => some (i, aV X v)
  | none => none
theorem lPr_mem {X : pX} {L : List Value} {i : Nat} {w : Value} (h : (i, w) ∈ lPr X L) : ∃ v, L[i]? = some v ∧ (∀ p, v ≠ .retAddr p) ∧ w = aV X v := by
  obtain ⟨j, hj, he⟩ := List.mem_filterMap.mp h
  split at he
  · cases he
  · rename_i v hn hv
    cases he
    exact ⟨v, hv, fun p e => hn p (by rw [e]), rfl⟩
  · cases he
theorem lPr_in {X : pX} {L : List Value} {i : Nat} {v : Value} (h : L[i]? = some v) (hn : ∀ p, v ≠ .retAddr p) : (i, aV X v) ∈ lPr X L := by
  refine List.mem_filterMap.mpr ⟨i, List.mem_range.mpr (List.getElem?_eq_some_iff.mp h).1, ?_⟩
  rw [h]
  cases v <;> first | rfl | exact absurd rfl (hn _)
theorem lR.has {X : pX} {k nL : Nat} {ls : Array Slot} {L : List Value} (h : lR X k nL ls L) : lv_has ls nL (lPr X L) := by
  refine ⟨h.1, h.2.2.1, fun q hq => ?_⟩
  obtain ⟨v, h1, h2, h3⟩ := lPr_mem (i := q.1) (w := q.2) hq
  rw [h3]
  exact h.2.2.2.1 _ _ h1 h2
theorem aV_cat {X : pX} {v : Value} : (aV X v).category = v.category := by cases v <;> rfl
theorem lR.set {X : pX} {k nL i : Nat} {ls ls' : Array Slot} {L : List Value} {v : Value} (h : lR X k nL ls L) (hg : nLg k i = true) (hv : ¬ v.category = 2)
    (h' : lv_has ls' nL ((i, aV X v) :: (lPr X L).filter (fun q => !(q.1 == i) && !(q.1 + 1 == i && q.2.category == 2)))) : lR X k nL ls' (L.set i v) := by
  refine ⟨h'.1, by rw [List.length_set]; exact h.2.1, h'.2.1, fun j w hj hw => ?_, fun j x hj hc => ?_⟩
  · rw [List.getElem?_set] at hj
    by_cases e : i = j
    · subst e
      rw [if_pos rfl] at hj
      split at hj
      · cases hj
        exact h'.2.2 _ List.mem_cons_self
      · cases hj
    · rw [if_neg e] at hj
      refine h'.2.2 (j, aV X w) (List.mem_cons_of_mem _ (List.mem_filter.mpr ⟨lPr_in hj hw, ?_⟩))
      have e1 : (j == i) = false := by simp; exact fun q => e q.symm
      have e2 : (j + 1 == i && (aV X w).category == 2) = false := by
        cases hc : (j + 1 == i) with
        | false => rfl
        | true =>
          have hji : j + 1 = i := by simpa using hc
          rw [aV_cat]
          by_cases hc2 : w.category = 2
          · have h5 := h.2.2.2.2 j w hj hc2
            rw [hji] at h5
            unfold nLg at hg
            simp at hg
            exact absurd h5 hg
          · simp [hc2]
      simp [e1, e2]
  · rw [List.getElem?_set] at hj
    by_cases e : i = j
    · subst e
      rw [if_pos rfl] at hj
      split at hj
      · cases hj
        exact absurd hc hv
      · cases hj
    · rw [if_neg e] at hj
      exact h.2.2.2.2 j x hj hc
/-! the classes -/
def ftk : FieldType → Nat
  | .int => 0
  | .boolean => 1
  | .object _ => 2
  | .array _ => 2
  | _ => 9
theorem co11 {P : Nat → Prop} (h0 : P 0) (h1 : P 1) (h2 : P 2) (h3 : P 3) (h4 : P 4) (h5 : P 5) (h6 : P 6) (h7 : P 7) (h8 : P 8) (h9 : P 9) (h10 : P 10) {c : Nat} (hc : c < 11) : P c := by
  match c, hc with
  | 0, _ => exact h0
  | 1, _ => exact h1
  | 2, _ => exact h2
  | 3, _ => exact h3
  | 4, _ => exact h4
  | 5, _ => exact h5
  | 6, _ => exact h6
  | 7, _ => exact h7
  | 8, _ => exact h8
  | 9, _ => exact h9
  | 10, _ => exact h10
  | c + 11, h => exact absurd h (by omega)
theorem kd_ty {c : Nat} (hc : c < 11) : ∀ k, k < cNf c → ftk (cTy c k) = (cKd c).getD k 0 := co11 (P := fun c => ∀ k, k < cNf c → ftk (cTy c k) = (cKd c).getD k 0) (by decide +kernel) (by decide +kernel) (by decide +kernel) (by decide +kernel) (by decide +kernel) (by decide +kernel) (by decide +kernel) (by decide +kernel) (by decide +kernel) (by decide +kernel) (by decide +kernel) hc
theorem cl_at {c : Nat} (hc : c < 11) : vwCl[c]? = some (cNm c, cTt c, cNf c) := co11 (P := fun c => vwCl[c]? = some (cNm c, cTt c, cNf c)) rfl rfl rfl rfl rfl rfl rfl rfl rfl rfl rfl hc
theorem ty_ok {c : Nat} (hc : c < 11) : ∀ k, k < cNf c → parseFieldDescriptor (cTt c k).2.2.1 = some (cTy c k) := co11 (P := fun c => ∀ k, k < cNf c → parseFieldDescriptor (cTt c k).2.2.1 = some (cTy c k)) tyX0_ok tyX1_ok tyX2_ok tyX3_ok tyX4_ok tyX5_ok tyX6_ok tyX7_ok tyX8_ok tyX9_ok tyX10_ok hc
theorem nm_ok {c : Nat} (hc : c < 11) : ∀ a, a < cNf c → ∀ b, b < cNf c → a ≠ b → (cTt c a).2.1 ≠ (cTt c b).2.1 := co11 (P := fun c => ∀ a, a < cNf c → ∀ b, b < cNf c → a ≠ b → (cTt c a).2.1 ≠ (cTt c b).2.1) nmX0 nmX1 nmX2 nmX3 nmX4 nmX5 nmX6 nmX7 nmX8 nmX9 nmX10 hc
theorem us_mem {ws : List Cond} {ps : List Nat} (hl : ws.length = ps.length) (h : (ws.zip ps).all (fun q => decide (lw_tbl[q.2]? = some q.1) && goodWord q.1) = true) : ∀ w ∈ ws, w ∈ gT := zip_mem (f := fun w => w) hl h
set_option maxRecDepth 100000 in
theorem us_0 : ∀ w ∈ u_ws (cNm 0) (cTt 0) (cNf 0), w ∈ gT := us_mem (ps := [270, 272, 274, 276, 278, 280, 282]) (by decide +kernel) (by decide +kernel)
set_option maxRecDepth 100000 in
theorem us_1 : ∀ w ∈ u_ws (cNm 1) (cTt 1) (cNf 1), w ∈ gT := us_mem (ps := [197, 199, 201]) (by decide +kernel) (by decide +kernel)
set_option maxRecDepth 100000 in
theorem us_2 : ∀ w ∈ u_ws (cNm 2) (cTt 2) (cNf 2), w ∈ gT := us_mem (ps := [228, 230, 232, 234, 236, 238, 240, 242, 244, 246, 248, 250]) (by decide +kernel) (by decide +kernel)
set_option maxRecDepth 100000 in
theorem us_3 : ∀ w ∈ u_ws (cNm 3) (cTt 3) (cNf 3), w ∈ gT := us_mem (ps := [314, 316, 318, 320]) (by decide +kernel) (by decide +kernel)
set_option maxRecDepth 100000 in
theorem us_4 : ∀ w ∈ u_ws (cNm 4) (cTt 4) (cNf 4), w ∈ gT := us_mem (ps := [178, 180]) (by decide +kernel) (by decide +kernel)
set_option maxRecDepth 100000 in
theorem us_5 : ∀ w ∈ u_ws (cNm 5) (cTt 5) (cNf 5), w ∈ gT := us_mem (ps := [138, 140, 142, 144, 146, 148, 150, 152, 154, 156]) (by decide +kernel) (by decide +kernel)
set_option maxRecDepth 100000 in
theorem us_6 : ∀ w ∈ u_ws (cNm 6) (cTt 6) (cNf 6), w ∈ gT := us_mem (ps := [350, 352]) (by decide +kernel) (by decide +kernel)
set_option maxRecDepth 100000 in
theorem us_7 : ∀ w ∈ u_ws (cNm 7) (cTt 7) (cNf 7), w ∈ gT := us_mem (ps := [334]) (by decide +kernel) (by decide +kernel)
set_option maxRecDepth 100000 in
theorem us_8 : ∀ w ∈ u_ws (cNm 8) (cTt 8) (cNf 8), w ∈ gT := us_mem (ps := [295, 297]) (by decide +kernel) (by decide +kernel)
set_option maxRecDepth 100000 in
theorem us_9 : ∀ w ∈ u_ws (cNm 9) (cTt 9) (cNf 9), w ∈ gT := us_mem (ps := [364, 366, 368, 370, 372, 374, 376, 378, 380]) (by decide +kernel) (by decide +kernel)
set_option maxRecDepth 100000 in
theorem us_10 : ∀ w ∈ u_ws (cNm 10) (cTt 10) (cNf 10), w ∈ gT := us_mem (ps := [1141, 1143, 1145, 1147, 1149, 1151, 1153, 1155, 1157, 1159, 1161, 1163, 1165, 1167, 1169, 1171, 1173, 1175, 1177, 1179, 1181, 1183, 1185, 1187, 1189]) (by decide +kernel) (by decide +kernel)
theorem us_ok {c : Nat} (hc : c < 11) : ∀ w ∈ u_ws (cNm c) (cTt c) (cNf c), w ∈ gT := co11 (P := fun c => ∀ w ∈ u_ws (cNm c) (cTt c) (cNf c), w ∈ gT) us_0 us_1 us_2 us_3 us_4 us_5 us_6 us_7 us_8 us_9 us_10 hc
set_option maxRecDepth 100000 in
theorem w_arrI : Cond.arrayClass .int ∈ gT := gT_i (i := 183) (by decide +kernel)
set_option maxRecDepth 100000 in
theorem w_nat : Cond.native arraycopyName ∈ gT := gT_i (i := 793) (by decide +kernel)
set_option maxRecDepth 100000 in
theorem w_acs : Cond.static arraycopyName ∈ gT := gT_i (i := 792) (by decide +kernel)
set_option maxRecDepth 100000 in
theorem w_sys : Cond.initialized "java/lang/System" ∈ gT := gT_i (i := 92) (by decide +kernel)
set_option maxRecDepth 100000 in
theorem w_oin : Cond.instanceMethod Lib.objectInit ∈ gT := gT_i (i := 99) (by decide +kernel)
set_option maxRecDepth 100000 in
theorem w_oco : Cond.code Lib.objectInit ⟨#[0xb1]⟩ 1 none ∈ gT := gT_i (i := 100) (by decide +kernel)
set_option maxRecDepth 100000 in
theorem w_maxs : Cond.static Lib.Math.max.name ∈ gT := gT_i (i := 169) (by decide +kernel)
set_option maxRecDepth 100000 in
theorem w_maxc : Cond.code Lib.Math.max.name Lib.Math.max.code 2 (some .int) ∈ gT := gT_i (i := 170) (by decide +kernel)
set_option maxRecDepth 100000 in
theorem w_mins : Cond.static Lib.Math.min.name ∈ gT := gT_i (i := 600) (by decide +kernel)
set_option maxRecDepth 100000 in
theorem w_minc : Cond.code Lib.Math.min.name Lib.Math.min.code 2 (some .int) ∈ gT := gT_i (i := 601) (by decide +kernel)
theorem w_mth : Cond.initialized "java/lang/Math" ∈ gT := ini_in 14 (by decide)
end
section
/-! each instruction of the abstract machine is the machine's own -/
section STP
variable {p : Program} {l : Launch} {e : Env} {R : Room} {s : State} {m : MethodId} {args : Array Value} {below : List Frame} {meth : Method} {c : Code} {Q : State → Prop} {X : pX} {k n0 sl0 : Nat}
/-- what is fixed in a frame -/
def fC (p : Program) (s : State) (m : MethodId) (args : Array Value) (meth : Method) (c : Code) (X : pX) (k : Nat) : Prop := p.tables.exec = Jvm.exec ∧ c.code = mCode k ∧ c.maxLocals = mMax k ∧ s.vm.findClass (cNm (mOwn k)) = some m.cls ∧ (∀ w ∈ gT, w.before args s = true) ∧ va_K (aG X) vwCl (aT X) s ∧ meth.name = (mYn k).name ∧ k < 257
/-- how the heap stands in a frame -/
def aI (X : pX) (s : State) (n0 sl0 : Nat) (h : pH) (H : Heap) (locs : List Loc) : Prop := pU h ∧ va_P (aG X) vwCl (aW X h) H ∧ va_S (aA X) s.heap H locs ∧ aX X h s s.heap ∧ nX ≤ n0 ∧ n0 ≤ h.1.1 ∧ sl0 ≤ h.1.2 ∧ s.heap.size = X.2.2.2.2 + (n0 - nX)
/-- the machine, wherever the abstract one stands like this, comes to Q -/
def gW (p : Program) (l : Launch) (e : Env) (R : Room) (s : State) (m : MethodId) (args : Array Value) (below : List Frame) (meth : Method) (c : Code) (Q : State → Prop) (X : pX) (k n0 sl0 : Nat) (a : pF) : Prop :=
  ∀ (H : Heap) (locs : List Loc) (ls : Array Slot), aI X s n0 sl0 a.2.2.2 H locs → lR X k (mMax k) ls a.2.1 → W p l e R s m args below meth c H locs (a.2.2.2.1.1 - n0) (a.2.2.2.1.2 - sl0) Q (F0 m a.1 ls (a.2.2.1.map (aV X)))
theorem okN1 {n : Nat} (h : (n == 1) = true) : n = 1 := by simpa using h
theorem okN2 {n : Nat} (h : (n == 2) = true) : n = 2 := by simpa using h
theorem okN3 {n : Nat} (h : (n == 3) = true) : n = 3 := by simpa using h
theorem tg_of {pc : Nat} {o x : Int} (h : tgE pc o x = true) : (pc : Int) + o = ((x.toNat : Nat) : Int) := by
  unfold tgE at h
  simp only [Bool.and_eq_true, decide_eq_true_eq] at h
  rw [h.1]
  omega
theorem tN {x : Int} (h : 0 ≤ x) : ((x.toNat : Nat) : Int) = x := Int.toNat_of_nonneg h
variable {pc n : Nat} {x : Int} {ps : List (Int × Nat)} {L st : List Value} {h : pH} {a : pF} {cf : Nat → List Value → pH → Option (Option Value × pH)}

theorem so_iconst {i : Int} (F : fC p s m args meth c X k) (hd : decode (mCode k) pc = .ok (.iconst i, n)) (hn : okE k pc n (.iconst i) x ps = true) (hs : stp cf k pc (.iconst i, x, ps) L st h = some (.inl a)) (kk : gW p l e R s m args below meth c Q X k n0 sl0 a) : gW p l e R s m args below meth c Q X k n0 sl0 (pc, L, st, h) := by
  intro H locs ls hI hL
  simp only [okE, Bool.and_eq_true, decide_eq_true_eq] at hn
  obtain ⟨h1, h2⟩ := hn
  have h1 := okN1 h1
  subst h1; subst h2
  simp only [stp, Option.some.injEq, Sum.inl.injEq] at hs
  subst hs
  exact lv_iconst F.1 F.2.1 hd rfl (kk H locs ls hI hL)

theorem so_bipush {i : Int} (F : fC p s m args meth c X k) (hd : decode (mCode k) pc = .ok (.bipush i, n)) (hn : okE k pc n (.bipush i) x ps = true) (hs : stp cf k pc (.bipush i, x, ps) L st h = some (.inl a)) (kk : gW p l e R s m args below meth c Q X k n0 sl0 a) : gW p l e R s m args below meth c Q X k n0 sl0 (pc, L, st, h) := by
  intro H locs ls hI hL
  simp only [okE, Bool.and_eq_true, decide_eq_true_eq] at hn
  obtain ⟨h1, h2⟩ := hn
  have h1 := okN2 h1
  subst h1
  simp only [stp, Option.some.injEq, Sum.inl.injEq] at hs
  subst hs
  exact lv_bipush F.1 F.2.1 hd h2 (kk H locs ls hI hL)

theorem so_sipush {i : Int} (F : fC p s m args meth c X k) (hd : decode (mCode k) pc = .ok (.sipush i, n)) (hn : okE k pc n (.sipush i) x ps = true) (hs : stp cf k pc (.sipush i, x, ps) L st h = some (.inl a)) (kk : gW p l e R s m args below meth c Q X k n0 sl0 a) : gW p l e R s m args below meth c Q X k n0 sl0 (pc, L, st, h) := by
  intro H locs ls hI hL
  simp only [okE, Bool.and_eq_true, decide_eq_true_eq] at hn
  obtain ⟨h1, h2⟩ := hn
  have h1 := okN3 h1
  subst h1
  simp only [stp, Option.some.injEq, Sum.inl.injEq] at hs
  subst hs
  exact lv_sipush F.1 F.2.1 hd h2 (kk H locs ls hI hL)

theorem so_lconst {i : Fin 2} (F : fC p s m args meth c X k) (hd : decode (mCode k) pc = .ok (.lconst i, n)) (hn : okE k pc n (.lconst i) x ps = true) (hs : stp cf k pc (.lconst i, x, ps) L st h = some (.inl a)) (kk : gW p l e R s m args below meth c Q X k n0 sl0 a) : gW p l e R s m args below meth c Q X k n0 sl0 (pc, L, st, h) := by
  intro H locs ls hI hL
  have h1 := okN1 hn
  subst h1
  simp only [stp, Option.some.injEq, Sum.inl.injEq] at hs
  subst hs
  exact lv_lconst F.1 F.2.1 hd rfl (kk H locs ls hI hL)

theorem so_ldc {j : Nat} (F : fC p s m args meth c X k) (hd : decode (mCode k) pc = .ok (.ldc j, n)) (hn : okE k pc n (.ldc j) x ps = true) (hs : stp cf k pc (.ldc j, x, ps) L st h = some (.inl a)) (kk : gW p l e R s m args below meth c Q X k n0 sl0 a) : gW p l e R s m args below meth c Q X k n0 sl0 (pc, L, st, h) := by
  intro H locs ls hI hL
  simp only [okE, Bool.and_eq_true] at hn
  obtain ⟨h1, h2⟩ := hn
  have h1 := okN2 h1
  subst h1
  cases ps with
  | nil =>
    simp only [decide_eq_true_eq] at h2
    simp only [stp, Option.some.injEq, Sum.inl.injEq] at hs
    subst hs
    exact lv_ldc F.1 F.2.1 F.2.2.2.1 (F.2.2.2.2.1 _ (CN_in _ h2)) hd (kk H locs ls hI hL)
  | cons q l2 =>
    simp only [Bool.and_eq_true, decide_eq_true_eq] at h2
    simp only [stp, Option.some.injEq, Sum.inl.injEq] at hs
    subst hs
    have hlt : x.toNat < 3 := by
      have hall : ∀ q ∈ SRk, q.2.2 < 3 := by decide +kernel
      exact hall _ h2.2
    have h5 := hI.2.2.2.1.2.2.2.2.1 _ h2.2
    have h6 := kk H locs ls hI hL
    refine va_ldcS F.1 F.2.1 F.2.2.2.1 h5 hd ?_
    have e : aD X x.toNat = X.2.2.2.1 x.toNat := if_pos (Nat.lt_trans hlt (by decide))
    rw [← e]
    exact h6

theorem so_ldc_w {j : Nat} (F : fC p s m args meth c X k) (hd : decode (mCode k) pc = .ok (.ldc_w j, n)) (hn : okE k pc n (.ldc_w j) x ps = true) (hs : stp cf k pc (.ldc_w j, x, ps) L st h = some (.inl a)) (kk : gW p l e R s m args below meth c Q X k n0 sl0 a) : gW p l e R s m args below meth c Q X k n0 sl0 (pc, L, st, h) := by
  intro H locs ls hI hL
  simp only [okE, Bool.and_eq_true, decide_eq_true_eq] at hn
  obtain ⟨h1, h2⟩ := hn
  have h1 := okN3 h1
  subst h1
  simp only [stp, Option.some.injEq, Sum.inl.injEq] at hs
  subst hs
  exact lv_ldcw F.1 F.2.1 F.2.2.2.1 (F.2.2.2.2.1 _ (CN_in _ h2)) hd (kk H locs ls hI hL)

theorem so_ldc2_w {j : Nat} (F : fC p s m args meth c X k) (hd : decode (mCode k) pc = .ok (.ldc2_w j, n)) (hn : okE k pc n (.ldc2_w j) x ps = true) (hs : stp cf k pc (.ldc2_w j, x, ps) L st h = some (.inl a)) (kk : gW p l e R s m args below meth c Q X k n0 sl0 a) : gW p l e R s m args below meth c Q X k n0 sl0 (pc, L, st, h) := by
  intro H locs ls hI hL
  simp only [okE, Bool.and_eq_true, decide_eq_true_eq] at hn
  obtain ⟨h1, h2⟩ := hn
  have h1 := okN3 h1
  subst h1
  simp only [stp, Option.some.injEq, Sum.inl.injEq] at hs
  subst hs
  exact lv_ldc2 F.1 F.2.1 F.2.2.2.1 (F.2.2.2.2.1 _ (CL_in _ h2)) hd (kk H locs ls hI hL)

theorem so_iload {i : Nat} (F : fC p s m args meth c X k) (hd : decode (mCode k) pc = .ok (.iload i, n)) (hn : okE k pc n (.iload i) x ps = true) (hs : stp cf k pc (.iload i, x, ps) L st h = some (.inl a)) (kk : gW p l e R s m args below meth c Q X k n0 sl0 a) : gW p l e R s m args below meth c Q X k n0 sl0 (pc, L, st, h) := by
  intro H locs ls hI hL
  have h1 := okN2 hn
  subst h1
  simp only [stp] at hs
  split at hs
  · rename_i y hq
    simp only [Option.some.injEq, Sum.inl.injEq] at hs
    subst hs
    exact lv_iload F.1 F.2.1 hd (hL.2.2.2.1 _ _ hq (fun p h => by cases h)) (kk H locs ls hI hL)
  · cases hs

theorem so_iload_n {i : Fin 4} (F : fC p s m args meth c X k) (hd : decode (mCode k) pc = .ok (.iload_n i, n)) (hn : okE k pc n (.iload_n i) x ps = true) (hs : stp cf k pc (.iload_n i, x, ps) L st h = some (.inl a)) (kk : gW p l e R s m args below meth c Q X k n0 sl0 a) : gW p l e R s m args below meth c Q X k n0 sl0 (pc, L, st, h) := by
  intro H locs ls hI hL
  have h1 := okN1 hn
  subst h1
  simp only [stp] at hs
  split at hs
  · rename_i y hq
    simp only [Option.some.injEq, Sum.inl.injEq] at hs
    subst hs
    exact lv_iload_n F.1 F.2.1 hd rfl (hL.2.2.2.1 _ _ hq (fun p h => by cases h)) (kk H locs ls hI hL)
  · cases hs

theorem so_aload {i : Nat} (F : fC p s m args meth c X k) (hd : decode (mCode k) pc = .ok (.aload i, n)) (hn : okE k pc n (.aload i) x ps = true) (hs : stp cf k pc (.aload i, x, ps) L st h = some (.inl a)) (kk : gW p l e R s m args below meth c Q X k n0 sl0 a) : gW p l e R s m args below meth c Q X k n0 sl0 (pc, L, st, h) := by
  intro H locs ls hI hL
  have h1 := okN2 hn
  subst h1
  simp only [stp] at hs
  split at hs
  · rename_i y hq
    simp only [Option.some.injEq, Sum.inl.injEq] at hs
    subst hs
    exact lv_aload F.1 F.2.1 hd (hL.2.2.2.1 _ _ hq (fun p h => by cases h)) (kk H locs ls hI hL)
  · cases hs

theorem so_aload_n {i : Fin 4} (F : fC p s m args meth c X k) (hd : decode (mCode k) pc = .ok (.aload_n i, n)) (hn : okE k pc n (.aload_n i) x ps = true) (hs : stp cf k pc (.aload_n i, x, ps) L st h = some (.inl a)) (kk : gW p l e R s m args below meth c Q X k n0 sl0 a) : gW p l e R s m args below meth c Q X k n0 sl0 (pc, L, st, h) := by
  intro H locs ls hI hL
  have h1 := okN1 hn
  subst h1
  simp only [stp] at hs
  split at hs
  · rename_i y hq
    simp only [Option.some.injEq, Sum.inl.injEq] at hs
    subst hs
    exact lv_aload_n F.1 F.2.1 hd rfl (hL.2.2.2.1 _ _ hq (fun p h => by cases h)) (kk H locs ls hI hL)
  · cases hs

theorem so_lload {i : Nat} (F : fC p s m args meth c X k) (hd : decode (mCode k) pc = .ok (.lload i, n)) (hn : okE k pc n (.lload i) x ps = true) (hs : stp cf k pc (.lload i, x, ps) L st h = some (.inl a)) (kk : gW p l e R s m args below meth c Q X k n0 sl0 a) : gW p l e R s m args below meth c Q X k n0 sl0 (pc, L, st, h) := by
  intro H locs ls hI hL
  have h1 := okN2 hn
  subst h1
  simp only [stp] at hs
  split at hs
  · rename_i y hq
    simp only [Option.some.injEq, Sum.inl.injEq] at hs
    subst hs
    exact lv_lload F.1 F.2.1 hd (hL.2.2.2.1 _ _ hq (fun p h => by cases h)) (kk H locs ls hI hL)
  · cases hs

theorem so_lload_n {i : Fin 4} (F : fC p s m args meth c X k) (hd : decode (mCode k) pc = .ok (.lload_n i, n)) (hn : okE k pc n (.lload_n i) x ps = true) (hs : stp cf k pc (.lload_n i, x, ps) L st h = some (.inl a)) (kk : gW p l e R s m args below meth c Q X k n0 sl0 a) : gW p l e R s m args below meth c Q X k n0 sl0 (pc, L, st, h) := by
  intro H locs ls hI hL
  have h1 := okN1 hn
  subst h1
  simp only [stp] at hs
  split at hs
  · rename_i y hq
    simp only [Option.some.injEq, Sum.inl.injEq] at hs
    subst hs
    exact lv_lload_n F.1 F.2.1 hd rfl (hL.2.2.2.1 _ _ hq (fun p h => by cases h)) (kk H locs ls hI hL)
  · cases hs

theorem so_istore {i : Nat} (F : fC p s m args meth c X k) (hd : decode (mCode k) pc = .ok (.istore i, n)) (hn : okE k pc n (.istore i) x ps = true) (hs : stp cf k pc (.istore i, x, ps) L st h = some (.inl a)) (kk : gW p l e R s m args below meth c Q X k n0 sl0 a) : gW p l e R s m args below meth c Q X k n0 sl0 (pc, L, st, h) := by
  intro H locs ls hI hL
  have h1 := okN2 hn
  subst h1
  simp only [stp] at hs
  split at hs
  · split at hs
    · rename_i hc
      simp only [Option.some.injEq, Sum.inl.injEq] at hs
      subst hs
      exact lv_istore F.1 F.2.1 hd hL.has (by rw [← hL.2.1]; exact hc.1) rfl (fun ls' h' => kk H locs ls' hI (hL.set hc.2 (by simp [Value.category]) h'))
    · cases hs
  · cases hs

theorem so_istore_n {i : Fin 4} (F : fC p s m args meth c X k) (hd : decode (mCode k) pc = .ok (.istore_n i, n)) (hn : okE k pc n (.istore_n i) x ps = true) (hs : stp cf k pc (.istore_n i, x, ps) L st h = some (.inl a)) (kk : gW p l e R s m args below meth c Q X k n0 sl0 a) : gW p l e R s m args below meth c Q X k n0 sl0 (pc, L, st, h) := by
  intro H locs ls hI hL
  have h1 := okN1 hn
  subst h1
  simp only [stp] at hs
  split at hs
  · split at hs
    · rename_i hc
      simp only [Option.some.injEq, Sum.inl.injEq] at hs
      subst hs
      exact lv_istore_n F.1 F.2.1 hd rfl hL.has (by rw [← hL.2.1]; exact hc.1) rfl (fun ls' h' => kk H locs ls' hI (hL.set hc.2 (by simp [Value.category]) h'))
    · cases hs
  · cases hs

theorem so_astore {i : Nat} (F : fC p s m args meth c X k) (hd : decode (mCode k) pc = .ok (.astore i, n)) (hn : okE k pc n (.astore i) x ps = true) (hs : stp cf k pc (.astore i, x, ps) L st h = some (.inl a)) (kk : gW p l e R s m args below meth c Q X k n0 sl0 a) : gW p l e R s m args below meth c Q X k n0 sl0 (pc, L, st, h) := by
  intro H locs ls hI hL
  have h1 := okN2 hn
  subst h1
  simp only [stp] at hs
  split at hs
  · split at hs
    · rename_i hc
      simp only [Option.some.injEq, Sum.inl.injEq] at hs
      subst hs
      exact lv_astore F.1 F.2.1 hd hL.has (by rw [← hL.2.1]; exact hc.1) rfl (fun ls' h' => kk H locs ls' hI (hL.set hc.2 (by simp [Value.category]) h'))
    · cases hs
  · cases hs

theorem so_astore_n {i : Fin 4} (F : fC p s m args meth c X k) (hd : decode (mCode k) pc = .ok (.astore_n i, n)) (hn : okE k pc n (.astore_n i) x ps = true) (hs : stp cf k pc (.astore_n i, x, ps) L st h = some (.inl a)) (kk : gW p l e R s m args below meth c Q X k n0 sl0 a) : gW p l e R s m args below meth c Q X k n0 sl0 (pc, L, st, h) := by
  intro H locs ls hI hL
  have h1 := okN1 hn
  subst h1
  simp only [stp] at hs
  split at hs
  · split at hs
    · rename_i hc
      simp only [Option.some.injEq, Sum.inl.injEq] at hs
      subst hs
      exact lv_astore_n F.1 F.2.1 hd rfl hL.has (by rw [← hL.2.1]; exact hc.1) rfl (fun ls' h' => kk H locs ls' hI (hL.set hc.2 (by simp [Value.category]) h'))
    · cases hs
  · cases hs

theorem so_iinc {i : Nat} {d : Int} (F : fC p s m args meth c X k) (hd : decode (mCode k) pc = .ok (.iinc i d, n)) (hn : okE k pc n (.iinc i d) x ps = true) (hs : stp cf k pc (.iinc i d, x, ps) L st h = some (.inl a)) (kk : gW p l e R s m args below meth c Q X k n0 sl0 a) : gW p l e R s m args below meth c Q X k n0 sl0 (pc, L, st, h) := by
  intro H locs ls hI hL
  have h1 := okN3 hn
  subst h1
  simp only [stp] at hs
  split at hs
  · rename_i y hq
    split at hs
    · rename_i hc
      simp only [Option.some.injEq, Sum.inl.injEq] at hs
      subst hs
      obtain ⟨j, hj⟩ := List.getElem?_of_mem (lPr_in (X := X) hq (fun p h => by cases h))
      exact lv_iinc (k := j) F.1 F.2.1 hd hL.has hj rfl (by rw [← hL.2.1]; exact (List.getElem?_eq_some_iff.mp hq).1) rfl (fun ls' h' => kk H locs ls' hI (hL.set (v := .int (y + Int32.ofInt d)) hc (by simp [Value.category]) h'))
    · cases hs
  · cases hs

theorem so_iadd (F : fC p s m args meth c X k) (hd : decode (mCode k) pc = .ok (.iadd, n)) (hn : okE k pc n (.iadd) x ps = true) (hs : stp cf k pc (.iadd, x, ps) L st h = some (.inl a)) (kk : gW p l e R s m args below meth c Q X k n0 sl0 a) : gW p l e R s m args below meth c Q X k n0 sl0 (pc, L, st, h) := by
  intro H locs ls hI hL
  have h1 := okN1 hn
  subst h1
  simp only [stp] at hs
  split at hs
  · simp only [Option.some.injEq, Sum.inl.injEq] at hs
    subst hs
    exact lv_iadd F.1 F.2.1 hd (kk H locs ls hI hL)
  · cases hs

theorem so_isub (F : fC p s m args meth c X k) (hd : decode (mCode k) pc = .ok (.isub, n)) (hn : okE k pc n (.isub) x ps = true) (hs : stp cf k pc (.isub, x, ps) L st h = some (.inl a)) (kk : gW p l e R s m args below meth c Q X k n0 sl0 a) : gW p l e R s m args below meth c Q X k n0 sl0 (pc, L, st, h) := by
  intro H locs ls hI hL
  have h1 := okN1 hn
  subst h1
  simp only [stp] at hs
  split at hs
  · simp only [Option.some.injEq, Sum.inl.injEq] at hs
    subst hs
    exact lv_isub F.1 F.2.1 hd (kk H locs ls hI hL)
  · cases hs

theorem so_imul (F : fC p s m args meth c X k) (hd : decode (mCode k) pc = .ok (.imul, n)) (hn : okE k pc n (.imul) x ps = true) (hs : stp cf k pc (.imul, x, ps) L st h = some (.inl a)) (kk : gW p l e R s m args below meth c Q X k n0 sl0 a) : gW p l e R s m args below meth c Q X k n0 sl0 (pc, L, st, h) := by
  intro H locs ls hI hL
  have h1 := okN1 hn
  subst h1
  simp only [stp] at hs
  split at hs
  · simp only [Option.some.injEq, Sum.inl.injEq] at hs
    subst hs
    exact lv_imul F.1 F.2.1 hd (kk H locs ls hI hL)
  · cases hs

theorem so_iand (F : fC p s m args meth c X k) (hd : decode (mCode k) pc = .ok (.iand, n)) (hn : okE k pc n (.iand) x ps = true) (hs : stp cf k pc (.iand, x, ps) L st h = some (.inl a)) (kk : gW p l e R s m args below meth c Q X k n0 sl0 a) : gW p l e R s m args below meth c Q X k n0 sl0 (pc, L, st, h) := by
  intro H locs ls hI hL
  have h1 := okN1 hn
  subst h1
  simp only [stp] at hs
  split at hs
  · simp only [Option.some.injEq, Sum.inl.injEq] at hs
    subst hs
    exact lv_iand F.1 F.2.1 hd (kk H locs ls hI hL)
  · cases hs

theorem so_ior (F : fC p s m args meth c X k) (hd : decode (mCode k) pc = .ok (.ior, n)) (hn : okE k pc n (.ior) x ps = true) (hs : stp cf k pc (.ior, x, ps) L st h = some (.inl a)) (kk : gW p l e R s m args below meth c Q X k n0 sl0 a) : gW p l e R s m args below meth c Q X k n0 sl0 (pc, L, st, h) := by
  intro H locs ls hI hL
  have h1 := okN1 hn
  subst h1
  simp only [stp] at hs
  split at hs
  · simp only [Option.some.injEq, Sum.inl.injEq] at hs
    subst hs
    exact lv_ior F.1 F.2.1 hd (kk H locs ls hI hL)
  · cases hs

theorem so_ixor (F : fC p s m args meth c X k) (hd : decode (mCode k) pc = .ok (.ixor, n)) (hn : okE k pc n (.ixor) x ps = true) (hs : stp cf k pc (.ixor, x, ps) L st h = some (.inl a)) (kk : gW p l e R s m args below meth c Q X k n0 sl0 a) : gW p l e R s m args below meth c Q X k n0 sl0 (pc, L, st, h) := by
  intro H locs ls hI hL
  have h1 := okN1 hn
  subst h1
  simp only [stp] at hs
  split at hs
  · simp only [Option.some.injEq, Sum.inl.injEq] at hs
    subst hs
    exact lv_ixor F.1 F.2.1 hd (kk H locs ls hI hL)
  · cases hs

theorem so_ineg (F : fC p s m args meth c X k) (hd : decode (mCode k) pc = .ok (.ineg, n)) (hn : okE k pc n (.ineg) x ps = true) (hs : stp cf k pc (.ineg, x, ps) L st h = some (.inl a)) (kk : gW p l e R s m args below meth c Q X k n0 sl0 a) : gW p l e R s m args below meth c Q X k n0 sl0 (pc, L, st, h) := by
  intro H locs ls hI hL
  have h1 := okN1 hn
  subst h1
  simp only [stp] at hs
  split at hs
  · simp only [Option.some.injEq, Sum.inl.injEq] at hs
    subst hs
    exact lv_ineg F.1 F.2.1 hd (kk H locs ls hI hL)
  · cases hs

theorem so_ishl (F : fC p s m args meth c X k) (hd : decode (mCode k) pc = .ok (.ishl, n)) (hn : okE k pc n (.ishl) x ps = true) (hs : stp cf k pc (.ishl, x, ps) L st h = some (.inl a)) (kk : gW p l e R s m args below meth c Q X k n0 sl0 a) : gW p l e R s m args below meth c Q X k n0 sl0 (pc, L, st, h) := by
  intro H locs ls hI hL
  have h1 := okN1 hn
  subst h1
  simp only [stp] at hs
  split at hs
  · simp only [Option.some.injEq, Sum.inl.injEq] at hs
    subst hs
    exact lv_ishl F.1 F.2.1 hd (kk H locs ls hI hL)
  · cases hs

theorem so_ishr (F : fC p s m args meth c X k) (hd : decode (mCode k) pc = .ok (.ishr, n)) (hn : okE k pc n (.ishr) x ps = true) (hs : stp cf k pc (.ishr, x, ps) L st h = some (.inl a)) (kk : gW p l e R s m args below meth c Q X k n0 sl0 a) : gW p l e R s m args below meth c Q X k n0 sl0 (pc, L, st, h) := by
  intro H locs ls hI hL
  have h1 := okN1 hn
  subst h1
  simp only [stp] at hs
  split at hs
  · simp only [Option.some.injEq, Sum.inl.injEq] at hs
    subst hs
    exact lv_ishr F.1 F.2.1 hd (kk H locs ls hI hL)
  · cases hs

theorem so_land (F : fC p s m args meth c X k) (hd : decode (mCode k) pc = .ok (.land, n)) (hn : okE k pc n (.land) x ps = true) (hs : stp cf k pc (.land, x, ps) L st h = some (.inl a)) (kk : gW p l e R s m args below meth c Q X k n0 sl0 a) : gW p l e R s m args below meth c Q X k n0 sl0 (pc, L, st, h) := by
  intro H locs ls hI hL
  have h1 := okN1 hn
  subst h1
  simp only [stp] at hs
  split at hs
  · simp only [Option.some.injEq, Sum.inl.injEq] at hs
    subst hs
    exact lv_land F.1 F.2.1 hd (kk H locs ls hI hL)
  · cases hs

theorem so_lor (F : fC p s m args meth c X k) (hd : decode (mCode k) pc = .ok (.lor, n)) (hn : okE k pc n (.lor) x ps = true) (hs : stp cf k pc (.lor, x, ps) L st h = some (.inl a)) (kk : gW p l e R s m args below meth c Q X k n0 sl0 a) : gW p l e R s m args below meth c Q X k n0 sl0 (pc, L, st, h) := by
  intro H locs ls hI hL
  have h1 := okN1 hn
  subst h1
  simp only [stp] at hs
  split at hs
  · simp only [Option.some.injEq, Sum.inl.injEq] at hs
    subst hs
    exact lv_lor F.1 F.2.1 hd (kk H locs ls hI hL)
  · cases hs

theorem so_iushr (F : fC p s m args meth c X k) (hd : decode (mCode k) pc = .ok (.iushr, n)) (hn : okE k pc n (.iushr) x ps = true) (hs : stp cf k pc (.iushr, x, ps) L st h = some (.inl a)) (kk : gW p l e R s m args below meth c Q X k n0 sl0 a) : gW p l e R s m args below meth c Q X k n0 sl0 (pc, L, st, h) := by
  intro H locs ls hI hL
  have h1 := okN1 hn
  subst h1
  simp only [stp] at hs
  split at hs
  · simp only [Option.some.injEq, Sum.inl.injEq] at hs
    subst hs
    exact lv_iushr F.1 F.2.1 hd rfl (kk H locs ls hI hL)
  · cases hs

theorem so_i2l (F : fC p s m args meth c X k) (hd : decode (mCode k) pc = .ok (.i2l, n)) (hn : okE k pc n (.i2l) x ps = true) (hs : stp cf k pc (.i2l, x, ps) L st h = some (.inl a)) (kk : gW p l e R s m args below meth c Q X k n0 sl0 a) : gW p l e R s m args below meth c Q X k n0 sl0 (pc, L, st, h) := by
  intro H locs ls hI hL
  have h1 := okN1 hn
  subst h1
  simp only [stp] at hs
  split at hs
  · simp only [Option.some.injEq, Sum.inl.injEq] at hs
    subst hs
    exact lv_i2l F.1 F.2.1 hd rfl (kk H locs ls hI hL)
  · cases hs

theorem so_l2i (F : fC p s m args meth c X k) (hd : decode (mCode k) pc = .ok (.l2i, n)) (hn : okE k pc n (.l2i) x ps = true) (hs : stp cf k pc (.l2i, x, ps) L st h = some (.inl a)) (kk : gW p l e R s m args below meth c Q X k n0 sl0 a) : gW p l e R s m args below meth c Q X k n0 sl0 (pc, L, st, h) := by
  intro H locs ls hI hL
  have h1 := okN1 hn
  subst h1
  simp only [stp] at hs
  split at hs
  · simp only [Option.some.injEq, Sum.inl.injEq] at hs
    subst hs
    exact lv_l2i F.1 F.2.1 hd rfl (kk H locs ls hI hL)
  · cases hs

theorem so_i2b (F : fC p s m args meth c X k) (hd : decode (mCode k) pc = .ok (.i2b, n)) (hn : okE k pc n (.i2b) x ps = true) (hs : stp cf k pc (.i2b, x, ps) L st h = some (.inl a)) (kk : gW p l e R s m args below meth c Q X k n0 sl0 a) : gW p l e R s m args below meth c Q X k n0 sl0 (pc, L, st, h) := by
  intro H locs ls hI hL
  have h1 := okN1 hn
  subst h1
  simp only [stp] at hs
  split at hs
  · simp only [Option.some.injEq, Sum.inl.injEq] at hs
    subst hs
    exact lv_i2b F.1 F.2.1 hd rfl (kk H locs ls hI hL)
  · cases hs

theorem so_i2s (F : fC p s m args meth c X k) (hd : decode (mCode k) pc = .ok (.i2s, n)) (hn : okE k pc n (.i2s) x ps = true) (hs : stp cf k pc (.i2s, x, ps) L st h = some (.inl a)) (kk : gW p l e R s m args below meth c Q X k n0 sl0 a) : gW p l e R s m args below meth c Q X k n0 sl0 (pc, L, st, h) := by
  intro H locs ls hI hL
  have h1 := okN1 hn
  subst h1
  simp only [stp] at hs
  split at hs
  · simp only [Option.some.injEq, Sum.inl.injEq] at hs
    subst hs
    exact lv_i2s F.1 F.2.1 hd rfl (kk H locs ls hI hL)
  · cases hs

theorem so_i2c (F : fC p s m args meth c X k) (hd : decode (mCode k) pc = .ok (.i2c, n)) (hn : okE k pc n (.i2c) x ps = true) (hs : stp cf k pc (.i2c, x, ps) L st h = some (.inl a)) (kk : gW p l e R s m args below meth c Q X k n0 sl0 a) : gW p l e R s m args below meth c Q X k n0 sl0 (pc, L, st, h) := by
  intro H locs ls hI hL
  have h1 := okN1 hn
  subst h1
  simp only [stp] at hs
  split at hs
  · simp only [Option.some.injEq, Sum.inl.injEq] at hs
    subst hs
    exact lv_i2c F.1 F.2.1 hd rfl (kk H locs ls hI hL)
  · cases hs

theorem so_lshl (F : fC p s m args meth c X k) (hd : decode (mCode k) pc = .ok (.lshl, n)) (hn : okE k pc n (.lshl) x ps = true) (hs : stp cf k pc (.lshl, x, ps) L st h = some (.inl a)) (kk : gW p l e R s m args below meth c Q X k n0 sl0 a) : gW p l e R s m args below meth c Q X k n0 sl0 (pc, L, st, h) := by
  intro H locs ls hI hL
  have h1 := okN1 hn
  subst h1
  simp only [stp] at hs
  split at hs
  · simp only [Option.some.injEq, Sum.inl.injEq] at hs
    subst hs
    exact lv_lshl F.1 F.2.1 hd rfl (kk H locs ls hI hL)
  · cases hs

theorem so_lshr (F : fC p s m args meth c X k) (hd : decode (mCode k) pc = .ok (.lshr, n)) (hn : okE k pc n (.lshr) x ps = true) (hs : stp cf k pc (.lshr, x, ps) L st h = some (.inl a)) (kk : gW p l e R s m args below meth c Q X k n0 sl0 a) : gW p l e R s m args below meth c Q X k n0 sl0 (pc, L, st, h) := by
  intro H locs ls hI hL
  have h1 := okN1 hn
  subst h1
  simp only [stp] at hs
  split at hs
  · simp only [Option.some.injEq, Sum.inl.injEq] at hs
    subst hs
    exact lv_lshr F.1 F.2.1 hd rfl (kk H locs ls hI hL)
  · cases hs

theorem so_lushr (F : fC p s m args meth c X k) (hd : decode (mCode k) pc = .ok (.lushr, n)) (hn : okE k pc n (.lushr) x ps = true) (hs : stp cf k pc (.lushr, x, ps) L st h = some (.inl a)) (kk : gW p l e R s m args below meth c Q X k n0 sl0 a) : gW p l e R s m args below meth c Q X k n0 sl0 (pc, L, st, h) := by
  intro H locs ls hI hL
  have h1 := okN1 hn
  subst h1
  simp only [stp] at hs
  split at hs
  · simp only [Option.some.injEq, Sum.inl.injEq] at hs
    subst hs
    exact lv_lushr F.1 F.2.1 hd rfl (kk H locs ls hI hL)
  · cases hs

theorem so_lcmp (F : fC p s m args meth c X k) (hd : decode (mCode k) pc = .ok (.lcmp, n)) (hn : okE k pc n (.lcmp) x ps = true) (hs : stp cf k pc (.lcmp, x, ps) L st h = some (.inl a)) (kk : gW p l e R s m args below meth c Q X k n0 sl0 a) : gW p l e R s m args below meth c Q X k n0 sl0 (pc, L, st, h) := by
  intro H locs ls hI hL
  have h1 := okN1 hn
  subst h1
  simp only [stp] at hs
  split at hs
  · simp only [Option.some.injEq, Sum.inl.injEq] at hs
    subst hs
    exact W.lcmp F.1 F.2.1 hd (kk H locs ls hI hL)
  · cases hs

theorem so_idiv (F : fC p s m args meth c X k) (hd : decode (mCode k) pc = .ok (.idiv, n)) (hn : okE k pc n (.idiv) x ps = true) (hs : stp cf k pc (.idiv, x, ps) L st h = some (.inl a)) (kk : gW p l e R s m args below meth c Q X k n0 sl0 a) : gW p l e R s m args below meth c Q X k n0 sl0 (pc, L, st, h) := by
  intro H locs ls hI hL
  have h1 := okN1 hn
  subst h1
  simp only [stp] at hs
  split at hs
  · split at hs
    · cases hs
    · rename_i hne
      simp only [Option.some.injEq, Sum.inl.injEq] at hs
      subst hs
      exact lv_idiv F.1 F.2.1 hd hne (kk H locs ls hI hL)
  · cases hs

theorem so_irem (F : fC p s m args meth c X k) (hd : decode (mCode k) pc = .ok (.irem, n)) (hn : okE k pc n (.irem) x ps = true) (hs : stp cf k pc (.irem, x, ps) L st h = some (.inl a)) (kk : gW p l e R s m args below meth c Q X k n0 sl0 a) : gW p l e R s m args below meth c Q X k n0 sl0 (pc, L, st, h) := by
  intro H locs ls hI hL
  have h1 := okN1 hn
  subst h1
  simp only [stp] at hs
  split at hs
  · split at hs
    · cases hs
    · rename_i hne
      simp only [Option.some.injEq, Sum.inl.injEq] at hs
      subst hs
      exact lv_irem F.1 F.2.1 hd hne (kk H locs ls hI hL)
  · cases hs

theorem so_dup (F : fC p s m args meth c X k) (hd : decode (mCode k) pc = .ok (.dup, n)) (hn : okE k pc n (.dup) x ps = true) (hs : stp cf k pc (.dup, x, ps) L st h = some (.inl a)) (kk : gW p l e R s m args below meth c Q X k n0 sl0 a) : gW p l e R s m args below meth c Q X k n0 sl0 (pc, L, st, h) := by
  intro H locs ls hI hL
  have h1 := okN1 hn
  subst h1
  simp only [stp] at hs
  split at hs
  · simp only [Option.some.injEq, Sum.inl.injEq] at hs
    subst hs
    exact lv_dup F.1 F.2.1 hd rfl (kk H locs ls hI hL)
  · simp only [Option.some.injEq, Sum.inl.injEq] at hs
    subst hs
    exact lv_dup F.1 F.2.1 hd rfl (kk H locs ls hI hL)
  · cases hs

theorem so_dup2 (F : fC p s m args meth c X k) (hd : decode (mCode k) pc = .ok (.dup2, n)) (hn : okE k pc n (.dup2) x ps = true) (hs : stp cf k pc (.dup2, x, ps) L st h = some (.inl a)) (kk : gW p l e R s m args below meth c Q X k n0 sl0 a) : gW p l e R s m args below meth c Q X k n0 sl0 (pc, L, st, h) := by
  intro H locs ls hI hL
  have h1 := okN1 hn
  subst h1
  simp only [stp] at hs
  split at hs
  · simp only [Option.some.injEq, Sum.inl.injEq] at hs
    subst hs
    exact lv_dup2_11 F.1 F.2.1 hd rfl rfl (kk H locs ls hI hL)
  · cases hs

theorem so_pop (F : fC p s m args meth c X k) (hd : decode (mCode k) pc = .ok (.pop, n)) (hn : okE k pc n (.pop) x ps = true) (hs : stp cf k pc (.pop, x, ps) L st h = some (.inl a)) (kk : gW p l e R s m args below meth c Q X k n0 sl0 a) : gW p l e R s m args below meth c Q X k n0 sl0 (pc, L, st, h) := by
  intro H locs ls hI hL
  have h1 := okN1 hn
  subst h1
  simp only [stp] at hs
  split at hs
  · simp only [Option.some.injEq, Sum.inl.injEq] at hs
    subst hs
    exact lv_pop F.1 F.2.1 hd rfl (kk H locs ls hI hL)
  · cases hs

theorem so_goto {o : Int} (F : fC p s m args meth c X k) (hd : decode (mCode k) pc = .ok (.goto o, n)) (hn : okE k pc n (.goto o) x ps = true) (hs : stp cf k pc (.goto o, x, ps) L st h = some (.inl a)) (kk : gW p l e R s m args below meth c Q X k n0 sl0 a) : gW p l e R s m args below meth c Q X k n0 sl0 (pc, L, st, h) := by
  intro H locs ls hI hL
  simp only [okE, Bool.and_eq_true] at hn
  obtain ⟨h1, h2⟩ := hn
  have h1 := okN3 h1
  subst h1
  simp only [stp, Option.some.injEq, Sum.inl.injEq] at hs
  subst hs
  exact lv_goto F.1 F.2.1 hd (tg_of h2) (kk H locs ls hI hL)

theorem so_if_icmp {q : ClassFile.Cond} {o : Int} (F : fC p s m args meth c X k) (hd : decode (mCode k) pc = .ok (.if_icmp q o, n)) (hn : okE k pc n (.if_icmp q o) x ps = true) (hs : stp cf k pc (.if_icmp q o, x, ps) L st h = some (.inl a)) (kk : gW p l e R s m args below meth c Q X k n0 sl0 a) : gW p l e R s m args below meth c Q X k n0 sl0 (pc, L, st, h) := by
  intro H locs ls hI hL
  simp only [okE, Bool.and_eq_true] at hn
  obtain ⟨h1, h2⟩ := hn
  have h1 := okN3 h1
  subst h1
  simp only [stp] at hs
  split at hs
  · simp only [Option.some.injEq, Sum.inl.injEq] at hs
    subst hs
    have h9 := kk H locs ls hI hL
    cases q with
    | eq => exact lv_icmp_eq F.1 F.2.1 hd (tg_of h2) (fun hc => by simp only [brc] at h9; rw [if_pos hc] at h9; exact h9) (fun hc => by simp only [brc] at h9; rw [if_neg hc] at h9; exact h9)
    | ne => exact lv_icmp_ne F.1 F.2.1 hd (tg_of h2) (fun hc => by simp only [brc] at h9; rw [if_neg hc] at h9; exact h9) (fun hc => by simp only [brc] at h9; rw [if_pos hc] at h9; exact h9)
    | lt => exact lv_icmp_lt F.1 F.2.1 hd (tg_of h2) (fun hc => by simp only [brc] at h9; rw [if_pos hc] at h9; exact h9) (fun hc => by simp only [brc] at h9; rw [if_neg hc] at h9; exact h9)
    | ge => exact lv_icmp_ge F.1 F.2.1 hd (tg_of h2) (fun hc => by simp only [brc] at h9; rw [if_neg (Int32.not_lt.mpr hc)] at h9; exact h9) (fun hc => by simp only [brc] at h9; rw [if_pos (Int32.not_le.mp hc)] at h9; exact h9)
    | gt => exact lv_icmp_gt F.1 F.2.1 hd (tg_of h2) (fun hc => by simp only [brc] at h9; rw [if_pos hc] at h9; exact h9) (fun hc => by simp only [brc] at h9; rw [if_neg hc] at h9; exact h9)
    | le => exact lv_icmp_le F.1 F.2.1 hd (tg_of h2) (fun hc => by simp only [brc] at h9; rw [if_neg (Int32.not_lt.mpr hc)] at h9; exact h9) (fun hc => by simp only [brc] at h9; rw [if_pos (Int32.not_le.mp hc)] at h9; exact h9)
  · cases hs

theorem so_ifCond {q : ClassFile.Cond} {o : Int} (F : fC p s m args meth c X k) (hd : decode (mCode k) pc = .ok (.ifCond q o, n)) (hn : okE k pc n (.ifCond q o) x ps = true) (hs : stp cf k pc (.ifCond q o, x, ps) L st h = some (.inl a)) (kk : gW p l e R s m args below meth c Q X k n0 sl0 a) : gW p l e R s m args below meth c Q X k n0 sl0 (pc, L, st, h) := by
  intro H locs ls hI hL
  simp only [okE, Bool.and_eq_true] at hn
  obtain ⟨h1, h2⟩ := hn
  have h1 := okN3 h1
  subst h1
  simp only [stp] at hs
  split at hs
  · simp only [Option.some.injEq, Sum.inl.injEq] at hs
    subst hs
    have h9 := kk H locs ls hI hL
    cases q with
    | eq => exact lv_if_eq F.1 F.2.1 hd (tg_of h2) (fun hc => by simp only [brc] at h9; rw [if_pos hc] at h9; exact h9) (fun hc => by simp only [brc] at h9; rw [if_neg hc] at h9; exact h9)
    | ne => exact lv_if_ne F.1 F.2.1 hd (tg_of h2) (fun hc => by simp only [brc] at h9; rw [if_neg hc] at h9; exact h9) (fun hc => by simp only [brc] at h9; rw [if_pos hc] at h9; exact h9)
    | lt => exact lv_if_lt F.1 F.2.1 hd (tg_of h2) (fun hc => by simp only [brc] at h9; rw [if_pos hc] at h9; exact h9) (fun hc => by simp only [brc] at h9; rw [if_neg hc] at h9; exact h9)
    | ge => exact lv_if_ge F.1 F.2.1 hd (tg_of h2) (fun hc => by simp only [brc] at h9; rw [if_neg (Int32.not_lt.mpr hc)] at h9; exact h9) (fun hc => by simp only [brc] at h9; rw [if_pos (Int32.not_le.mp hc)] at h9; exact h9)
    | gt => exact lv_if_gt F.1 F.2.1 hd (tg_of h2) (fun hc => by simp only [brc] at h9; rw [if_pos hc] at h9; exact h9) (fun hc => by simp only [brc] at h9; rw [if_neg hc] at h9; exact h9)
    | le => exact lv_if_le F.1 F.2.1 hd (tg_of h2) (fun hc => by simp only [brc] at h9; rw [if_neg (Int32.not_lt.mpr hc)] at h9; exact h9) (fun hc => by simp only [brc] at h9; rw [if_pos (Int32.not_le.mp hc)] at h9; exact h9)
  · cases hs

theorem swt_tb {y : Int32} {d : Nat} : ∀ (l2 : List Int) (lo : Int), -2147483648 ≤ lo → lo + (l2.length : Int) ≤ 2147483648 →
    (∀ o, l2[(y.toInt - lo).toNat]? = some o → lo ≤ y.toInt → swt y (tbS l2 lo pc) d = ((pc : Int) + o).toNat) ∧ (y.toInt < lo ∨ lo + (l2.length : Int) ≤ y.toInt → swt y (tbS l2 lo pc) d = d) := by
  intro l2
  induction l2 with
  | nil =>
    intro lo h1 h2
    exact ⟨fun o ho => by simp at ho, fun _ => rfl⟩
  | cons o1 l2 ih =>
    intro lo h1 h2
    simp only [List.length_cons, Int.natCast_add, Int.cast_ofNat_Int] at h2
    have hcast : (Int32.ofInt lo).toInt = lo := Int32.toInt_ofInt_of_le (by show _ ≤ _; omega) (by show _ < _; omega)
    obtain ⟨g1, g2⟩ := ih (lo + 1) (by omega) (by omega)
    refine ⟨fun o ho hle => ?_, fun hr => ?_⟩
    · by_cases he : y.toInt = lo
      · have : y = Int32.ofInt lo := by apply Int32.toInt_inj.mp; rw [hcast]; exact he
        show (if y = Int32.ofInt lo then ((pc : Int) + o1).toNat else _) = _
        rw [if_pos this]
        rw [he, Int.sub_self] at ho
        simp at ho
        rw [ho]
      · have : ¬ y = Int32.ofInt lo := fun q => he (by rw [q, hcast])
        show (if y = Int32.ofInt lo then ((pc : Int) + o1).toNat else _) = _
        rw [if_neg this]
        refine g1 o ?_ (by omega)
        have e : (y.toInt - lo).toNat = (y.toInt - (lo + 1)).toNat + 1 := by omega
        rw [e] at ho
        simpa using ho
    · have : ¬ y = Int32.ofInt lo := fun q => by
        have h5 : y.toInt = lo := by rw [q, hcast]
        simp only [List.length_cons, Int.natCast_add, Int.cast_ofNat_Int] at hr
        omega
      show (if y = Int32.ofInt lo then ((pc : Int) + o1).toNat else _) = _
      rw [if_neg this]
      refine g2 ?_
      simp only [List.length_cons, Int.natCast_add, Int.cast_ofNat_Int] at hr
      omega

theorem so_tableswitch {d lo hi : Int} {offs : Array Int} (F : fC p s m args meth c X k) (hd : decode (mCode k) pc = .ok (.tableswitch d lo hi offs, n)) (hn : okE k pc n (.tableswitch d lo hi offs) x ps = true) (hs : stp cf k pc (.tableswitch d lo hi offs, x, ps) L st h = some (.inl a)) (kk : gW p l e R s m args below meth c Q X k n0 sl0 a) : gW p l e R s m args below meth c Q X k n0 sl0 (pc, L, st, h) := by
  intro H locs ls hI hL
  simp only [okE, Bool.and_eq_true, decide_eq_true_eq] at hn
  obtain ⟨⟨⟨⟨⟨⟨h1, h2⟩, h3⟩, h4⟩, h5⟩, h6⟩, h7⟩ := hn
  simp only [stp] at hs
  split at hs
  · rename_i y r
    simp only [Option.some.injEq, Sum.inl.injEq] at hs
    subst hs
    subst h3
    have h9 := kk H locs ls hI hL
    obtain ⟨g1, g2⟩ := swt_tb (pc := pc) (y := y) (d := x.toNat) offs.toList lo h5 (by omega)
    by_cases q1 : y.toInt < lo
    · simp only at h9
      rw [g2 (Or.inl q1)] at h9
      exact lv_tableOut F.1 F.2.1 hd (Or.inl q1) (by rw [h2, tN h1]) h9
    · by_cases q2 : hi < y.toInt
      · simp only at h9
        rw [g2 (Or.inr (by omega))] at h9
        exact lv_tableOut F.1 F.2.1 hd (Or.inr q2) (by rw [h2, tN h1]) h9
      · have hlt : (y.toInt - lo).toNat < offs.toList.length := by omega
        have ho : offs.toList[(y.toInt - lo).toNat]? = some offs.toList[(y.toInt - lo).toNat] := List.getElem?_eq_getElem hlt
        have h7' := List.all_eq_true.mp h7 _ (List.mem_of_getElem? ho)
        simp only [decide_eq_true_eq] at h7'
        simp only at h9
        rw [g1 _ ho (by omega)] at h9
        exact lv_tableIn F.1 F.2.1 hd q1 q2 (by rw [← Array.getElem?_toList]; exact ho) (by rw [tN h7']) h9
  · cases hs

theorem swt_lk {y : Int32} {d : Nat} {dd : Int} (hdd : (pc : Int) + dd = (d : Int)) : ∀ (l2 : List (Int × Int)), (∀ q ∈ l2, 0 ≤ (pc : Int) + q.2 ∧ -2147483648 ≤ q.1 ∧ q.1 ≤ 2147483647) →
    (pc : Int) + Op.lookupswitch.offset l2 dd y.toInt = ((swt y (l2.map fun q => (q.1, ((pc : Int) + q.2).toNat)) d : Nat) : Int) := by
  intro l2
  induction l2 with
  | nil => intro _; exact hdd
  | cons q l2 ih =>
    intro hq
    obtain ⟨h1, h2, h3⟩ := hq q List.mem_cons_self
    have hcast : (Int32.ofInt q.1).toInt = q.1 := Int32.toInt_ofInt_of_le (by show _ ≤ _; omega) (by show _ < _; omega)
    have ih' := ih (fun z hz => hq z (List.mem_cons_of_mem _ hz))
    show _ = (((if y = Int32.ofInt q.1 then ((pc : Int) + q.2).toNat else swt y (l2.map fun q => (q.1, ((pc : Int) + q.2).toNat)) d) : Nat) : Int)
    by_cases he : y = Int32.ofInt q.1
    · rw [if_pos he]
      have e2 : (q.1 == y.toInt) = true := by rw [he, hcast]; simp
      have e3 : Op.lookupswitch.offset (q :: l2) dd y.toInt = q.2 := by
        have e4 : q.1 = y.toInt := by simpa using e2
        simp [Op.lookupswitch.offset, e4]
      rw [e3]; omega
    · rw [if_neg he]
      have e2 : (q.1 == y.toInt) = false := by
        simp only [beq_eq_false_iff_ne, ne_eq]
        intro z
        exact he (by apply Int32.toInt_inj.mp; rw [hcast]; exact z.symm)
      have e3 : Op.lookupswitch.offset (q :: l2) dd y.toInt = Op.lookupswitch.offset l2 dd y.toInt := by
        have e4 : ¬ q.1 = y.toInt := by simpa using e2
        simp [Op.lookupswitch.offset, e4]
      rw [e3]
      exact ih'

theorem so_lookupswitch {d : Int} {prs : Array (Int × Int)} (F : fC p s m args meth c X k) (hd : decode (mCode k) pc = .ok (.lookupswitch d prs, n)) (hn : okE k pc n (.lookupswitch d prs) x ps = true) (hs : stp cf k pc (.lookupswitch d prs, x, ps) L st h = some (.inl a)) (kk : gW p l e R s m args below meth c Q X k n0 sl0 a) : gW p l e R s m args below meth c Q X k n0 sl0 (pc, L, st, h) := by
  intro H locs ls hI hL
  simp only [okE, Bool.and_eq_true, decide_eq_true_eq] at hn
  obtain ⟨⟨⟨⟨h1, h2⟩, h3⟩, h4⟩, h5⟩ := hn
  simp only [stp] at hs
  split at hs
  · rename_i y r
    simp only [Option.some.injEq, Sum.inl.injEq] at hs
    subst hs
    subst h3
    have h9 := kk H locs ls hI hL
    refine lv_lookup F.1 F.2.1 hd h5 rfl (swt_lk (by rw [h2, tN h1]) prs.toList (fun q hq => ?_)) h9
    have h6 := List.all_eq_true.mp h4 q hq
    simp only [Bool.and_eq_true, decide_eq_true_eq] at h6
    exact ⟨h6.1.1, h6.1.2, h6.2⟩
  · cases hs

end STP
end
section
/-! instructions that read and write cells, make them, and call -/
section STQ
variable {p : Program} {l : Launch} {e : Env} {R : Room} {s : State} {m : MethodId} {args : Array Value} {below : List Frame} {meth : Method} {c : Code} {Q : State → Prop} {X : pX} {k n0 sl0 : Nat}
variable {pc n : Nat} {x : Int} {ps : List (Int × Nat)} {L st : List Value} {h h' : pH} {a : pF} {cf : Nat → List Value → pH → Option (Option Value × pH)} {H H1 : Heap} {locs locs1 : List Loc} {ls : Array Slot}
theorem aE_congr {i : Nat} (e1 : h'.2.1 i = h.2.1 i) (e2 : h'.2.2.1 i = h.2.2.1 i) (e3 : h'.2.2.2 i = h.2.2.2 i) : aE X h' i = aE X h i := by
  simp only [aE, fv, e1, e2, e3]
theorem up_s {α : Type} {f : Nat → α} {k : Nat} {v : α} : va_up f k v k = v := if_pos rfl
theorem up_n {α : Type} {f : Nat → α} {k j : Nat} {v : α} (h : j ≠ k) : va_up f k v j = f j := if_neg h
theorem aI.upd (hI : aI X s n0 sl0 h H locs) (e1 : h'.1 = h.1) (e2 : h'.2.1 = h.2.1) (he : eX h h') (hP : va_P (aG X) vwCl (aW X h') H1) (hS : va_S (aA X) s.heap H1 locs1) : aI X s n0 sl0 h' H1 locs1 := by
  obtain ⟨⟨u1, u2, u3, u4⟩, -, -, h4, h5, h6, h7, h8⟩ := hI
  refine ⟨⟨by rw [e1]; exact u1, by rw [e1, e2]; exact u2, by rw [e2]; exact u3, by rw [e2]; exact u4⟩, hP, hS, aX.eX he h4, h5, by rw [e1]; exact h6, by rw [e1]; exact h7, h8⟩
theorem ob_at {b ci : Nat} (hI : aI X s n0 sl0 h H locs) (ha : nX ≤ b) (hsh : h.2.1 b = .inl ci) : ci < 11 ∧ b < h.1.1 ∧ (aW X h)[b - nX]? = some (aD X b, .inr (ci, (List.range (cNf ci)).map fun k => aV X (fv h b ci k))) := by
  have hlt : b < h.1.1 := hI.1.lt hsh (fun q => by cases q)
  refine ⟨hI.1.2.2.1 b ha ci hsh, hlt, ?_⟩
  rw [aW_at ha hlt]
  simp only [aE, hsh]
theorem ar_at {b nn : Nat} (hI : aI X s n0 sl0 h H locs) (ha : nX ≤ b) (hsh : h.2.1 b = .inr (0, nn)) : (aW X h)[b - nX]? = some (aD X b, .inl (X.2.2.1 0, nn, .inl (h.2.2.2 b))) := by
  have hlt : b < h.1.1 := hI.1.lt hsh (fun q => by cases q)
  rw [aW_at ha hlt]
  simp only [aE, hsh, if_true]
theorem rr_at {b t nn : Nat} (hI : aI X s n0 sl0 h H locs) (ha : nX ≤ b) (hsh : h.2.1 b = .inr (t, nn)) (ht : t ≠ 0) (ht9 : t ≠ 9) : (aW X h)[b - nX]? = some (aD X b, .inl (X.2.2.1 t, nn, .inr (.inr (.inr (.inr fun j => (h.2.2.1 b j).map (aD X)))))) := by
  have hlt : b < h.1.1 := hI.1.lt hsh (fun q => by cases q; exact ht9 rfl)
  rw [aW_at ha hlt]
  simp only [aE, hsh, if_neg ht]
theorem aV_rf {o : Option Nat} : aV X (va_rf o) = va_rf (o.map (aD X)) := by cases o <;> rfl
theorem ftk_0 {t : FieldType} (h : ftk t = 0) : t = .int := by cases t <;> first | rfl | (simp [ftk] at h)
theorem ftk_1 {t : FieldType} (h : ftk t = 1) : t = .boolean := by cases t <;> first | rfl | (simp [ftk] at h)
theorem ftk_2 {t : FieldType} (h : ftk t = 2) : ∀ b, narrow t (.ref b) = .ref b ∧ fits t (.ref b) = true := by cases t <;> first | (intro b; exact ⟨rfl, rfl⟩) | (simp [ftk] at h)
theorem ftk_d {t : FieldType} (h : ftk t ≤ 2) : defaultValue t = if ftk t = 2 then .null else .int 0 := by cases t <;> first | rfl | (simp [ftk] at h)
theorem kd_le : ∀ c, c < 11 → ∀ k, k < cNf c → (cKd c).getD k 0 ≤ 2 := by decide +kernel
theorem so_getfield {j : Nat} (F : fC p s m args meth c X k) (hd : decode (mCode k) pc = .ok (.getfield j, n)) (hn : okE k pc n (.getfield j) x ps = true) (hs : stp cf k pc (.getfield j, x, ps) L st h = some (.inl a)) (kk : gW p l e R s m args below meth c Q X k n0 sl0 a) : gW p l e R s m args below meth c Q X k n0 sl0 (pc, L, st, h) := by
  intro H locs ls hI hL
  simp only [okE, Bool.and_eq_true, decide_eq_true_eq] at hn
  obtain ⟨⟨h1, h2⟩, h3⟩ := hn
  have h1 := okN3 h1
  subst h1
  have hw := F.2.2.2.2.1 _ (FL_in _ h3)
  simp only [stp] at hs
  split at hs
  · rename_i b r
    obtain ⟨b, rfl⟩ : ∃ z : Nat, z = b := ⟨b, rfl⟩
    split at hs
    · rename_i hc
      obtain ⟨hsh, hlt⟩ := hc
      simp only [Option.some.injEq, Sum.inl.injEq] at hs
      subst hs
      have h9 := kk H locs ls hI hL
      by_cases hb : nX ≤ b
      · obtain ⟨hci, hbl, he⟩ := ob_at hI hb hsh
        exact va_get (C := cNm (x.toNat / 32)) (T := cTt (x.toNat / 32)) (N := cNf (x.toNat / 32)) F.1 F.2.1 F.2.2.2.2.1 (us_ok hci) F.2.2.2.1 F.2.2.2.2.2.1 hI.2.1 (b - nX) he (cl_at hci) (x.toNat % 32) hlt hw (fun _ q => q) (by simp [hlt]) hd h9
      · by_cases hb3 : b < 3
        · obtain ⟨e1, e2, e3, e4, e5, e6⟩ := hI.2.2.2.1.1 b hb3
          have hci : x.toNat / 32 = 11 := by rw [e1] at hsh; exact (Sum.inl.inj hsh).symm
          have hD : aD X b = X.2.2.2.1 b := if_pos (by omega)
          simp only [wFL] at hw
          rw [hci] at hw h9 hlt
          have hz : x.toNat % 32 = 0 ∨ x.toNat % 32 = 1 := by
            have : cNf 11 = 2 := rfl
            omega
          rcases hz with hz | hz
          · rw [hz] at hw h9
            have e9 : fv h b 11 0 = .ref (3 + b) := by
              show va_rf (h.2.2.1 b 0) = _
              rw [e3]; rfl
            have hD2 : aD X (3 + b) = X.2.2.2.1 (3 + b) := if_pos (by show 3 + b < 10; have hz : nX = 10 := rfl; omega)
            simp only [List.map_cons, e9, aV, hD, hD2] at h9 ⊢
            exact vk_getf F.1 F.2.1 e6 hI.2.2.1 F.2.2.2.1 hw (fun _ q => q) hd h9
          · rw [hz] at hw h9
            have e9 : fv h b 11 1 = .int 0 := by
              show Value.int (h.2.2.2 b 1) = _
              rw [e2]
            simp only [List.map_cons, e9, aV, hD] at h9 ⊢
            exact vk_getf F.1 F.2.1 e5 hI.2.2.1 F.2.2.2.1 hw (fun _ q => q) hd h9
        · obtain ⟨t, nn, e1, -⟩ := hI.2.2.2.1.2.1 b (by have hz : nX = 10 := rfl; omega) (by have hz : nX = 10 := rfl; omega)
          rw [e1] at hsh
          cases hsh
    · cases hs
  · cases hs
theorem so_putfield {j : Nat} (F : fC p s m args meth c X k) (hd : decode (mCode k) pc = .ok (.putfield j, n)) (hn : okE k pc n (.putfield j) x ps = true) (hs : stp cf k pc (.putfield j, x, ps) L st h = some (.inl a)) (kk : gW p l e R s m args below meth c Q X k n0 sl0 a) : gW p l e R s m args below meth c Q X k n0 sl0 (pc, L, st, h) := by
  intro H locs ls hI hL
  simp only [okE, Bool.and_eq_true, decide_eq_true_eq] at hn
  obtain ⟨⟨⟨⟨h1, h2⟩, h3⟩, h4⟩, h5⟩ := hn
  have h1 := okN3 h1
  subst h1
  have hw := F.2.2.2.2.1 _ (FL_in _ h3)
  generalize hci : x.toNat / 32 = ci at h4
  generalize hsl : x.toNat % 32 = sl at h5
  have key : ∀ (v : Value) (h' : pH) (b : Nat) (r : List Value), h.2.1 b = .inl ci → sl < cNf ci → nX ≤ b → h'.1 = h.1 → h'.2.1 = h.2.1 → (∀ i, i ≠ b → h'.2.2.1 i = h.2.2.1 i ∧ h'.2.2.2 i = h.2.2.2 i) →
      fv h' b ci sl = v → (∀ q, q ≠ sl → fv h' b ci q = fv h b ci q) → narrow (cTy ci sl) (aV X v) = aV X v → fits (cTy ci sl) (aV X v) = true →
      gW p l e R s m args below meth c Q X k n0 sl0 (pc + 3, L, r, h') → W p l e R s m args below meth c H locs (h.1.1 - n0) (h.1.2 - sl0) Q (F0 m pc ls (aV X v :: .ref (aD X b) :: r.map (aV X))) := by
    intro v h' b r hsh hlt hb e1 e2 ho hv hf hnar hfit kk
    obtain ⟨-, hbl, he⟩ := ob_at hI hb hsh
    have hset : (aW X h).set (b - nX) (aD X b, .inr (ci, ((List.range (cNf ci)).map fun k => aV X (fv h b ci k)).set sl (aV X v))) = aW X h' := by
      rw [← aW_set (h := h) (h' := h') (id := b) (by rw [e1]) hb (fun i hi => aE_congr (by rw [e2]) (ho i hi).1 (ho i hi).2)]
      congr 2
      simp only [aE, e2, hsh]
      congr 1
      rw [Prod.mk.injEq]
      refine ⟨rfl, ?_⟩
      rw [← hv]
      exact (rm_set (f := fun k => aV X (fv h b ci k)) (g := fun k => aV X (fv h' b ci k)) hlt (fun q hq => by rw [hf q hq])).symm
    have hX : eX h h' := fun i hi => ⟨by rw [e2], (ho i (by omega)).1, (ho i (by omega)).2⟩
    subst hci; subst hsl
    by_cases hfin : (cTt (x.toNat / 32) (x.toNat % 32)).2.2.2 = true
    · rw [if_pos hfin] at h5
      simp only [Bool.and_eq_true, decide_eq_true_eq] at h5
      refine va_putF (C := cNm (x.toNat / 32)) (T := cTt (x.toNat / 32)) (N := cNf (x.toNat / 32)) F.1 F.2.1 F.2.2.2.2.1 (us_ok h4) (cTy (x.toNat / 32)) (ty_ok h4) (nm_ok h4) F.2.2.2.1 F.2.2.2.2.2.1 hI.2.1 aW_D hI.2.2.1 (b - nX) he (cl_at h4) (x.toNat % 32) hlt hw (fun _ q => q) hfin (F.2.2.2.2.2.2.1.trans h5.1) h5.2 (ty_ok h4 _ hlt) hnar hfit (by simp [hlt]) hd (fun H1 locs1 hP1 hD1 hS1 => ?_)
      have h9 := kk H1 locs1 ls (hI.upd e1 e2 hX (by rw [← hset]; exact hP1) hS1) hL
      simp only [e1] at h9
      exact h9
    · refine va_put (C := cNm (x.toNat / 32)) (T := cTt (x.toNat / 32)) (N := cNf (x.toNat / 32)) F.1 F.2.1 F.2.2.2.2.1 (us_ok h4) (cTy (x.toNat / 32)) (ty_ok h4) (nm_ok h4) F.2.2.2.1 F.2.2.2.2.2.1 hI.2.1 aW_D hI.2.2.1 (b - nX) he (cl_at h4) (x.toNat % 32) hlt hw (fun _ q => q) (by simpa using hfin) (ty_ok h4 _ hlt) hnar hfit (by simp [hlt]) hd (fun H1 locs1 hP1 hD1 hS1 => ?_)
      have h9 := kk H1 locs1 ls (hI.upd e1 e2 hX (by rw [← hset]; exact hP1) hS1) hL
      simp only [e1] at h9
      exact h9
  simp only [stp, hci, hsl] at hs
  split at hs
  · rename_i v b r
    split at hs
    · rename_i hc
      obtain ⟨hsh, hlt, hb, hkd⟩ := hc
      simp only [Option.some.injEq, Sum.inl.injEq] at hs
      subst hs
      have hk9 := kd_ty h4 sl hlt
      have hk2 : ¬ (cKd ci).getD sl 0 = 2 := by rcases hkd with q | ⟨q, -⟩ <;> rw [q] <;> decide
      refine key (.int v) (h.1, h.2.1, h.2.2.1, uI h.2.2.2 b sl v) b r hsh hlt hb rfl rfl (fun i hi => ⟨rfl, up_n hi⟩) ?_ (fun q hq => ?_) ?_ ?_ kk
      · simp only [fv, if_neg hk2, uI, up_s]
        rw [pk_us]
      · simp only [fv, uI, up_s]
        rw [pk_un hq]
      · rcases hkd with q | ⟨q, q2⟩
        · rw [ftk_0 (hk9.trans q)]; rfl
        · rw [ftk_1 (hk9.trans q)]
          rcases q2 with rfl | rfl
          · show narrow .boolean (.int 0) = .int 0
            decide
          · show narrow .boolean (.int 1) = .int 1
            decide
      · rcases hkd with q | ⟨q, q2⟩
        · rw [ftk_0 (hk9.trans q)]; rfl
        · rw [ftk_1 (hk9.trans q)]
          rcases q2 with rfl | rfl
          · show fits .boolean (.int 0) = true
            decide
          · show fits .boolean (.int 1) = true
            decide
    · cases hs
  · rename_i v b r
    split at hs
    · rename_i hc
      obtain ⟨hsh, hlt, hb, hkd⟩ := hc
      simp only [Option.some.injEq, Sum.inl.injEq] at hs
      subst hs
      have hk9 := (kd_ty h4 sl hlt).trans hkd
      refine key (.ref v) (h.1, h.2.1, uR h.2.2.1 b sl (some v), h.2.2.2) b r hsh hlt hb rfl rfl (fun i hi => ⟨up_n hi, rfl⟩) ?_ (fun q hq => ?_) (ftk_2 hk9 _).1 (ftk_2 hk9 _).2 kk
      · simp only [fv, if_pos hkd, uR, up_s]
        rfl
      · simp only [fv, uR, up_s, up_n hq]
    · cases hs
  · cases hs
theorem so_getstatic {j : Nat} (F : fC p s m args meth c X k) (hd : decode (mCode k) pc = .ok (.getstatic j, n)) (hn : okE k pc n (.getstatic j) x ps = true) (hs : stp cf k pc (.getstatic j, x, ps) L st h = some (.inl a)) (kk : gW p l e R s m args below meth c Q X k n0 sl0 a) : gW p l e R s m args below meth c Q X k n0 sl0 (pc, L, st, h) := by
  intro H locs ls hI hL
  simp only [okE, Bool.and_eq_true, decide_eq_true_eq] at hn
  obtain ⟨⟨h1, h2⟩, h3⟩ := hn
  have h1 := okN3 h1
  subst h1
  have hw := F.2.2.2.2.1 _ (ST_in _ h3)
  simp only [stp, Option.some.injEq, Sum.inl.injEq] at hs
  subst hs
  have h9 := kk H locs ls hI hL
  by_cases hx3 : x.toNat < 3
  · simp only [if_pos hx3, List.map_cons, aV] at h9
    have hD : aD X (6 + x.toNat) = X.2.2.2.1 (6 + x.toNat) := if_pos (by show 6 + x.toNat < 10; omega)
    rw [hD] at h9
    exact va_gets F.1 F.2.1 (hI.2.2.2.1.2.2.1 x.toNat hx3) hI.2.2.1 F.2.2.2.1 hw (fun _ q => q) hd h9
  · simp only [if_neg hx3, List.map_cons, aV] at h9
    have hall : ∀ q ∈ STk, q.2.2 ≤ 3 := by decide +kernel
    have hx4 : x.toNat = 3 := by have := hall _ h3; simp only at this; omega
    simp only [wST] at hw
    rw [hx4] at hw
    exact va_gets F.1 F.2.1 hI.2.2.2.1.2.2.2.1 hI.2.2.1 F.2.2.2.1 hw (fun _ q => q) hd h9
theorem vp_of {j : Int32} {nn : Nat} (h1 : ¬ j < 0) (h2 : j.toNatClampNeg < nn) : vp_in j nn := fun q => q.elim h1 (fun q => absurd h2 (Nat.not_lt.mpr q))
theorem so_arraylength (F : fC p s m args meth c X k) (hd : decode (mCode k) pc = .ok (.arraylength, n)) (hn : okE k pc n .arraylength x ps = true) (hs : stp cf k pc (.arraylength, x, ps) L st h = some (.inl a)) (kk : gW p l e R s m args below meth c Q X k n0 sl0 a) : gW p l e R s m args below meth c Q X k n0 sl0 (pc, L, st, h) := by
  intro H locs ls hI hL
  have h1 := okN1 hn
  subst h1
  simp only [stp] at hs
  split at hs
  · rename_i b r
    obtain ⟨b, rfl⟩ : ∃ z : Nat, z = b := ⟨b, rfl⟩
    split at hs
    · rename_i t nn hsh
      split at hs
      · rename_i ht
        simp only [Option.some.injEq, Sum.inl.injEq] at hs
        subst hs
        have h9 := kk H locs ls hI hL
        by_cases hb : nX ≤ b
        · have ht1 := hI.1.2.2.2 b hb t nn hsh
          by_cases ht0 : t = 0
          · subst ht0
            exact va_alen F.1 F.2.1 F.2.2.2.2.2.1 hI.2.1 (b - nX) 0 (ar_at hI hb hsh) rfl rfl hd h9
          · rcases (by omega : t = 2 ∨ t = 3) with rfl | rfl
            · exact va_alen F.1 F.2.1 F.2.2.2.2.2.1 hI.2.1 (b - nX) 1 (rr_at hI hb hsh ht0 (by decide)) rfl rfl hd h9
            · exact va_alen F.1 F.2.1 F.2.2.2.2.2.1 hI.2.1 (b - nX) 2 (rr_at hI hb hsh ht0 (by decide)) rfl rfl hd h9
        · have hD : aD X b = X.2.2.2.1 b := if_pos (by omega)
          by_cases hb3 : b < 3
          · have e1 := (hI.2.2.2.1.1 b hb3).1
            rw [e1] at hsh
            cases hsh
          · obtain ⟨t', n', e1, e2⟩ := hI.2.2.2.1.2.1 b (by have hz : nX = 10 := rfl; omega) (by have hz : nX = 10 := rfl; omega)
            rw [hsh] at e1
            cases e1
            simp only [List.map_cons, aV, hD] at h9 ⊢
            rcases e2 with ⟨-, e2⟩ | ⟨-, e2⟩
            · exact va_tlen F.1 F.2.1 e2 hI.2.2.1 rfl hd h9
            · exact va_tlen F.1 F.2.1 e2 hI.2.2.1 rfl hd h9
      · cases hs
    · cases hs
  · cases hs
theorem so_iaload (F : fC p s m args meth c X k) (hd : decode (mCode k) pc = .ok (.iaload, n)) (hn : okE k pc n .iaload x ps = true) (hs : stp cf k pc (.iaload, x, ps) L st h = some (.inl a)) (kk : gW p l e R s m args below meth c Q X k n0 sl0 a) : gW p l e R s m args below meth c Q X k n0 sl0 (pc, L, st, h) := by
  intro H locs ls hI hL
  have h1 := okN1 hn
  subst h1
  simp only [stp] at hs
  split at hs
  · rename_i j b r
    obtain ⟨b, rfl⟩ : ∃ z : Nat, z = b := ⟨b, rfl⟩
    split at hs
    · rename_i nn hsh
      split at hs
      · rename_i hc
        simp only [Option.some.injEq, Sum.inl.injEq] at hs
        subst hs
        have h9 := kk H locs ls hI hL
        by_cases hb : nX ≤ b
        · exact va_iald F.1 F.2.1 F.2.2.2.2.2.1 hI.2.1 (b - nX) 0 (ar_at hI hb hsh) rfl (vp_of hc.1 hc.2) hd h9
        · have hD : aD X b = X.2.2.2.1 b := if_pos (by omega)
          by_cases hb3 : b < 3
          · have e1 := (hI.2.2.2.1.1 b hb3).1
            rw [e1] at hsh
            cases hsh
          · obtain ⟨t', n', e1, e2⟩ := hI.2.2.2.1.2.1 b (by have hz : nX = 10 := rfl; omega) (by have hz : nX = 10 := rfl; omega)
            rw [hsh] at e1
            cases e1
            simp only [List.map_cons, aV, hD] at h9 ⊢
            rcases e2 with ⟨e0, e2⟩ | ⟨-, e2⟩
            · cases e0
            · exact va_ti F.1 F.2.1 e2 hI.2.2.1 (vp_of hc.1 hc.2) rfl hd h9
      · cases hs
    · cases hs
  · cases hs
theorem so_baload (F : fC p s m args meth c X k) (hd : decode (mCode k) pc = .ok (.baload, n)) (hn : okE k pc n .baload x ps = true) (hs : stp cf k pc (.baload, x, ps) L st h = some (.inl a)) (kk : gW p l e R s m args below meth c Q X k n0 sl0 a) : gW p l e R s m args below meth c Q X k n0 sl0 (pc, L, st, h) := by
  intro H locs ls hI hL
  have h1 := okN1 hn
  subst h1
  simp only [stp] at hs
  split at hs
  · rename_i j b r
    obtain ⟨b, rfl⟩ : ∃ z : Nat, z = b := ⟨b, rfl⟩
    split at hs
    · rename_i nn hsh
      split at hs
      · rename_i hc
        simp only [Option.some.injEq, Sum.inl.injEq] at hs
        subst hs
        have h9 := kk H locs ls hI hL
        by_cases hb : nX ≤ b
        · exact absurd rfl (hI.1.2.2.2 b hb 1 nn hsh)
        · have hD : aD X b = X.2.2.2.1 b := if_pos (by omega)
          by_cases hb3 : b < 3
          · have e1 := (hI.2.2.2.1.1 b hb3).1
            rw [e1] at hsh
            cases hsh
          · obtain ⟨t', n', e1, e2⟩ := hI.2.2.2.1.2.1 b (by have hz : nX = 10 := rfl; omega) (by have hz : nX = 10 := rfl; omega)
            rw [hsh] at e1
            cases e1
            simp only [List.map_cons, aV, hD] at h9 ⊢
            rcases e2 with ⟨-, e2⟩ | ⟨e0, e2⟩
            · exact va_tb F.1 F.2.1 e2 hI.2.2.1 (vp_of hc.1 hc.2) rfl hd h9
            · cases e0
      · cases hs
    · cases hs
  · cases hs
theorem so_aaload (F : fC p s m args meth c X k) (hd : decode (mCode k) pc = .ok (.aaload, n)) (hn : okE k pc n .aaload x ps = true) (hs : stp cf k pc (.aaload, x, ps) L st h = some (.inl a)) (kk : gW p l e R s m args below meth c Q X k n0 sl0 a) : gW p l e R s m args below meth c Q X k n0 sl0 (pc, L, st, h) := by
  intro H locs ls hI hL
  have h1 := okN1 hn
  subst h1
  simp only [stp] at hs
  split at hs
  · rename_i j b r
    split at hs
    · rename_i t nn hsh
      split at hs
      · rename_i hc
        obtain ⟨ht, hb, hj1, hj2⟩ := hc
        simp only [Option.some.injEq, Sum.inl.injEq] at hs
        subst hs
        have h9 := kk H locs ls hI hL
        simp only [List.map_cons, aV_rf] at h9
        rcases ht with rfl | rfl
        · exact va_aldq F.1 F.2.1 F.2.2.2.2.2.1 hI.2.1 (b - nX) 1 (rr_at hI hb hsh (by decide) (by decide)) rfl (vp_of hj1 hj2) hd h9
        · exact va_aldq F.1 F.2.1 F.2.2.2.2.2.1 hI.2.1 (b - nX) 2 (rr_at hI hb hsh (by decide) (by decide)) rfl (vp_of hj1 hj2) hd h9
      · cases hs
    · cases hs
  · cases hs
theorem so_iastore (F : fC p s m args meth c X k) (hd : decode (mCode k) pc = .ok (.iastore, n)) (hn : okE k pc n .iastore x ps = true) (hs : stp cf k pc (.iastore, x, ps) L st h = some (.inl a)) (kk : gW p l e R s m args below meth c Q X k n0 sl0 a) : gW p l e R s m args below meth c Q X k n0 sl0 (pc, L, st, h) := by
  intro H locs ls hI hL
  have h1 := okN1 hn
  subst h1
  simp only [stp] at hs
  split at hs
  · rename_i v j b r
    split at hs
    · rename_i nn hsh
      split at hs
      · rename_i hc
        obtain ⟨hb, hj1, hj2⟩ := hc
        simp only [Option.some.injEq, Sum.inl.injEq] at hs
        subst hs
        refine va_iast F.1 F.2.1 F.2.2.2.2.2.1 hI.2.1 aW_D hI.2.2.1 (b - nX) 0 (ar_at hI hb hsh) rfl (vp_of hj1 hj2) hd (fun H1 locs1 hP1 hD1 hS1 => ?_)
        have hset : (aW X h).set (b - nX) (aD X b, .inl (X.2.2.1 0, nn, .inl (upd (h.2.2.2 b) j.toNatClampNeg v))) = aW X (h.1, h.2.1, h.2.2.1, uI h.2.2.2 b j.toNatClampNeg v) := by
          rw [← aW_set (h := h) (h' := (h.1, h.2.1, h.2.2.1, uI h.2.2.2 b j.toNatClampNeg v)) (id := b) rfl hb (fun i hi => aE_congr rfl rfl (up_n hi))]
          congr 2
          simp only [aE, hsh, uI, up_s, if_true]
        rw [hset] at hP1
        exact kk H1 locs1 ls (hI.upd rfl rfl (fun i hi => ⟨rfl, rfl, up_n (by omega)⟩) hP1 hS1) hL
      · cases hs
    · cases hs
  · cases hs
theorem so_aastore (F : fC p s m args meth c X k) (hd : decode (mCode k) pc = .ok (.aastore, n)) (hn : okE k pc n .aastore x ps = true) (hs : stp cf k pc (.aastore, x, ps) L st h = some (.inl a)) (kk : gW p l e R s m args below meth c Q X k n0 sl0 a) : gW p l e R s m args below meth c Q X k n0 sl0 (pc, L, st, h) := by
  intro H locs ls hI hL
  have h1 := okN1 hn
  subst h1
  simp only [stp] at hs
  split at hs
  · rename_i v j b r
    split at hs
    · rename_i t nn hsh
      split at hs
      · rename_i hc
        obtain ⟨ht, hb, hv, hj1, hj2⟩ := hc
        simp only [Option.some.injEq, Sum.inl.injEq] at hs
        subst hs
        have ht0 : t ≠ 0 := by rcases ht with ⟨q, -⟩ | ⟨q, -⟩ <;> omega
        have hset : ∀ f : Nat → Option Nat, (f = va_up (fun i => (h.2.2.1 b i).map (aD X)) j.toNatClampNeg (some (aD X v))) → (aW X h).set (b - nX) (aD X b, .inl (X.2.2.1 t, nn, .inr (.inr (.inr (.inr f))))) = aW X (h.1, h.2.1, uR h.2.2.1 b j.toNatClampNeg (some v), h.2.2.2) := by
          intro f hf
          rw [← aW_set (h := h) (h' := (h.1, h.2.1, uR h.2.2.1 b j.toNatClampNeg (some v), h.2.2.2)) (id := b) rfl hb (fun i hi => aE_congr rfl (up_n hi) rfl)]
          congr 2
          simp only [aE, hsh, uR, up_s, if_neg ht0]
          rw [hf]
          congr 7
          funext i
          by_cases hi : i = j.toNatClampNeg
          · subst hi
            simp only [up_s]
            rfl
          · simp only [up_n hi]
        rcases ht with ⟨rfl, hvs⟩ | ⟨rfl, hvs⟩
        · obtain ⟨g1, g2, g3⟩ := ob_at hI hv hvs
          refine va_astq (r := (cNm 5, cTt 5, cNf 5)) F.1 F.2.1 F.2.2.2.2.2.1 hI.2.1 aW_D hI.2.2.1 (b - nX) 1 (v - nX) 5 (rr_at hI hb hsh ht0 (by decide)) rfl g3 (cl_at (by decide)) (vp_of hj1 hj2) hd (fun H1 locs1 hP1 hD1 hS1 => ?_)
          rw [hset _ rfl] at hP1
          exact kk H1 locs1 ls (hI.upd rfl rfl (fun i hi => ⟨rfl, up_n (by omega), rfl⟩) hP1 hS1) hL
        · obtain ⟨g1, g2, g3⟩ := ob_at hI hv hvs
          refine va_astq (r := (cNm 6, cTt 6, cNf 6)) F.1 F.2.1 F.2.2.2.2.2.1 hI.2.1 aW_D hI.2.2.1 (b - nX) 2 (v - nX) 6 (rr_at hI hb hsh ht0 (by decide)) rfl g3 (cl_at (by decide)) (vp_of hj1 hj2) hd (fun H1 locs1 hP1 hD1 hS1 => ?_)
          rw [hset _ rfl] at hP1
          exact kk H1 locs1 ls (hI.upd rfl rfl (fun i hi => ⟨rfl, up_n (by omega), rfl⟩) hP1 hS1) hL
      · cases hs
    · cases hs
  · cases hs
end STQ
end
section
/-! cells that are made, calls, and whole methods -/
theorem aSz {p : Program} {l : Launch} {e : Env} {R : Room} {s : State} {m : MethodId} {args : Array Value} {below : List Frame} {meth : Method} {c : Code} {X : pX} {n0 sl0 : Nat} {h : pH} {H : Heap} {locs : List Loc} {T : State} {sl : Nat} (hI : aI X s n0 sl0 h H locs) (hT : T.heap = H) (Xs : Stand p l e R s m args below meth c T locs (h.1.1 - n0) sl) : H.size = X.2.2.2.2 + (h.1.1 - nX) := by
  have h1 : (T.setVm s.vm).heap.size ≤ s.heap.size + (h.1.1 - n0) := Xs.same.2.2.1
  have h2 : H.size ≤ s.heap.size + (h.1.1 - n0) := by rw [← hT]; exact h1
  obtain ⟨u, hP, hS, -, g1, g2, -, g3⟩ := hI
  have h3 : s.heap.size ≤ H.size := hS.1
  by_cases hz : h.1.1 = nX
  · omega
  · have h4 := (hP _ _ (aW_at (X := X) (h := h) (id := h.1.1 - 1) (by omega) (by omega))).lt
    simp only at h4
    rw [aD_ge (by omega)] at h4
    omega
section CAL
variable {p : Program} {l : Launch} {e : Env} {R : Room} {s : State} {m : MethodId} {args : Array Value} {below : List Frame} {meth : Method} {c : Code} {Q : State → Prop} {X : pX} {k n0 sl0 : Nat}
variable {pc n : Nat} {x : Int} {ps : List (Int × Nat)} {L st : List Value} {h h' : pH} {a : pF} {cf : Nat → List Value → pH → Option (Option Value × pH)} {H H1 : Heap} {locs locs1 : List Loc} {ls : Array Slot}
theorem pU.al {sh : pSh} {sl : Nat} (hu : pU h) (h1 : ∀ ci, sh = .inl ci → ci < 11) (h2 : ∀ t nn, sh = .inr (t, nn) → t ≠ 1) : pU (pAl h sh sl) := by
  obtain ⟨u1, u2, u3, u4⟩ := hu
  refine ⟨Nat.le_succ_of_le u1, fun i hi => ?_, fun i hi ci hs => ?_, fun i hi t nn hs => ?_⟩
  · have hi : h.1.1 + 1 ≤ i := hi
    show va_up h.2.1 h.1.1 sh i = _
    rw [up_n (by omega)]
    exact u2 i (by omega)
  · have hs : va_up h.2.1 h.1.1 sh i = .inl ci := hs
    by_cases e1 : i = h.1.1
    · subst e1; rw [up_s] at hs; exact h1 ci hs
    · rw [up_n e1] at hs; exact u3 i hi ci hs
  · have hs : va_up h.2.1 h.1.1 sh i = .inr (t, nn) := hs
    by_cases e1 : i = h.1.1
    · subst e1; rw [up_s] at hs; exact h2 t nn hs
    · rw [up_n e1] at hs; exact u4 i hi t nn hs
theorem eX.al {sh : pSh} {sl : Nat} (hu : pU h) : eX h (pAl h sh sl) := fun i hi => ⟨up_n (by have := hu.1; omega), up_n (by have := hu.1; omega), up_n (by have := hu.1; omega)⟩
/-- behind a making: the new cell stands where the abstract one does -/
theorem mk_go {sh : pSh} {sl q : Nat} {E : va_E} {r : List Value} {ofs : Nat} (hI : aI X s n0 sl0 h H locs) (hL : lR X k (mMax k) ls L) (hE : aE X (pAl h sh sl) h.1.1 = E) (h1 : ∀ ci, sh = .inl ci → ci < 11) (h2 : ∀ t nn, sh = .inr (t, nn) → t ≠ 1)
    (hP1 : va_P (aG X) vwCl (aW X h ++ [(q, E)]) H1) (hD1 : va_D (aA X) (aW X h ++ [(q, E)])) (hS1 : va_S (aA X) s.heap H1 locs1)
    (kk : gW p l e R s m args below meth c Q X k n0 sl0 (pc + ofs, L, .ref h.1.1 :: r, pAl h sh sl)) : W p l e R s m args below meth c H1 locs1 (h.1.1 - n0 + 1) (h.1.2 - sl0 + sl) Q (F0 m (pc + ofs) ls (.ref q :: r.map (aV X))) := by
  intro T hT Xs
  have g1 : (T.setVm s.vm).heap.size ≤ s.heap.size + (h.1.1 - n0 + 1) := Xs.same.2.2.1
  have g2 : H1.size ≤ s.heap.size + (h.1.1 - n0 + 1) := by rw [← hT]; exact g1
  obtain ⟨u, hP, hS, hX, i1, i2, i3, i4⟩ := id hI
  have hlen : (aW X h).length = h.1.1 - nX := by simp [aW]
  have hat : (aW X h ++ [(q, E)])[h.1.1 - nX]? = some (q, E) := by
    rw [List.getElem?_append_right (by omega), hlen, Nat.sub_self]; rfl
  have hq1 : q < H1.size := (hP1 _ _ hat).lt
  have hq2 : X.2.2.2.2 ≤ q := hD1.2 _ _ hat
  have hq : q = aD X h.1.1 := by
    rw [aD_ge u.1]
    by_cases hz : q = X.2.2.2.2 + (h.1.1 - nX)
    · exact hz
    · exfalso
      have hlt : q - X.2.2.2.2 < h.1.1 - nX := by omega
      have hj := aW_at (X := X) (h := h) (id := nX + (q - X.2.2.2.2)) (by omega) (by omega)
      rw [show nX + (q - X.2.2.2.2) - nX = q - X.2.2.2.2 by omega] at hj
      have hj2 : (aW X h ++ [(q, E)])[q - X.2.2.2.2]? = some (aD X (nX + (q - X.2.2.2.2)), aE X h (nX + (q - X.2.2.2.2))) := by
        rw [List.getElem?_append_left (by omega)]; exact hj
      have := hD1.1 _ _ _ _ hj2 hat (by
        simp only
        rw [aD_ge (by omega)]
        omega)
      omega
  subst hq
  subst hE
  have hw : aW X h ++ [(aD X h.1.1, aE X (pAl h sh sl) h.1.1)] = aW X (pAl h sh sl) := aW_push (sh := sh) u.1 rfl (fun i hi => aE_congr (up_n (by omega)) (up_n (by omega)) (up_n (by omega)))
  rw [hw] at hP1
  have hI' : aI X s n0 sl0 (pAl h sh sl) H1 locs1 := ⟨u.al h1 h2, hP1, hS1, aX.eX (eX.al u) hX, i1, Nat.le_succ_of_le i2, Nat.le_trans i3 (Nat.le_add_right _ _), i4⟩
  have h9 := kk H1 locs1 ls hI' hL
  have e1 : (pAl h sh sl).1.1 - n0 = h.1.1 - n0 + 1 := by show h.1.1 + 1 - n0 = _; omega
  have e2 : (pAl h sh sl).1.2 - sl0 = h.1.2 - sl0 + sl := by show h.1.2 + sl - sl0 = _; omega
  simp only [e1, e2] at h9
  exact h9 T hT Xs
theorem so_new {j : Nat} (F : fC p s m args meth c X k) (hd : decode (mCode k) pc = .ok (.new j, n)) (hn : okE k pc n (.new j) x ps = true) (hs : stp cf k pc (.new j, x, ps) L st h = some (.inl a)) (hr : a.2.2.2.1.1 - n0 ≤ R.cells ∧ a.2.2.2.1.2 - sl0 ≤ R.slots) (kk : gW p l e R s m args below meth c Q X k n0 sl0 a) : gW p l e R s m args below meth c Q X k n0 sl0 (pc, L, st, h) := by
  intro H locs ls hI hL
  simp only [okE, Bool.and_eq_true, decide_eq_true_eq] at hn
  obtain ⟨⟨⟨h1, h2⟩, h3⟩, h4⟩ := hn
  have h1 := okN3 h1
  subst h1
  simp only [stp, Option.some.injEq, Sum.inl.injEq] at hs
  subst hs
  have hw := F.2.2.2.2.1 _ (CS_in _ h3)
  have q1 : h.1.1 + 1 - n0 ≤ R.cells := hr.1
  have q2 : h.1.2 + cNf x.toNat - sl0 ≤ R.slots := hr.2
  have i2 : n0 ≤ h.1.1 := hI.2.2.2.2.2.1
  have i3 : sl0 ≤ h.1.2 := hI.2.2.2.2.2.2.1
  have hq1 : h.1.1 - n0 + 1 ≤ R.cells := by omega
  have hq2 : h.1.2 - sl0 + cNf x.toNat ≤ R.slots := by omega
  refine va_new (C := cNm x.toNat) (T := cTt x.toNat) (N := cNf x.toNat) (ci := x.toNat) (fs := (List.range (cNf x.toNat)).map fun k => aV X (fv (pAl h (.inl x.toNat) (cNf x.toNat)) h.1.1 x.toNat k)) F.1 F.2.1 F.2.2.2.2.1 (us_ok h4) (cTy x.toNat) (ty_ok h4) F.2.2.2.1 hw (F.2.2.2.2.1 _ (ins_in _ h4)) (F.2.2.2.2.1 _ (ini_in _ (by omega))) F.2.2.2.2.2.1 hI.2.1 aW_D hI.2.2.1 (fun q hq => ?_) (cl_at h4) (fun j hj => ?_) hq1 hq2 hd (fun q H1 hP1 hD1 hS1 => ?_)
  · show X.2.2.2.2 ≤ q
    have := hI.2.2.2.2.2.2.2
    omega
  · have hk := kd_ty h4 j hj
    have hk2 := kd_le _ h4 j hj
    rw [ftk_d (by rw [hk]; exact hk2), hk]
    simp only [vp_V, List.getD_eq_getElem?_getD, List.getElem?_map, List.getElem?_range hj, Option.map_some, Option.getD_some, fv, pAl, up_s]
    split <;> rfl
  · exact mk_go hI hL (by simp only [aE, pAl, up_s]) (fun ci q => by cases q; exact h4) (fun t nn q => by cases q) hP1 hD1 hS1 kk
theorem so_newarray {t : ArrayType} (F : fC p s m args meth c X k) (hd : decode (mCode k) pc = .ok (.newarray t, n)) (hn : okE k pc n (.newarray t) x ps = true) (hs : stp cf k pc (.newarray t, x, ps) L st h = some (.inl a)) (hr : a.2.2.2.1.1 - n0 ≤ R.cells ∧ a.2.2.2.1.2 - sl0 ≤ R.slots) (kk : gW p l e R s m args below meth c Q X k n0 sl0 a) : gW p l e R s m args below meth c Q X k n0 sl0 (pc, L, st, h) := by
  intro H locs ls hI hL
  simp only [okE, Bool.and_eq_true, decide_eq_true_eq] at hn
  obtain ⟨h1, h2⟩ := hn
  have h1 := okN2 h1
  subst h1; subst h2
  simp only [stp] at hs
  split at hs
  · rename_i y r
    split at hs
    · rename_i hc
      simp only [Option.some.injEq, Sum.inl.injEq] at hs
      subst hs
      have q1 : h.1.1 + 1 - n0 ≤ R.cells := hr.1
      have q2 : h.1.2 + y.toNatClampNeg - sl0 ≤ R.slots := hr.2
      have i2 : n0 ≤ h.1.1 := hI.2.2.2.2.2.1
      have i3 : sl0 ≤ h.1.2 := hI.2.2.2.2.2.2.1
      have hq1 : h.1.1 - n0 + 1 ≤ R.cells := by omega
      have hq2 : h.1.2 - sl0 + y.toNatClampNeg ≤ R.slots := by omega
      refine va_newa (atype := .int) (ty := .int) (a0 := (y.toNatClampNeg, .inl (fun _ => 0))) F.1 F.2.1 (F.2.2.2.2.1 _ w_arrI) rfl F.2.2.2.2.2.1 hI.2.1 aW_D hI.2.2.1 (fun q hq => ?_) (fun cA => rfl) hc.1 rfl (by show _ * 4 ≤ _; omega) hq1 hq2 hd (fun q cA H1 hK1 hP1 hD1 hS1 => ?_)
      · show X.2.2.2.2 ≤ q
        have := hI.2.2.2.2.2.2.2
        omega
      · have e1 : s.vm.findClass ("[" ++ FieldType.int.toString) = some cA := (hK1.2 3 _ rfl).2
        have e2 : s.vm.findClass ("[" ++ FieldType.int.toString) = some (X.2.2.1 0) := (F.2.2.2.2.2.1.2 0 _ rfl).2
        have e3 : cA = X.2.2.1 0 := Option.some.inj (e1.symm.trans e2)
        subst e3
        exact mk_go hI hL (by simp only [aE, pAl, up_s, if_true]) (fun ci q => by cases q) (fun t nn q => by cases q; decide) hP1 hD1 hS1 kk
    · cases hs
  · cases hs
theorem so_anewarray {j : Nat} (F : fC p s m args meth c X k) (hd : decode (mCode k) pc = .ok (.anewarray j, n)) (hn : okE k pc n (.anewarray j) x ps = true) (hs : stp cf k pc (.anewarray j, x, ps) L st h = some (.inl a)) (hr : a.2.2.2.1.1 - n0 ≤ R.cells ∧ a.2.2.2.1.2 - sl0 ≤ R.slots) (kk : gW p l e R s m args below meth c Q X k n0 sl0 a) : gW p l e R s m args below meth c Q X k n0 sl0 (pc, L, st, h) := by
  intro H locs ls hI hL
  simp only [okE, Bool.and_eq_true, Bool.or_eq_true, decide_eq_true_eq] at hn
  obtain ⟨h1, h2⟩ := hn
  have h1 := okN3 h1
  subst h1
  simp only [stp] at hs
  split at hs
  · rename_i y r
    split at hs
    · rename_i hc
      simp only [Option.some.injEq, Sum.inl.injEq] at hs
      subst hs
      have q1 : h.1.1 + 1 - n0 ≤ R.cells := hr.1
      have q2 : h.1.2 + y.toNatClampNeg - sl0 ≤ R.slots := hr.2
      have i2 : n0 ≤ h.1.1 := hI.2.2.2.2.2.1
      have i3 : sl0 ≤ h.1.2 := hI.2.2.2.2.2.2.1
      have hq1 : h.1.1 - n0 + 1 ≤ R.cells := by omega
      have hq2 : h.1.2 - sl0 + y.toNatClampNeg ≤ R.slots := by omega
      have hA : ∀ q, s.heap.size ≤ q → aA X q := fun q hq => by
        show X.2.2.2.2 ≤ q
        have := hI.2.2.2.2.2.2.2
        omega
      rcases h2 with ⟨rfl, h2⟩ | ⟨rfl, h2⟩
      · have hw := F.2.2.2.2.1 _ (CS_in _ h2)
        refine va_newq (C := RX5) (N' := y.toNatClampNeg) F.1 F.2.1 F.2.2.2.1 hw hI.2.2.2.1.2.2.2.2.2.2.1 F.2.2.2.2.2.1 hI.2.1 aW_D hI.2.2.1 hA hc.1 rfl (by omega) hq1 hq2 hd (fun q cA H1 hK1 hP1 hD1 hS1 => ?_)
        obtain ⟨_, _, _, _, _, e1⟩ := (hK1.2 3 _ rfl).2
        obtain ⟨_, _, _, _, _, e2⟩ := (F.2.2.2.2.2.1.2 1 _ rfl).2
        have e3 : cA = X.2.2.1 2 := Option.some.inj (e1.symm.trans e2)
        subst e3
        exact mk_go hI hL (by simp only [aE, pAl, up_s]; rfl) (fun ci q => by cases q) (fun t nn q => by cases q; decide) hP1 hD1 hS1 kk
      · have hw := F.2.2.2.2.1 _ (CS_in _ h2)
        refine va_newq (C := RX6) (N' := y.toNatClampNeg) F.1 F.2.1 F.2.2.2.1 hw hI.2.2.2.1.2.2.2.2.2.2.2 F.2.2.2.2.2.1 hI.2.1 aW_D hI.2.2.1 hA hc.1 rfl (by omega) hq1 hq2 hd (fun q cA H1 hK1 hP1 hD1 hS1 => ?_)
        obtain ⟨_, _, _, _, _, e1⟩ := (hK1.2 3 _ rfl).2
        obtain ⟨_, _, _, _, _, e2⟩ := (F.2.2.2.2.2.1.2 2 _ rfl).2
        have e3 : cA = X.2.2.1 3 := Option.some.inj (e1.symm.trans e2)
        subst e3
        exact mk_go hI hL (by simp only [aE, pAl, up_s]; rfl) (fun ci q => by cases q) (fun t nn q => by cases q; decide) hP1 hD1 hS1 kk
    · cases hs
  · cases hs
/-! calls -/
def rmD (d cs ss : Nat) : Room := { frames := d, cells := cs, slots := ss, locals := 41 * d }
def Rp (X : pX) (h : pH) (U : State) : Prop := U.heap.size = X.2.2.2.2 + (h.1.1 - nX) ∧ va_P (aG X) vwCl (aW X h) U.heap ∧ va_K (aG X) vwCl (aT X) U ∧ aX X h U U.heap
def QM (X : pX) (h' : pH) (v : Option Value) : Array Value → State → Outcome → State → Prop := fun _ st oc t => oc = .returned (v.map (aV X)) ∧ va_P (aG X) vwCl (aW X h') t.heap ∧ va_F (aA X) st t
/-- what a call of the abstract machine says of the machine -/
def sndM (l : Launch) (d mm : Nat) (as : List Value) (h : pH) (v : Option Value) (h' : pH) : Prop := ∀ X : pX, pU h → mm < 256 ∧ pU h' ∧ eX h h' ∧ h.1.1 ≤ h'.1.1 ∧ h.1.2 ≤ h'.1.2 ∧ okA (mSig mm) as = true ∧
  Met l (mYn mm) (wMc mm :: gT) (rmD d (h'.1.1 - h.1.1) (h'.1.2 - h.1.2)) (va_Pc (as.map (aV X)) (Rp X h)) (QM X h' v) (h'.1.1 - h.1.1) (h'.1.2 - h.1.2) (aA X)
theorem call_go {v : Option Value} {rest : List Value} {st0 : List Value} {aa : Array Value} (hI : aI X s n0 sl0 h H locs) (hL : lR X k (mMax k) ls L)
    (hr : H.size = X.2.2.2.2 + (h.1.1 - nX) → va_Run p l e R s m args below meth c H locs (h.1.1 - n0) (h.1.2 - sl0) (h'.1.1 - h.1.1) (h'.1.2 - h.1.2) (F0 m pc ls st0) (rest.map (aV X)) (QM X h' v aa) (aA X))
    (hu : pU h') (hx : eX h h') (hl1 : h.1.1 ≤ h'.1.1) (hl2 : h.1.2 ≤ h'.1.2) (kk : gW p l e R s m args below meth c Q X k n0 sl0 (pc + 3, L, v.toList ++ rest, h')) :
    W p l e R s m args below meth c H locs (h.1.1 - n0) (h.1.2 - sl0) Q (F0 m pc ls st0) := by
  intro T hT Xs
  obtain ⟨u, hP, hS, hX, i1, i2, i3, i4⟩ := id hI
  obtain ⟨v1, sta, t, T', L1, g0, X', hL1, e1, e2, ⟨hv, hP', hF⟩, st⟩ := hr (aSz hI hT Xs) T hT Xs
  have hv1 : v1 = v.map (aV X) := Outcome.returned.inj hv
  subst hv1
  have hI' : aI X s n0 sl0 h' T'.heap (locs ++ L1) := by
    refine ⟨hu, by rw [e1]; exact hP', ⟨?_, fun q h1 h2 => ?_, fun q hq => ?_⟩, aX.eX hx hX, i1, Nat.le_trans i2 hl1, Nat.le_trans i3 hl2, i4⟩
    · rw [e1]
      exact Nat.le_trans hS.1 (by have := hF.1; rw [g0] at this; exact this)
    · rw [e1, hF.2 q (by rw [g0]; exact Nat.lt_of_lt_of_le h1 hS.1) h2, g0]
      exact hS.2.1 q h1 h2
    · rcases List.mem_append.mp hq with z | z
      · exact hS.2.2 q z
      · exact hL1 q z
  have h9 := kk T'.heap (locs ++ L1) ls hI' hL
  have c1 : h.1.1 - n0 + (h'.1.1 - h.1.1) = h'.1.1 - n0 := by omega
  have c2 : h.1.2 - sl0 + (h'.1.2 - h.1.2) = h'.1.2 - sl0 := by omega
  rw [c1, c2] at X'
  obtain ⟨t2, a1, b1⟩ := h9 T' rfl X'
  refine ⟨t2, st t2 ?_, b1⟩
  have e9 : (v.toList ++ rest).map (aV X) = (v.map (aV X)).toList ++ rest.map (aV X) := by cases v <;> rfl
  rw [e9] at a1
  exact a1
theorem gin {mm : Nat} (hm : mm < 256) : GoodIn gT (wMc mm :: gT) := by
  have hw := chW_all hm
  unfold chW at hw
  simp only [Bool.and_eq_true] at hw
  intro w hw2
  have h1 : w ∈ gT := by
    rcases List.mem_cons.mp hw2 with rfl | h
    · exact gT_i (by simp only [Bool.and_eq_true]; exact hw.1.1.1.1.1.1.1.1)
    · exact h
  exact ⟨h1, good_of_word (gT_good w h1)⟩
theorem chW_w {mm : Nat} (hm : mm < 256) : wMi mm ∈ gT ∧ ((mYn mm).cls ≠ "java/lang/invoke/MethodHandle" ∧ (mYn mm).cls ≠ "java/lang/invoke/VarHandle") ∧ (parseMethodDescriptor (mYn mm).desc).map (fun d => d.parameters.length) = some (if mSt mm then (mSig mm).length else (mSig mm).length - 1) ∧ plainName (mYn mm).cls = true ∧ mMax mm ≤ 20 ∧ mOwn mm < 15 ∧ (mSt mm = true ∨ 1 ≤ (mSig mm).length) ∧ (mSt mm = true ∨ (mYn mm).name = "<init>" ∨ Cond.selects (cNm (mOwn mm)) (mYn mm) (mYn mm) ∈ gT) := by
  have hw := chW_all hm
  unfold chW at hw
  simp only [Bool.and_eq_true, Bool.or_eq_true, decide_eq_true_eq] at hw
  obtain ⟨⟨⟨⟨⟨⟨⟨⟨-, h2⟩, h3⟩, h4⟩, h5⟩, h6⟩, h7⟩, h8⟩, h9⟩ := hw
  refine ⟨gT_i (by simp only [Bool.and_eq_true, decide_eq_true_eq]; exact h2), h4, h5, h6, h7, h8, h9, ?_⟩
  rcases h3 with (h3 | h3) | h3
  · exact Or.inl h3
  · exact Or.inr (Or.inl h3)
  · exact Or.inr (Or.inr (gT_i (by simp only [Bool.and_eq_true, decide_eq_true_eq]; exact h3)))
theorem st_split {st : List Value} {nn : Nat} : st.map (aV X) = (((st.take nn).reverse.map (aV X))).reverse ++ (st.drop nn).map (aV X) := by
  rw [List.map_reverse, List.reverse_reverse, ← List.map_append, List.take_append_drop]
theorem cat_le {r : List Value} (h : r.length ≤ 4) : 2 * (F0 m pc ls st).monitorRoom + ((r.map (aV X)).map fun v => v.category).sum ≤ 8 := by
  have h1 : (F0 m pc ls st).monitorRoom = 0 := rfl
  rw [h1]
  have h2 : ∀ r : List Value, ((r.map (aV X)).map fun v => v.category).sum ≤ 2 * r.length := by
    intro r
    induction r with
    | nil => simp
    | cons v r ih =>
      have : (aV X v).category ≤ 2 := by rcases lv_cat (aV X v) with q | q <;> omega
      simp only [List.map_cons, List.sum_cons, List.length_cons]
      omega
  have := h2 r
  omega
theorem Rp_of {U : State} {aa : List Value} (hI : aI X s n0 sl0 h H locs) (hK : va_K (aG X) vwCl (aT X) s) (hz : H.size = X.2.2.2.2 + (h.1.1 - nX)) (hU : U.heap = H) (hW : s.WarmedH U.vm) : va_Pc aa (Rp X h) aa.toArray U :=
  ⟨rfl, by rw [hU]; exact hz, by rw [hU]; exact hI.2.1, hK.moved hW.alike, by
    rw [hU]
    exact aX.kept (fun q h1 h2 => hI.2.2.1.2.1 q h1 h2) (aX.moved hW hI.2.2.2.1)⟩
theorem Rp_bl {aa : List Value} : FrameBlind (va_Pc aa (Rp X h)) := fun _ U g mk q => ⟨q.1, q.2.1, q.2.2.1, q.2.2.2.1.moved (Vm.Alike.refl U.vm), aX.same (u := U) (U := U.calling g mk _) rfl q.2.2.2.2⟩
end CAL
end
section
/-! the three calls, the JDK's own few, and the whole step -/
section INV
variable {p : Program} {l : Launch} {e : Env} {R : Room} {s : State} {m : MethodId} {args : Array Value} {below : List Frame} {meth : Method} {c : Code} {Q : State → Prop} {X : pX} {k n0 sl0 : Nat}
variable {pc n d : Nat} {x : Int} {ps : List (Int × Nat)} {L st : List Value} {h h' : pH} {a : pF} {cf : Nat → List Value → pH → Option (Option Value × pH)} {H H1 : Heap} {locs locs1 : List Loc} {ls : Array Slot}
theorem okA_len : ∀ {ss : List Nat} {as : List Value}, okA ss as = true → as.length = ss.length := by
  intro ss
  induction ss with
  | nil => intro as h; cases as with
    | nil => rfl
    | cons a l => simp [okA] at h
  | cons t ss ih =>
    intro as h
    cases as with
    | nil => unfold okA at h; split at h <;> simp_all
    | cons a l =>
      unfold okA at h
      split at h <;> simp_all
theorem doC_some {mm : Nat} (hs : doC cf mm pc L st h = some (.inl a)) : (mSig mm).length ≤ st.length ∧ (st.drop (mSig mm).length).length ≤ 4 ∧ ∃ v h', cf mm (st.take (mSig mm).length).reverse h = some (v, h') ∧ a = (pc + 3, L, v.toList ++ st.drop (mSig mm).length, h') := by
  unfold doC at hs
  split at hs
  · cases hs
  · rename_i hlen
    split at hs
    · rename_i v h' hc
      simp only [Option.some.injEq, Sum.inl.injEq] at hs
      refine ⟨by omega, by rw [List.length_drop]; omega, v, h', hc, hs.symm⟩
    · cases hs
theorem room_of {d mx : Nat} (hR : d + 1 ≤ R.frames ∧ 41 * (d + 1) ≤ R.locals) (hm : mx ≤ 20) {cs ss : Nat} : (rmD d cs ss).frames + 1 ≤ R.frames ∧ 8 + (mx + 11) + (rmD d cs ss).locals ≤ R.locals := by
  refine ⟨hR.1, ?_⟩
  show 8 + (mx + 11) + 41 * d ≤ R.locals
  have := hR.2
  omega
theorem so_invokevirtual {j : Nat} (F : fC p s m args meth c X k) (hd : decode (mCode k) pc = .ok (.invokevirtual j, n)) (hn : okE k pc n (.invokevirtual j) x ps = true) (hcf : ∀ mm as hh v hh', cf mm as hh = some (v, hh') → sndM l d mm as hh v hh') (hR : d + 1 ≤ R.frames ∧ 41 * (d + 1) ≤ R.locals)
    (hs : stp cf k pc (.invokevirtual j, x, ps) L st h = some (.inl a)) (hr : a.2.2.2.1.1 - n0 ≤ R.cells ∧ a.2.2.2.1.2 - sl0 ≤ R.slots) (kk : gW p l e R s m args below meth c Q X k n0 sl0 a) : gW p l e R s m args below meth c Q X k n0 sl0 (pc, L, st, h) := by
  intro H locs ls hI hL
  simp only [okE, Bool.and_eq_true, Bool.or_eq_true, decide_eq_true_eq, Bool.not_eq_true'] at hn
  obtain ⟨h1, h2⟩ := hn
  have h1 := okN3 h1
  subst h1
  simp only [stp] at hs
  split at hs
  · rename_i hc
    obtain ⟨hx0, hio⟩ := hc
    obtain ⟨⟨⟨⟨h3, h4⟩, h5⟩, h6⟩, h7⟩ := h2.resolve_left (by omega)
    generalize hmm : x.toNat = mm at *
    obtain ⟨g1, g2, v, h', g3, rfl⟩ := doC_some hs
    obtain ⟨hm, hu, hex, hl1, hl2, hok, hM⟩ := hcf _ _ _ _ _ g3 X hI.1
    obtain ⟨w1, w2, w3, w4, w5, w6, w7, w8⟩ := chW_w hm
    have hf1 : h.1.1 - n0 + (h'.1.1 - h.1.1) ≤ R.cells := by
      have q1 : h'.1.1 - n0 ≤ R.cells := hr.1
      have i2 : n0 ≤ h.1.1 := hI.2.2.2.2.2.1
      omega
    have hf2 : h.1.2 - sl0 + (h'.1.2 - h.1.2) ≤ R.slots := by
      have q1 : h'.1.2 - sl0 ≤ R.slots := hr.2
      have i3 : sl0 ≤ h.1.2 := hI.2.2.2.2.2.2.1
      omega
    have hlen := okA_len hok
    generalize has : (st.take (mSig mm).length).reverse = as at *
    unfold isO at hio
    split at hio
    · rename_i b as'
      simp only [decide_eq_true_eq] at hio
      have w8 := (w8.resolve_left (by rw [h5]; decide)).resolve_left h6
      rw [h5] at w3
      have wi : (Cond.instanceMethod (mYn mm)).before args s = true := by
        have := F.2.2.2.2.1 _ w1
        unfold wMi at this
        rw [h5] at this
        exact this
      have hrecv : ∃ cellB : Cell, H[aD X b]? = some cellB ∧ cellB.vm.isStatics = false ∧ s.vm.findClass (cNm (mOwn mm)) = some cellB.cls := by
        by_cases hb : nX ≤ b
        · obtain ⟨hci, hbl, he⟩ := ob_at hI hb hio
          exact va_recv F.2.2.2.2.2.1 hI.2.1 (cl_at hci) he
        · obtain ⟨b, rfl⟩ : ∃ z : Nat, z = b := ⟨b, rfl⟩
          by_cases hb3 : b < 3
          · obtain ⟨e1, -, -, e4, -⟩ := hI.2.2.2.1.1 b hb3
            have hci : mOwn mm = 11 := by rw [e1] at hio; exact (Sum.inl.inj hio).symm
            have hD : aD X b = X.2.2.2.1 b := if_pos (by omega)
            obtain ⟨cell, q1, q2, q3, -⟩ := va_O.kept e4 hI.2.2.1.2.1
            rw [hD, hci]
            exact ⟨cell, q1, q2, q3⟩
          · obtain ⟨t, nn, e1, -⟩ := hI.2.2.2.1.2.1 b (by omega) (by omega)
            rw [e1] at hio
            cases hio
      refine call_go hI hL (rest := st.drop (mSig mm).length) (aa := (Value.ref (aD X b) :: as'.map (aV X)).toArray) (fun hz => ?_) hu hex hl1 hl2 kk
      refine va_runV (C := cNm (mOwn mm)) (b := aD X b) (As := as'.map (aV X)) (n := (mSig mm).length - 1) (own := cNm (mOwn k)) ⟨F.1, F.2.1, F.2.2.1, F.2.2.2.1, F.2.2.2.2.1⟩ hM ⟨callB_of _ F.2.2.2.2.1 (gin hm) rfl rfl rfl (F.2.2.2.2.1 _ (ini_in _ w6)) (F.2.2.2.2.1 _ (ML_in _ h4)) ⟨w2.1, w2.2, by simpa using w3⟩ (room_of hR w5), wi, F.2.2.2.2.1 _ w8⟩ ⟨Rp_bl, hrecv, fun U hU hW => Rp_of hI F.2.2.2.2.2.1 hz hU hW⟩ rfl ?_ (by rw [hL.1]) ?_ (cat_le g2) hd ⟨?_, ?_⟩
      · rw [List.length_map]
        simp only [List.length_cons] at hlen
        omega
      · show st.map (aV X) = _
        rw [st_split (st := st) (nn := (mSig mm).length), has]
        simp [aV]
      · exact hf1
      · exact hf2
    · cases hio
  · cases hs
theorem so_invokespecial {j : Nat} (F : fC p s m args meth c X k) (hd : decode (mCode k) pc = .ok (.invokespecial j, n)) (hn : okE k pc n (.invokespecial j) x ps = true) (hcf : ∀ mm as hh v hh', cf mm as hh = some (v, hh') → sndM l d mm as hh v hh') (hR : d + 1 ≤ R.frames ∧ 41 * (d + 1) ≤ R.locals)
    (hs : stp cf k pc (.invokespecial j, x, ps) L st h = some (.inl a)) (hr : a.2.2.2.1.1 - n0 ≤ R.cells ∧ a.2.2.2.1.2 - sl0 ≤ R.slots) (kk : gW p l e R s m args below meth c Q X k n0 sl0 a) : gW p l e R s m args below meth c Q X k n0 sl0 (pc, L, st, h) := by
  intro H locs ls hI hL
  simp only [okE, Bool.and_eq_true, Bool.or_eq_true, decide_eq_true_eq, Bool.not_eq_true'] at hn
  obtain ⟨h1, h2⟩ := hn
  have h1 := okN3 h1
  subst h1
  simp only [stp] at hs
  split at hs
  · rename_i hx0
    obtain ⟨⟨⟨⟨h3, h4⟩, h5⟩, h6⟩, h7⟩ := h2.resolve_left (fun q => by omega)
    generalize hmm : x.toNat = mm at *
    obtain ⟨g1, g2, v, h', g3, rfl⟩ := doC_some hs
    obtain ⟨hm, hu, hex, hl1, hl2, hok, hM⟩ := hcf _ _ _ _ _ g3 X hI.1
    obtain ⟨w1, w2, w3, w4, w5, w6, w7, w8⟩ := chW_w hm
    have hf1 : h.1.1 - n0 + (h'.1.1 - h.1.1) ≤ R.cells := by
      have q1 : h'.1.1 - n0 ≤ R.cells := hr.1
      have i2 : n0 ≤ h.1.1 := hI.2.2.2.2.2.1
      omega
    have hf2 : h.1.2 - sl0 + (h'.1.2 - h.1.2) ≤ R.slots := by
      have q1 : h'.1.2 - sl0 ≤ R.slots := hr.2
      have i3 : sl0 ≤ h.1.2 := hI.2.2.2.2.2.2.1
      omega
    have hlen := okA_len hok
    generalize has : (st.take (mSig mm).length).reverse = as at *
    have w7 := w7.resolve_left (by rw [h5]; decide)
    rw [h5] at w3
    have wi : (Cond.instanceMethod (mYn mm)).before args s = true := by
      have := F.2.2.2.2.1 _ w1
      unfold wMi at this
      rw [h5] at this
      exact this
    have hsplit : ∃ (b : Nat) (as' : List Value), as.map (aV X) = .ref b :: as'.map (aV X) ∧ as'.length = as.length - 1 := by
      cases as with
      | nil => simp at hlen; omega
      | cons q as' =>
        have hsig : (mSig mm).head? = some 2 := by
          have hall : ∀ z, z < 256 → mSt z = true ∨ (mSig z).head? = some 2 := by decide +kernel
          exact (hall mm hm).resolve_left (by rw [h5]; decide)
        cases hsg : mSig mm with
        | nil => rw [hsg] at hsig; cases hsig
        | cons t ss =>
          rw [hsg] at hsig hok
          simp only [List.head?_cons, Option.some.injEq] at hsig
          subst hsig
          cases q with
          | ref b => exact ⟨aD X b, as', rfl, by simp⟩
          | _ => simp [okA] at hok
    obtain ⟨b, as', e1, e2⟩ := hsplit
    refine call_go hI hL (rest := st.drop (mSig mm).length) (aa := (Value.ref b :: as'.map (aV X)).toArray) (fun hz => ?_) hu hex hl1 hl2 kk
    rw [e1] at hM
    refine va_runI (b := b) (As := as'.map (aV X)) (n := (mSig mm).length - 1) (own := cNm (mOwn k)) ⟨F.1, F.2.1, F.2.2.1, F.2.2.2.1, F.2.2.2.2.1⟩ hM ⟨callB_of _ F.2.2.2.2.1 (gin hm) (by unfold wMc; rw [h7]) rfl rfl (F.2.2.2.2.1 _ (ini_in _ w6)) (F.2.2.2.2.1 _ (ML_in _ h4)) ⟨w2.1, w2.2, by simpa using w3⟩ (room_of hR w5), h6, wi⟩ ⟨Rp_bl, fun U hU hW => Rp_of hI F.2.2.2.2.2.1 hz hU hW⟩ rfl ?_ (by rw [hL.1]) ?_ (cat_le g2) hd ⟨?_, ?_⟩
    · rw [List.length_map, e2, hlen]
    · show st.map (aV X) = _
      rw [st_split (st := st) (nn := (mSig mm).length), has, e1]
      simp
    · exact hf1
    · exact hf2
  · split at hs
    · rename_i hx1
      have h3 : (mOwn k, j) ∈ OLk := (h2.resolve_right (fun q => by have := q.1.1.1.1; omega)).2
      split at hs
      · rename_i b r
        split at hs
        · rename_i hr4
          simp only [Option.some.injEq, Sum.inl.injEq] at hs
          subst hs
          have hc := cat_le (X := X) (pc := pc) (st := []) (ls := ls) (m := m) hr4
          have h8 : 12 ≤ 41 * (d + 1) := by omega
          refine W.objInit F.1 F.2.1 F.2.2.2.1 (F.2.2.2.2.1 _ (OL_in _ h3)) (F.2.2.2.2.1 _ w_oin) (F.2.2.2.2.1 _ w_oco) rfl (by rw [F.2.2.1]; exact hL.1) (a := aD X b) (rest := r.map (aV X)) rfl hd (by have := hR.1; omega) ?_ (kk H locs ls hI hL)
          have := hR.2
          have hc2 : 2 * 0 + ((r.map (aV X)).map fun v => v.category).sum ≤ 8 := hc
          show 2 * 0 + ((r.map (aV X)).map fun v => v.category).sum + 12 ≤ R.locals
          omega
        · cases hs
      · cases hs
    · cases hs
set_option maxHeartbeats 4000000 in
theorem so_invokestatic {j : Nat} (F : fC p s m args meth c X k) (hd : decode (mCode k) pc = .ok (.invokestatic j, n)) (hn : okE k pc n (.invokestatic j) x ps = true) (hcf : ∀ mm as hh v hh', cf mm as hh = some (v, hh') → sndM l d mm as hh v hh') (hR : d + 1 ≤ R.frames ∧ 41 * (d + 1) ≤ R.locals)
    (hs : stp cf k pc (.invokestatic j, x, ps) L st h = some (.inl a)) (hr : a.2.2.2.1.1 - n0 ≤ R.cells ∧ a.2.2.2.1.2 - sl0 ≤ R.slots) (kk : gW p l e R s m args below meth c Q X k n0 sl0 a) : gW p l e R s m args below meth c Q X k n0 sl0 (pc, L, st, h) := by
  intro H locs ls hI hL
  simp only [okE, Bool.and_eq_true, Bool.or_eq_true, decide_eq_true_eq, Bool.not_eq_true'] at hn
  obtain ⟨h1, h2⟩ := hn
  have h1 := okN3 h1
  subst h1
  simp only [stp] at hs
  split at hs
  · rename_i hx0
    obtain ⟨⟨h3, h4⟩, h5⟩ := h2.resolve_left (fun q => by rcases q with ((q | q) | q) | q <;> omega)
    generalize hmm : x.toNat = mm at *
    obtain ⟨g1, g2, v, h', g3, rfl⟩ := doC_some hs
    obtain ⟨hm, hu, hex, hl1, hl2, hok, hM⟩ := hcf _ _ _ _ _ g3 X hI.1
    obtain ⟨w1, w2, w3, w4, w5, w6, w7, w8⟩ := chW_w hm
    have hlen := okA_len hok
    generalize has : (st.take (mSig mm).length).reverse = as at *
    rw [h5] at w3
    have wi : (Cond.static (mYn mm)).before args s = true := by
      have := F.2.2.2.2.1 _ w1
      unfold wMi at this
      rw [h5] at this
      exact this
    have hstk : st.map (aV X) = (as.map (aV X)).reverse ++ (st.drop (mSig mm).length).map (aV X) := by
      rw [st_split (st := st) (nn := (mSig mm).length), has]
    have hf1 : h.1.1 - n0 + (h'.1.1 - h.1.1) ≤ R.cells := by
      have q1 : h'.1.1 - n0 ≤ R.cells := hr.1
      have i2 : n0 ≤ h.1.1 := hI.2.2.2.2.2.1
      omega
    have hf2 : h.1.2 - sl0 + (h'.1.2 - h.1.2) ≤ R.slots := by
      have q1 : h'.1.2 - sl0 ≤ R.slots := hr.2
      have i3 : sl0 ≤ h.1.2 := hI.2.2.2.2.2.2.1
      omega
    refine call_go hI hL (rest := st.drop (mSig mm).length) (aa := (as.map (aV X)).toArray) (fun hz => ?_) hu hex hl1 hl2 kk
    rcases h4 with h4 | h4
    · exact va_runS (As := as.map (aV X)) (n := (mSig mm).length) (own := cNm (mOwn k)) ⟨F.1, F.2.1, F.2.2.1, F.2.2.2.1, F.2.2.2.2.1⟩ hM ⟨callB_of _ F.2.2.2.2.1 (gin hm) rfl rfl rfl (F.2.2.2.2.1 _ (ini_in _ w6)) (F.2.2.2.2.1 _ (ML_in _ h4)) ⟨w2.1, w2.2, by simpa using w3⟩ (room_of hR w5), wi⟩ ⟨Rp_bl, fun U hU hW => Rp_of hI F.2.2.2.2.2.1 hz hU hW⟩ rfl (by rw [List.length_map, hlen]) (by rw [hL.1]) hstk (cat_le g2) hd ⟨hf1, hf2⟩
    · have hnl : va_Nw (.methodLinkNest (cNm (mOwn k)) j (mYn mm) "PlayedBack") s := by
        have := hI.2.2.2.1.2.2.2.2.2.1 _ h4
        unfold wNL at this
        exact this
      have hini := F.2.2.2.2.1 _ (ini_in _ w6)
      have hcn : va_CN R s args (cNm (mOwn k)) j (mYn mm) "PlayedBack" (mCode mm) (mMax mm) (mRet mm) (wMc mm :: gT) (rmD d (h'.1.1 - h.1.1) (h'.1.2 - h.1.2)) (h'.1.1 - h.1.1) (h'.1.2 - h.1.2) (mSig mm).length := va_cnB (ws' := gT) _ F.2.2.2.2.1 (gin hm) rfl rfl rfl hnl hini ⟨w2.1, w2.2, by simpa using w3⟩ (room_of hR w5)
      exact va_runSN (host := "PlayedBack") (As := as.map (aV X)) (n := (mSig mm).length) (own := cNm (mOwn k)) ⟨F.1, F.2.1, F.2.2.1, F.2.2.2.1, F.2.2.2.2.1⟩ hM ⟨hcn, wi, trivial⟩ ⟨Rp_bl, fun U hU hW => Rp_of hI F.2.2.2.2.2.1 hz hU hW⟩ rfl (by rw [List.length_map, hlen]) (by rw [hL.1]) hstk (cat_le g2) hd ⟨hf1, hf2⟩
  · have hRl := hR.2
    have hRf := hR.1
    have hcl : h.1.1 - n0 ≤ R.cells ∧ h.1.2 - sl0 ≤ R.slots ∨ True := Or.inr trivial
    split at hs
    · rename_i hx1
      have h3 : (mOwn k, j) ∈ ALk := by
        rcases h2 with (((q | q) | q) | q) | q
        · omega
        · exact q.2
        · have := q.1; omega
        · have := q.1; omega
        · have := q.1.1; omega
      split at hs
      · rename_i nn dp b sp b0 r
        split at hs
        · rename_i na nb hsa hsb
          split at hs
          · rename_i hc
            obtain ⟨c1, c2, c3, c4, c5, c6, c7, c8⟩ := hc
            simp only [Option.some.injEq, Sum.inl.injEq] at hs
            subst hs
            have hct := cat_le (X := X) (pc := pc) (st := []) (ls := ls) (m := m) c8
            have hct2 : 2 * 0 + ((r.map (aV X)).map fun v => v.category).sum ≤ 8 := hct
            refine va_copyi F.1 F.2.1 (by rw [F.2.2.1]; exact hL.1.symm) F.2.2.2.1 (F.2.2.2.2.1 _ (AL_in _ h3)) (F.2.2.2.2.1 _ w_nat) (F.2.2.2.2.1 _ w_acs) (F.2.2.2.2.1 _ w_sys) F.2.2.2.2.2.1 hI.2.1 aW_D hI.2.2.1 (b0 - nX) (b - nX) 0 0 (ar_at hI c1 hsa) (ar_at hI c2 hsb) rfl rfl rfl c3 c4 c5 c6 c7 (fun i hi => rfl) (by omega) ?_ hd (fun H1 locs1 hP1 hD1 hS1 => ?_)
            · have hnw : nativeFrameWords "java/lang/System" "arraycopy" 5 + 11 ≤ 33 := by decide +kernel
              omega
            · have hset : (aW X h).set (b - nX) (aD X b, .inl (X.2.2.1 0, nb, .inl (va_cpy (h.2.2.2 b0) (h.2.2.2 b) sp.toNatClampNeg dp.toNatClampNeg nn.toNatClampNeg))) = aW X (h.1, h.2.1, h.2.2.1, va_up h.2.2.2 b (va_cpy (h.2.2.2 b0) (h.2.2.2 b) sp.toNatClampNeg dp.toNatClampNeg nn.toNatClampNeg)) := by
                rw [← aW_set (h := h) (h' := (h.1, h.2.1, h.2.2.1, va_up h.2.2.2 b (va_cpy (h.2.2.2 b0) (h.2.2.2 b) sp.toNatClampNeg dp.toNatClampNeg nn.toNatClampNeg))) (id := b) rfl c2 (fun i hi => aE_congr rfl rfl (up_n hi))]
                congr 2
                simp only [aE, hsb, up_s, if_true]
              rw [hset] at hP1
              exact kk H1 locs1 ls (hI.upd rfl rfl (fun i hi => ⟨rfl, rfl, up_n (by omega)⟩) hP1 hS1) hL
          · cases hs
        · cases hs
      · cases hs
    · split at hs
      · rename_i hx2
        have h3 : (mOwn k, j) ∈ XLk := by
          rcases h2 with (((q | q) | q) | q) | q
          · omega
          · have := q.1; omega
          · exact q.2
          · have := q.1; omega
          · have := q.1.1; omega
        split at hs
        · rename_i y z r
          split at hs
          · rename_i hr4
            simp only [Option.some.injEq, Sum.inl.injEq] at hs
            subst hs
            have hct2 : 2 * 0 + ((r.map (aV X)).map fun v => v.category).sum ≤ 8 := cat_le (X := X) (pc := pc) (st := []) (ls := ls) (m := m) hr4
            exact va_mmax F.1 F.2.1 (by rw [F.2.2.1]; exact hL.1.symm) F.2.2.2.1 (F.2.2.2.2.1 _ (XL_in _ h3)) (F.2.2.2.2.1 _ w_maxs) (F.2.2.2.2.1 _ w_mth) (F.2.2.2.2.1 _ w_maxc) (by omega) (by omega) hr.1 hr.2 hd (kk H locs ls hI hL)
          · cases hs
        · cases hs
      · split at hs
        · rename_i hx2
          have h3 : (mOwn k, j) ∈ YLk := by
            rcases h2 with (((q | q) | q) | q) | q
            · omega
            · have := q.1; omega
            · have := q.1; omega
            · exact q.2
            · have := q.1.1; omega
          split at hs
          · rename_i y z r
            split at hs
            · rename_i hr4
              simp only [Option.some.injEq, Sum.inl.injEq] at hs
              subst hs
              have hct2 : 2 * 0 + ((r.map (aV X)).map fun v => v.category).sum ≤ 8 := cat_le (X := X) (pc := pc) (st := []) (ls := ls) (m := m) hr4
              exact va_mmin F.1 F.2.1 (by rw [F.2.2.1]; exact hL.1.symm) F.2.2.2.1 (F.2.2.2.2.1 _ (YL_in _ h3)) (F.2.2.2.2.1 _ w_mins) (F.2.2.2.2.1 _ w_mth) (F.2.2.2.2.1 _ w_minc) (by omega) (by omega) hr.1 hr.2 hd (kk H locs ls hI hL)
            · cases hs
          · cases hs
        · cases hs
end INV
end
section
/-! what a step of the abstract machine keeps -/
def pLe (h h' : pH) : Prop := pU h' ∧ eX h h' ∧ h.1.1 ≤ h'.1.1 ∧ h.1.2 ≤ h'.1.2
theorem pLe.rf {h : pH} (hu : pU h) : pLe h h := ⟨hu, eX.rf, Nat.le_refl _, Nat.le_refl _⟩
theorem pLe.tr {a b c : pH} (h1 : pLe a b) (h2 : pLe b c) : pLe a c := ⟨h2.1, h1.2.1.tr h2.2.1, Nat.le_trans h1.2.2.1 h2.2.2.1, Nat.le_trans h1.2.2.2 h2.2.2.2⟩
def rH (r : pR) : pH := match r with
  | .inl a => a.2.2.2
  | .inr q => q.2
theorem pLe.upd {h h' : pH} (hu : pU h) (e1 : h'.1 = h.1) (e2 : h'.2.1 = h.2.1) (he : eX h h') : pLe h h' := by
  obtain ⟨u1, u2, u3, u4⟩ := hu
  exact ⟨⟨by rw [e1]; exact u1, by rw [e1, e2]; exact u2, by rw [e2]; exact u3, by rw [e2]; exact u4⟩, he, by rw [e1]; exact Nat.le_refl _, by rw [e1]; exact Nat.le_refl _⟩
theorem doC_pure {cf : Nat → List Value → pH → Option (Option Value × pH)} (hcf : ∀ mm as hh v hh', cf mm as hh = some (v, hh') → pU hh → pLe hh hh') {mm pc : Nat} {L st : List Value} {h : pH} {r : pR} (hs : doC cf mm pc L st h = some r) (hu : pU h) : pLe h (rH r) := by
  unfold doC at hs
  split at hs
  · cases hs
  · split at hs
    · rename_i v h' hc
      cases hs
      exact hcf _ _ _ _ _ hc hu
    · cases hs
set_option maxHeartbeats 8000000 in
theorem stp_pure {cf : Nat → List Value → pH → Option (Option Value × pH)} (hcf : ∀ mm as hh v hh', cf mm as hh = some (v, hh') → pU hh → pLe hh hh') {k pc n : Nat} {i : Instr} {x : Int} {ps : List (Int × Nat)} {L st : List Value} {h : pH} {r : pR} (hn : okE k pc n i x ps = true) (hs : stp cf k pc (i, x, ps) L st h = some r) (hu : pU h) : pLe h (rH r) := by
  have hp := pLe.rf hu
  have hX : nX = 10 := rfl
  cases i
  case iconst c => simp only [stp] at hs; cases hs; exact hp
  case bipush c => simp only [stp] at hs; cases hs; exact hp
  case sipush c => simp only [stp] at hs; cases hs; exact hp
  case lconst c => simp only [stp] at hs; cases hs; exact hp
  case ldc c => simp only [stp] at hs; (repeat' split at hs) <;> first | (cases hs; exact hp) | cases hs
  case ldc_w c => simp only [stp] at hs; cases hs; exact hp
  case ldc2_w c => simp only [stp] at hs; cases hs; exact hp
  case iload c => simp only [stp] at hs; (repeat' split at hs) <;> first | (cases hs; exact hp) | cases hs
  case iload_n c => simp only [stp] at hs; (repeat' split at hs) <;> first | (cases hs; exact hp) | cases hs
  case aload c => simp only [stp] at hs; (repeat' split at hs) <;> first | (cases hs; exact hp) | cases hs
  case aload_n c => simp only [stp] at hs; (repeat' split at hs) <;> first | (cases hs; exact hp) | cases hs
  case lload c => simp only [stp] at hs; (repeat' split at hs) <;> first | (cases hs; exact hp) | cases hs
  case lload_n c => simp only [stp] at hs; (repeat' split at hs) <;> first | (cases hs; exact hp) | cases hs
  case istore c => simp only [stp] at hs; (repeat' split at hs) <;> first | (cases hs; exact hp) | cases hs
  case istore_n c => simp only [stp] at hs; (repeat' split at hs) <;> first | (cases hs; exact hp) | cases hs
  case astore c => simp only [stp] at hs; (repeat' split at hs) <;> first | (cases hs; exact hp) | cases hs
  case astore_n c => simp only [stp] at hs; (repeat' split at hs) <;> first | (cases hs; exact hp) | cases hs
  case iinc c1 c2 => simp only [stp] at hs; (repeat' split at hs) <;> first | (cases hs; exact hp) | cases hs
  case iadd  => simp only [stp] at hs; (repeat' split at hs) <;> first | (cases hs; exact hp) | cases hs
  case isub  => simp only [stp] at hs; (repeat' split at hs) <;> first | (cases hs; exact hp) | cases hs
  case imul  => simp only [stp] at hs; (repeat' split at hs) <;> first | (cases hs; exact hp) | cases hs
  case idiv  => simp only [stp] at hs; (repeat' split at hs) <;> first | (cases hs; exact hp) | cases hs
  case irem  => simp only [stp] at hs; (repeat' split at hs) <;> first | (cases hs; exact hp) | cases hs
  case ineg  => simp only [stp] at hs; (repeat' split at hs) <;> first | (cases hs; exact hp) | cases hs
  case iand  => simp only [stp] at hs; (repeat' split at hs) <;> first | (cases hs; exact hp) | cases hs
  case ior  => simp only [stp] at hs; (repeat' split at hs) <;> first | (cases hs; exact hp) | cases hs
  case ixor  => simp only [stp] at hs; (repeat' split at hs) <;> first | (cases hs; exact hp) | cases hs
  case ishl  => simp only [stp] at hs; (repeat' split at hs) <;> first | (cases hs; exact hp) | cases hs
  case ishr  => simp only [stp] at hs; (repeat' split at hs) <;> first | (cases hs; exact hp) | cases hs
  case iushr  => simp only [stp] at hs; (repeat' split at hs) <;> first | (cases hs; exact hp) | cases hs
  case i2l  => simp only [stp] at hs; (repeat' split at hs) <;> first | (cases hs; exact hp) | cases hs
  case l2i  => simp only [stp] at hs; (repeat' split at hs) <;> first | (cases hs; exact hp) | cases hs
  case i2b  => simp only [stp] at hs; (repeat' split at hs) <;> first | (cases hs; exact hp) | cases hs
  case i2s  => simp only [stp] at hs; (repeat' split at hs) <;> first | (cases hs; exact hp) | cases hs
  case i2c  => simp only [stp] at hs; (repeat' split at hs) <;> first | (cases hs; exact hp) | cases hs
  case land  => simp only [stp] at hs; (repeat' split at hs) <;> first | (cases hs; exact hp) | cases hs
  case lor  => simp only [stp] at hs; (repeat' split at hs) <;> first | (cases hs; exact hp) | cases hs
  case lshl  => simp only [stp] at hs; (repeat' split at hs) <;> first | (cases hs; exact hp) | cases hs
  case lshr  => simp only [stp] at hs; (repeat' split at hs) <;> first | (cases hs; exact hp) | cases hs
  case lushr  => simp only [stp] at hs; (repeat' split at hs) <;> first | (cases hs; exact hp) | cases hs
  case lcmp  => simp only [stp] at hs; (repeat' split at hs) <;> first | (cases hs; exact hp) | cases hs
  case dup  => simp only [stp] at hs; (repeat' split at hs) <;> first | (cases hs; exact hp) | cases hs
  case dup2  => simp only [stp] at hs; (repeat' split at hs) <;> first | (cases hs; exact hp) | cases hs
  case pop  => simp only [stp] at hs; (repeat' split at hs) <;> first | (cases hs; exact hp) | cases hs
  case goto c => simp only [stp] at hs; cases hs; exact hp
  case if_icmp c1 c2 => simp only [stp] at hs; (repeat' split at hs) <;> first | (cases hs; exact hp) | cases hs
  case ifCond c1 c2 => simp only [stp] at hs; (repeat' split at hs) <;> first | (cases hs; exact hp) | cases hs
  case tableswitch c1 c2 c3 c4 => simp only [stp] at hs; (repeat' split at hs) <;> first | (cases hs; exact hp) | cases hs
  case lookupswitch c1 c2 => simp only [stp] at hs; (repeat' split at hs) <;> first | (cases hs; exact hp) | cases hs
  case getfield c => simp only [stp] at hs; (repeat' split at hs) <;> first | (cases hs; exact hp) | cases hs
  case getstatic c => simp only [stp] at hs; cases hs; exact hp
  case arraylength  => simp only [stp] at hs; (repeat' split at hs) <;> first | (cases hs; exact hp) | cases hs
  case iaload  => simp only [stp] at hs; (repeat' split at hs) <;> first | (cases hs; exact hp) | cases hs
  case baload  => simp only [stp] at hs; (repeat' split at hs) <;> first | (cases hs; exact hp) | cases hs
  case aaload  => simp only [stp] at hs; (repeat' split at hs) <;> first | (cases hs; exact hp) | cases hs
  case ireturn  => simp only [stp] at hs; (repeat' split at hs) <;> first | (cases hs; exact hp) | cases hs
  case areturn  => simp only [stp] at hs; (repeat' split at hs) <;> first | (cases hs; exact hp) | cases hs
  case return_  => simp only [stp] at hs; (repeat' split at hs) <;> first | (cases hs; exact hp) | cases hs
  case putfield j =>
    simp only [stp] at hs
    split at hs
    · split at hs
      · rename_i hc
        obtain ⟨-, -, hb, -⟩ := hc
        cases hs
        exact pLe.upd hu rfl rfl (fun i hi => ⟨rfl, rfl, up_n (by omega)⟩)
      · cases hs
    · split at hs
      · rename_i hc
        obtain ⟨-, -, hb, -⟩ := hc
        cases hs
        exact pLe.upd hu rfl rfl (fun i hi => ⟨rfl, up_n (by omega), rfl⟩)
      · cases hs
    · cases hs
  case iastore =>
    simp only [stp] at hs
    split at hs
    · split at hs
      · split at hs
        · rename_i hc
          obtain ⟨hb, -⟩ := hc
          cases hs
          exact pLe.upd hu rfl rfl (fun i hi => ⟨rfl, rfl, up_n (by omega)⟩)
        · cases hs
      · cases hs
    · cases hs
  case aastore =>
    simp only [stp] at hs
    split at hs
    · split at hs
      · split at hs
        · rename_i hc
          obtain ⟨-, hb, -⟩ := hc
          cases hs
          exact pLe.upd hu rfl rfl (fun i hi => ⟨rfl, up_n (by omega), rfl⟩)
        · cases hs
      · cases hs
    · cases hs
  case new j =>
    simp only [okE, Bool.and_eq_true, decide_eq_true_eq] at hn
    simp only [stp] at hs
    cases hs
    exact ⟨hu.al (fun ci q => by cases q; exact hn.2) (fun t nn q => by cases q), eX.al hu, Nat.le_succ _, Nat.le_add_right _ _⟩
  case newarray t =>
    simp only [stp] at hs
    split at hs
    · split at hs
      · cases hs
        exact ⟨hu.al (fun ci q => by cases q) (fun t nn q => by cases q; decide), eX.al hu, Nat.le_succ _, Nat.le_add_right _ _⟩
      · cases hs
    · cases hs
  case anewarray j =>
    simp only [okE, Bool.and_eq_true, Bool.or_eq_true, decide_eq_true_eq] at hn
    simp only [stp] at hs
    split at hs
    · split at hs
      · cases hs
        refine ⟨hu.al (fun ci q => by cases q) (fun t nn q => ?_), eX.al hu, Nat.le_succ _, Nat.le_add_right _ _⟩
        cases q
        rcases hn.2 with ⟨q, -⟩ | ⟨q, -⟩ <;> rw [q] <;> decide
      · cases hs
    · cases hs
  case invokevirtual j =>
    simp only [stp] at hs
    split at hs
    · exact doC_pure hcf hs hu
    · cases hs
  case invokespecial j =>
    simp only [stp] at hs
    split at hs
    · exact doC_pure hcf hs hu
    · (repeat' split at hs) <;> first | (cases hs; exact hp) | cases hs
  case invokestatic j =>
    simp only [stp] at hs
    split at hs
    · exact doC_pure hcf hs hu
    · split at hs
      · split at hs
        · split at hs
          · split at hs
            · rename_i hc
              obtain ⟨-, hb, -⟩ := hc
              cases hs
              exact pLe.upd hu rfl rfl (fun i hi => ⟨rfl, rfl, up_n (by omega)⟩)
            · cases hs
          · cases hs
        · cases hs
      · (repeat' split at hs) <;> first | (cases hs; exact hp) | cases hs
  all_goals (simp only [stp] at hs; cases hs)
theorem run_pure {cf : Nat → List Value → pH → Option (Option Value × pH)} (hcf : ∀ mm as hh v hh', cf mm as hh = some (v, hh') → pU hh → pLe hh hh') {k : Nat} (hk : k < 257) : ∀ (n : Nat) (c : pF) (v : Option Value) (hf : pH), run cf k n c = some (v, hf) → pU c.2.2.2 → pLe c.2.2.2 hf := by
  intro n
  induction n with
  | zero => intro c v hf h _; cases h
  | succ n ih =>
    intro c v hf h hu
    unfold run at h
    split at h
    · cases h
    · rename_i e he
      obtain ⟨nn, -, hok⟩ := chk_spec (pEnt_chk hk he)
      split at h
      · cases h
      · rename_i c' hs
        have h1 : pLe c.2.2.2 c'.2.2.2 := stp_pure hcf hok hs hu
        exact h1.tr (ih c' v hf h h1.1)
      · rename_i r hs
        have h1 := stp_pure hcf hok hs hu
        cases h
        exact h1
theorem evM_pure : ∀ (d n mm : Nat) (as : List Value) (h : pH) (v : Option Value) (h' : pH), evM d n mm as h = some (v, h') → pU h → pLe h h' := by
  intro d
  induction d with
  | zero => intro n mm as h v h' he; cases he
  | succ d ih =>
    intro n mm as h v h' he hu
    unfold evM at he
    split at he
    · rename_i hc
      exact run_pure (fun mm as hh v hh' q hu => ih n mm as hh v hh' q hu) (Nat.lt_succ_of_lt hc.2) n _ v h' he hu
    · cases he
section RUN
variable {p : Program} {l : Launch} {e : Env} {R : Room} {s : State} {m : MethodId} {args : Array Value} {below : List Frame} {meth : Method} {c : Code} {Q : State → Prop} {X : pX} {k n0 sl0 : Nat}
variable {pc n d : Nat} {L st : List Value} {h h' : pH} {a : pF} {cf : Nat → List Value → pH → Option (Option Value × pH)}
set_option maxHeartbeats 8000000 in
theorem stp_ok (F : fC p s m args meth c X k) {e0 : pE} (hent : pEnt k pc = some e0) (hcf : ∀ mm as hh v hh', cf mm as hh = some (v, hh') → sndM l d mm as hh v hh') (hR : d + 1 ≤ R.frames ∧ 41 * (d + 1) ≤ R.locals)
    (hs : stp cf k pc e0 L st h = some (.inl a)) (hr : a.2.2.2.1.1 - n0 ≤ R.cells ∧ a.2.2.2.1.2 - sl0 ≤ R.slots) (kk : gW p l e R s m args below meth c Q X k n0 sl0 a) : gW p l e R s m args below meth c Q X k n0 sl0 (pc, L, st, h) := by
  obtain ⟨nn, hd, hok⟩ := chk_spec (pEnt_chk F.2.2.2.2.2.2.2 hent)
  obtain ⟨i, x, ps⟩ := e0
  cases i
  case iconst c => exact so_iconst F hd hok hs kk
  case bipush c => exact so_bipush F hd hok hs kk
  case sipush c => exact so_sipush F hd hok hs kk
  case lconst c => exact so_lconst F hd hok hs kk
  case ldc c => exact so_ldc F hd hok hs kk
  case ldc_w c => exact so_ldc_w F hd hok hs kk
  case ldc2_w c => exact so_ldc2_w F hd hok hs kk
  case iload c => exact so_iload F hd hok hs kk
  case iload_n c => exact so_iload_n F hd hok hs kk
  case aload c => exact so_aload F hd hok hs kk
  case aload_n c => exact so_aload_n F hd hok hs kk
  case lload c => exact so_lload F hd hok hs kk
  case lload_n c => exact so_lload_n F hd hok hs kk
  case istore c => exact so_istore F hd hok hs kk
  case istore_n c => exact so_istore_n F hd hok hs kk
  case astore c => exact so_astore F hd hok hs kk
  case astore_n c => exact so_astore_n F hd hok hs kk
  case iinc c1 c2 => exact so_iinc F hd hok hs kk
  case iadd  => exact so_iadd F hd hok hs kk
  case isub  => exact so_isub F hd hok hs kk
  case imul  => exact so_imul F hd hok hs kk
  case idiv  => exact so_idiv F hd hok hs kk
  case irem  => exact so_irem F hd hok hs kk
  case ineg  => exact so_ineg F hd hok hs kk
  case iand  => exact so_iand F hd hok hs kk
  case ior  => exact so_ior F hd hok hs kk
  case ixor  => exact so_ixor F hd hok hs kk
  case ishl  => exact so_ishl F hd hok hs kk
  case ishr  => exact so_ishr F hd hok hs kk
  case iushr  => exact so_iushr F hd hok hs kk
  case i2l  => exact so_i2l F hd hok hs kk
  case l2i  => exact so_l2i F hd hok hs kk
  case i2b  => exact so_i2b F hd hok hs kk
  case i2s  => exact so_i2s F hd hok hs kk
  case i2c  => exact so_i2c F hd hok hs kk
  case land  => exact so_land F hd hok hs kk
  case lor  => exact so_lor F hd hok hs kk
  case lshl  => exact so_lshl F hd hok hs kk
  case lshr  => exact so_lshr F hd hok hs kk
  case lushr  => exact so_lushr F hd hok hs kk
  case lcmp  => exact so_lcmp F hd hok hs kk
  case dup  => exact so_dup F hd hok hs kk
  case dup2  => exact so_dup2 F hd hok hs kk
  case pop  => exact so_pop F hd hok hs kk
  case goto c => exact so_goto F hd hok hs kk
  case if_icmp c1 c2 => exact so_if_icmp F hd hok hs kk
  case ifCond c1 c2 => exact so_ifCond F hd hok hs kk
  case tableswitch c1 c2 c3 c4 => exact so_tableswitch F hd hok hs kk
  case lookupswitch c1 c2 => exact so_lookupswitch F hd hok hs kk
  case getfield c => exact so_getfield F hd hok hs kk
  case getstatic c => exact so_getstatic F hd hok hs kk
  case arraylength  => exact so_arraylength F hd hok hs kk
  case iaload  => exact so_iaload F hd hok hs kk
  case baload  => exact so_baload F hd hok hs kk
  case aaload  => exact so_aaload F hd hok hs kk
  case ireturn => simp only [stp] at hs; (repeat' split at hs) <;> cases hs
  case areturn => simp only [stp] at hs; (repeat' split at hs) <;> cases hs
  case return_ => simp only [stp] at hs; (repeat' split at hs) <;> cases hs
  case putfield c => exact so_putfield F hd hok hs kk
  case iastore  => exact so_iastore F hd hok hs kk
  case aastore  => exact so_aastore F hd hok hs kk
  case new j => exact so_new F hd hok hs hr kk
  case newarray j => exact so_newarray F hd hok hs hr kk
  case anewarray j => exact so_anewarray F hd hok hs hr kk
  case invokevirtual j => exact so_invokevirtual F hd hok hcf hR hs hr kk
  case invokestatic j => exact so_invokestatic F hd hok hcf hR hs hr kk
  case invokespecial j => exact so_invokespecial F hd hok hcf hR hs hr kk
  all_goals (simp only [stp] at hs; cases hs)
theorem run_ok (F : fC p s m args meth c X k) (hcf : ∀ mm as hh v hh', cf mm as hh = some (v, hh') → sndM l d mm as hh v hh') (hcp : ∀ mm as hh v hh', cf mm as hh = some (v, hh') → pU hh → pLe hh hh') (hR : d + 1 ≤ R.frames ∧ 41 * (d + 1) ≤ R.locals) {v : Option Value} {hf : pH} (hr : hf.1.1 - n0 ≤ R.cells ∧ hf.1.2 - sl0 ≤ R.slots)
    (hret : ∀ pc L st h e0, pEnt k pc = some e0 → stp cf k pc e0 L st h = some (.inr (v, hf)) → gW p l e R s m args below meth c Q X k n0 sl0 (pc, L, st, h)) :
    ∀ (n : Nat) (a : pF), run cf k n a = some (v, hf) → pU a.2.2.2 → gW p l e R s m args below meth c Q X k n0 sl0 a := by
  intro n
  induction n with
  | zero => intro a h; cases h
  | succ n ih =>
    intro a h hu
    obtain ⟨pc, L, st, h0⟩ := a
    unfold run at h
    simp only at h
    split at h
    · cases h
    · rename_i e0 he
      obtain ⟨nn, -, hok⟩ := chk_spec (pEnt_chk F.2.2.2.2.2.2.2 he)
      split at h
      · cases h
      · rename_i c' hs
        have h1 : pLe h0 c'.2.2.2 := stp_pure hcp hok hs hu
        have h2 := run_pure hcp F.2.2.2.2.2.2.2 n c' v hf h h1.1
        exact stp_ok F he hcf hR hs ⟨by have := h2.2.2.1; have := hr.1; omega, by have := h2.2.2.2; have := hr.2; omega⟩ (ih c' h h1.1)
      · rename_i r hs
        cases h
        exact hret pc L st h0 e0 he hs
end RUN
/-! a method's entry -/
theorem inA_sl {X : pX} : ∀ {ss : List Nat} {as : List Value} {j : Nat}, okA ss as = true → (lg_sl (as.map (aV X))).length = (inA as).length ∧ (∀ q ∈ lv_args j (as.map (aV X)), q = q) ∧
    (∀ (i : Nat) (v : Value), (inA as)[i]? = some v → (∀ p, v ≠ .retAddr p) → (j + i, aV X v) ∈ lv_args j (as.map (aV X))) ∧ (∀ (i : Nat) (v : Value), (inA as)[i]? = some v → v.category = 2 → j + i + 1 ∈ lgP j ss) := by
  intro ss
  induction ss with
  | nil =>
    intro as j h
    cases as with
    | nil => exact ⟨rfl, fun _ _ => rfl, fun i v h => by simp [inA] at h, fun i v h => by simp [inA] at h⟩
    | cons a l => simp [okA] at h
  | cons t ss ih =>
    intro as j h
    cases as with
    | nil => unfold okA at h; split at h <;> simp_all
    | cons a as =>
      unfold okA at h
      split at h
      · simp_all
      · rename_i s' x l' e1 e2
        cases e1; cases e2
        obtain ⟨g1, -, g2, g3⟩ := ih (as := as) (j := j + 1) h
        refine ⟨?_, fun _ _ => rfl, fun i v hi hn => ?_, fun i v hi hc => ?_⟩
        · simp only [List.map_cons, aV, lg_sl, List.flatMap_cons, Value.category, inA, List.length_append] at g1 ⊢
          simpa using g1
        · cases i with
          | zero => simp only [inA, List.flatMap_cons, List.cons_append, List.getElem?_cons_zero, Option.some.injEq] at hi; subst hi; simp [lv_args, aV]
          | succ i =>
            have := g2 i v (by simpa [inA] using hi) hn
            simp only [List.map_cons, aV, lv_args, Value.category]
            refine List.mem_cons_of_mem _ ?_
            rw [show j + (i + 1) = j + 1 + i by omega]
            exact this
        · cases i with
          | zero => simp only [inA, List.flatMap_cons, List.cons_append, List.getElem?_cons_zero, Option.some.injEq] at hi; subst hi; simp [Value.category] at hc
          | succ i =>
            have := g3 i v (by simpa [inA] using hi) hc
            simp only [lgP]
            rw [if_neg (by decide), show j + (i + 1) + 1 = j + 1 + i + 1 by omega]
            exact this
      · rename_i s' x l' e1 e2
        cases e1; cases e2
        obtain ⟨g1, -, g2, g3⟩ := ih (as := as) (j := j + 2) h
        refine ⟨?_, fun _ _ => rfl, fun i v hi hn => ?_, fun i v hi hc => ?_⟩
        · simp only [List.map_cons, aV, lg_sl, List.flatMap_cons, Value.category, inA, List.length_append] at g1 ⊢
          simpa using g1
        · match i with
          | 0 => simp only [inA, List.flatMap_cons, List.cons_append, List.getElem?_cons_zero, Option.some.injEq] at hi; subst hi; simp [lv_args, aV]
          | 1 =>
            simp only [inA, List.flatMap_cons, List.cons_append, List.getElem?_cons_succ, List.getElem?_cons_zero, Option.some.injEq] at hi
            exact absurd hi.symm (hn 0)
          | i + 2 =>
            have := g2 i v (by simpa [inA] using hi) hn
            simp only [List.map_cons, aV, lv_args, Value.category]
            refine List.mem_cons_of_mem _ ?_
            rw [show j + (i + 2) = j + 2 + i by omega]
            exact this
        · match i with
          | 0 => simp [lgP]
          | 1 =>
            simp only [inA, List.flatMap_cons, List.cons_append, List.getElem?_cons_succ, List.getElem?_cons_zero, Option.some.injEq] at hi
            subst hi
            simp [Value.category] at hc
          | i + 2 =>
            have := g3 i v (by simpa [inA] using hi) hc
            simp only [lgP, if_true]
            rw [show j + (i + 2) + 1 = j + 2 + i + 1 by omega]
            exact List.mem_cons_of_mem _ this
      · rename_i s' x l' e1 e2
        cases e1; cases e2
        obtain ⟨g1, -, g2, g3⟩ := ih (as := as) (j := j + 1) h
        refine ⟨?_, fun _ _ => rfl, fun i v hi hn => ?_, fun i v hi hc => ?_⟩
        · simp only [List.map_cons, aV, lg_sl, List.flatMap_cons, Value.category, inA, List.length_append] at g1 ⊢
          simpa using g1
        · cases i with
          | zero => simp only [inA, List.flatMap_cons, List.cons_append, List.getElem?_cons_zero, Option.some.injEq] at hi; subst hi; simp [lv_args, aV]
          | succ i =>
            have := g2 i v (by simpa [inA] using hi) hn
            simp only [List.map_cons, aV, lv_args, Value.category]
            refine List.mem_cons_of_mem _ ?_
            rw [show j + (i + 1) = j + 1 + i by omega]
            exact this
        · cases i with
          | zero => simp only [inA, List.flatMap_cons, List.cons_append, List.getElem?_cons_zero, Option.some.injEq] at hi; subst hi; simp [Value.category] at hc
          | succ i =>
            have := g3 i v (by simpa [inA] using hi) hc
            simp only [lgP]
            rw [if_neg (by decide), show j + (i + 1) + 1 = j + 1 + i + 1 by omega]
            exact this
      · cases h
end
section
/-! the skeleton's words (a starting text), and: a run of the abstract machine is a run of the machine -/
def R_law : String := "PlayedBackLaw"
def lw_P (b : Addr) (xs : List Int32) (args : Array Value) (s : State) : Prop := args = #[.ref b] ∧ s.IntsAt b xs ∧ xs.length ≤ 3072 ∧ (Jvm.Cond.and given_1 narrow_1).before args s = true
def lw_Q (_ : Array Value) (s : State) (o : Outcome) (t : State) : Prop := o = .returned (some (.int 1)) ∧ Framed s o t [] 600000 7302250
def lw_Z (below : List Frame) (a : Array Value) (s : State) : State → Prop := fun t => ∃ o, t.status = .running ∧ Ended t below o ∧ lw_Q a s o t
/-- the law's own end, with 1 on the stack, nothing written that was there before, its room as the claim has it -/
theorem lw_ret {p : Program} {l : Launch} {e : Env} {s : State} {m : MethodId} {below : List Frame} {meth : Method} {c : Code} {b : Nat} (hx : p.tables.exec = Jvm.exec) (hb : c.code = code) (hr : meth.sig.returnType = ret) (hlocks : meth.locks = false) {pc : Nat} {H : Heap} {ls : Array Slot} (hdg : decode code pc = .ok (.ireturn, 1)) : W p l e room_1 s m #[Value.ref b] below meth c H [] 600000 7302250 (lw_Z below #[Value.ref b] s) (F0 m pc ls [.int 1]) := by
  intro T hT X
  obtain ⟨fs, hret, hrun, hended, hW, hframe⟩ := X.leave (v := some (.int 1)) (hlocks := hlocks) (fun h => by rw [hr] at h; cases h)
  have hmeth' : T.vm.method? m = some meth := X.method'
  refine ⟨T.setFrames fs, ?_, .returned (some (.int 1)), hrun, hended, rfl, ⟨_, rfl⟩, hW, hframe⟩
  jvm_step X.here [X.here.top, hx, hb, hdg, hmeth', hr, ret, narrow_b1]
  (try refine ⟨rfl, ?_⟩); (try refine ⟨rfl, ?_⟩)
  first | (intro acts; rw [hret _ acts rfl rfl rfl]) | rw [hret _ _ rfl rfl rfl]
  exact Steps.refl _
/-- what holds at the law's entry: the machine, the code, the tables' words (any of lw_tbl by 'hts w (by decide +kernel)'), the script of L ints xs at the cell b, what the Statement gives of the start (any of its parts by flat_of_before) -/
def lw_At (p : Program) (s : State) (m : MethodId) (meth : Method) (c : Code) (b L : Nat) (xs : Nat → Int32) : Prop :=
  p.tables.exec = Jvm.exec ∧ c.code = code ∧ meth.sig.returnType = ret ∧ c.maxLocals = 4 ∧ s.vm.findClass R_law = some m.cls ∧ (∀ w ∈ lw_tbl, w.before #[Value.ref b] s = true) ∧ va_X b L xs s s.heap ∧ b < s.heap.size ∧ meth.locks = false ∧ (Jvm.Cond.and given_1 narrow_1).before #[Value.ref b] s = true

def sgW : List Nat → Nat
  | [] => 0
  | t :: l => (if t = 1 then 2 else 1) + sgW l
theorem inA_len : ∀ {ss : List Nat} {as : List Value}, okA ss as = true → (inA as).length = sgW ss := by
  intro ss
  induction ss with
  | nil =>
    intro as h
    cases as with
    | nil => rfl
    | cons a l => simp [okA] at h
  | cons t ss ih =>
    intro as h
    cases as with
    | nil => unfold okA at h; split at h <;> simp_all
    | cons a as =>
      unfold okA at h
      split at h
      · simp_all
      · rename_i s' x l' e1 e2
        cases e1; cases e2
        have := ih h
        simp only [inA, List.flatMap_cons, List.length_append, sgW] at this ⊢
        simp [this]
      · rename_i s' x l' e1 e2
        cases e1; cases e2
        have := ih h
        simp only [inA, List.flatMap_cons, List.length_append, sgW] at this ⊢
        simp [this]
      · rename_i s' x l' e1 e2
        cases e1; cases e2
        have := ih h
        simp only [inA, List.flatMap_cons, List.length_append, sgW] at this ⊢
        simp [this]
      · cases h
theorem sg_max : ∀ mm, mm < 257 → sgW (mSig mm) ≤ mMax mm := by decide +kernel
/-- a method's locals at its entry -/
theorem lR_entry {X : pX} {mm : Nat} (hm : mm < 257) {as : List Value} (hok : okA (mSig mm) as = true) : lR X mm (mMax mm) ((lg_sl (as.map (aV X)) ++ List.replicate (mMax mm - (lg_sl (as.map (aV X))).length) Slot.unset).toArray) (inL mm as) := by
  obtain ⟨g1, -, g2, g3⟩ := inA_sl (X := X) (j := 0) hok
  have hlen := inA_len hok
  have hmx := sg_max mm hm
  have hE := lv_entry (as.map (aV X)) (n := mMax mm) (by rw [g1, hlen]; exact hmx)
  refine ⟨hE.1, ?_, hE.2.1, fun i v hi hn => ?_, fun i v hi hc => ?_⟩
  · unfold inL
    rw [List.length_append, List.length_replicate]
    omega
  · unfold inL at hi
    by_cases hl : i < (inA as).length
    · rw [List.getElem?_append_left hl] at hi
      have := hE.2.2 _ (g2 i v hi hn)
      simpa using this
    · rw [List.getElem?_append_right (by omega)] at hi
      exact absurd (List.eq_of_mem_replicate (List.mem_of_getElem? hi)) (hn 0)
  · unfold inL at hi
    by_cases hl : i < (inA as).length
    · rw [List.getElem?_append_left hl] at hi
      have := g3 i v hi hc
      simpa using this
    · rw [List.getElem?_append_right (by omega)] at hi
      have := List.eq_of_mem_replicate (List.mem_of_getElem? hi)
      subst this
      simp [Value.category] at hc
theorem evM_sound (l : Launch) : ∀ (d n mm : Nat) (as : List Value) (h : pH) (v : Option Value) (h' : pH), evM d n mm as h = some (v, h') → sndM l d mm as h v h' := by
  intro d
  induction d with
  | zero => intro n mm as h v h' he; cases he
  | succ d ih =>
    intro n mm as h v h' he X hu
    have hp := evM_pure _ _ _ _ _ _ _ he hu
    unfold evM at he
    split at he
    · rename_i hc
      obtain ⟨hok, hm⟩ := hc
      obtain ⟨w1, w2, w3, w4, w5, w6, w7, w8⟩ := chW_w hm
      refine ⟨hm, hp.1, hp.2.1, hp.2.2.1, hp.2.2.2, hok, ?_⟩
      refine Met.ofW (cc := mCode mm) (maxL := mMax mm) (ret := mRet mm) w4 rfl ?_
      intro p e s m args below meth c s₁ B hml hv
      obtain ⟨rfl, hsz, hP, hK, hX⟩ := hv
      have hts := atoms_spec (ws := wMc mm :: gT) B.pre
      have hown : s.vm.findClass (cNm (mOwn mm)) = some m.cls := findClass_of_methodNamed B.named
      have hnm : meth.name = (mYn mm).name := (name_of_methodNamed B.named B.method).1
      have hlk : meth.locks = false := B.notSynchronized
      have F : fC p s m (as.map (aV X)).toArray meth c X mm := ⟨B.exec, B.bytes, hml, hown, fun w hw => hts w (List.mem_cons_of_mem _ hw), hK, hnm, Nat.lt_succ_of_lt hm⟩
      have hI : aI X s h.1.1 h.1.2 h s.heap [] := ⟨hu, hP, va_S.rf, hX, hu.1, Nat.le_refl _, Nat.le_refl _, hsz⟩
      have hG := run_ok (R := rmD (d + 1) (h'.1.1 - h.1.1) (h'.1.2 - h.1.2)) (l := l) (e := e) (below := below) (n0 := h.1.1) (sl0 := h.1.2) (Q := MQ below (QM X h' v) (as.map (aV X)).toArray s (h'.1.1 - h.1.1) (h'.1.2 - h.1.2) (aA X)) F (fun mm as hh v hh' q => ih n mm as hh v hh' q) (fun mm as hh v hh' q hu => evM_pure d n mm as hh v hh' q hu) ⟨Nat.le_refl _, Nat.le_refl _⟩ (v := v) (hf := h') ⟨Nat.le_refl _, Nat.le_refl _⟩ ?_ n (0, inL mm as, [], h) he hu
      · have h9 := hG s.heap [] _ hI (lR_entry (Nat.lt_succ_of_lt hm) hok)
        simp only [Nat.sub_self, List.map_nil] at h9
        rw [lg_entry_eq]
        exact h9
      · intro pc L st h0 e0 hent hs
        obtain ⟨nn, hd, hokE⟩ := chk_spec (pEnt_chk (Nat.lt_succ_of_lt hm) hent)
        obtain ⟨i, x, ps⟩ := e0
        intro H locs ls hI hL
        cases i
        case ireturn =>
          have h1 := okN1 hokE
          subst h1
          simp only [stp] at hs
          split at hs
          · rename_i y ty hr
            split at hs
            · rename_i hn
              cases hs
              exact W.zret F.1 F.2.1 (B.returns.trans hr) hn (fun t ht hW => ⟨rfl, by rw [ht]; exact hI.2.1, hI.2.2.1.F ht⟩) hI.2.2.1.2.2 hd hlk
            · cases hs
          · cases hs
        case areturn =>
          have h1 := okN1 hokE
          subst h1
          simp only [stp] at hs
          split at hs
          · rename_i y nm hr
            cases hs
            exact W.aret F.1 F.2.1 (B.returns.trans hr) (Or.inl ⟨_, rfl⟩) (Or.inr ⟨_, rfl⟩) (fun t ht hW => ⟨rfl, by rw [ht]; exact hI.2.1, hI.2.2.1.F ht⟩) hI.2.2.1.2.2 hd hlk
          · cases hs
        case return_ =>
          have h1 := okN1 hokE
          subst h1
          simp only [stp] at hs
          split at hs
          · rename_i hr
            cases hs
            exact W.vret F.1 F.2.1 (B.returns.trans hr) (fun t ht hW => ⟨rfl, by rw [ht]; exact hI.2.1, hI.2.2.1.F ht⟩) hI.2.2.1.2.2 hd hlk
          · cases hs
        case invokevirtual j =>
          simp only [stp, doC] at hs
          (repeat' split at hs) <;> cases hs
        case invokestatic j =>
          simp only [stp, doC] at hs
          (repeat' split at hs) <;> cases hs
        case invokespecial j =>
          simp only [stp, doC] at hs
          (repeat' split at hs) <;> cases hs
        all_goals (simp only [stp] at hs; (repeat' split at hs) <;> cases hs)
    · cases he
/-- the law's run, from its entry -/
theorem law_run {p : Program} {e : Env} {s : State} {m : MethodId} {below : List Frame} {meth : Method} {c : Code} (l : Launch) {b L : Nat} {xs : Nat → Int32} (C0 : lw_At p s m meth c b L xs) {X : pX} {h0 hf : pH} {d n : Nat} (hb9 : X.2.2.2.1 9 = b) (hbase : X.2.2.2.2 = s.heap.size) (hn0 : h0.1 = (nX, 0)) (hu : pU h0) (hK : va_K (aG X) vwCl (aT X) s) (hX : aX X h0 s s.heap) (hnm : meth.name = "law") (hd : d ≤ 1000) (hrun : run (evM d n) 256 n (0, inL 256 [.ref 9], [], h0) = some (some (.int 1), hf)) (hr : hf.1.1 ≤ 600000 ∧ hf.1.2 ≤ 7302250) :
    W p l e room_1 s m #[Value.ref b] below meth c s.heap [] 0 0 (lw_Z below #[Value.ref b] s) (entryFrame m ([Value.ref b] : List Value).toArray 4) := by
  obtain ⟨hx, hb, hrt, hml, hown, hts, hXX, hbl, hlk, hgv⟩ := C0
  have F : fC p s m #[Value.ref b] meth c X 256 := ⟨hx, hb, hml, hown, fun w hw => hts w (gT_in w hw), hK, hnm, by decide⟩
  have hP : va_P (aG X) vwCl (aW X h0) s.heap := fun k q hq => by
    have := (aW_get hq).1
    rw [hn0] at this
    omega
  have hI : aI X s nX 0 h0 s.heap [] := ⟨hu, hP, va_S.rf, hX, Nat.le_refl _, by rw [hn0]; exact Nat.le_refl _, Nat.zero_le _, by rw [hbase]; omega⟩
  have e9 : ([Value.ref b] : List Value) = [Value.ref 9].map (aV X) := by
    show [Value.ref b] = [Value.ref (aD X 9)]
    rw [show aD X 9 = b from hb9]
  have hG := run_ok (R := room_1) (l := l) (e := e) (below := below) (n0 := nX) (sl0 := 0) (Q := lw_Z below #[Value.ref b] s) F (fun mm as hh v hh' q => evM_sound l d n mm as hh v hh' q) (fun mm as hh v hh' q hu => evM_pure d n mm as hh v hh' q hu) ⟨by show _ ≤ 2048; omega, by show _ ≤ 84000; omega⟩ (v := some (.int 1)) (hf := hf) ⟨by show _ ≤ 600000; omega, by show _ ≤ 7302250; omega⟩ ?_ n (0, inL 256 [.ref 9], [], h0) hrun hu
  · have h9 := hG s.heap [] _ hI (lR_entry (X := X) (mm := 256) (by decide) (as := [.ref 9]) rfl)
    simp only [List.map_nil, hn0, Nat.sub_self] at h9
    have e10 : entryFrame m ([Value.ref b] : List Value).toArray 4 = F0 m 0 ((lg_sl (List.map (aV X) [Value.ref 9]) ++ List.replicate (mMax 256 - (lg_sl (List.map (aV X) [Value.ref 9])).length) Slot.unset).toArray) [] := by
      rw [e9]
      exact lg_entry_eq m (List.map (aV X) [Value.ref 9]) 4
    rw [e10]
    exact h9
  · intro pc L st h1 e0 hent hs
    obtain ⟨nn, hd, hokE⟩ := chk_spec (pEnt_chk (by decide) hent)
    obtain ⟨i, x, ps⟩ := e0
    intro H locs ls hI hL
    cases i
    case ireturn =>
      have h1 := okN1 hokE
      subst h1
      simp only [stp] at hs
      split at hs
      · rename_i y ty hr9
        split at hs
        · rename_i hn
          cases hs
          refine va_forget (fun q hq => by rw [← hbase]; exact hI.2.2.1.2.2 q hq) ?_
          refine W.widen (k := 600000) (n := 7302250) (Nat.le_trans (Nat.sub_le _ _) hr.1) (Nat.le_trans (Nat.sub_le _ _) hr.2) ?_
          exact lw_ret hx hb hrt hlk hd
        · cases hs
      · cases hs
    case areturn =>
      simp only [stp] at hs
      split at hs <;> cases hs
    case return_ =>
      simp only [stp] at hs
      split at hs <;> cases hs
    case invokevirtual j =>
      simp only [stp, doC] at hs
      (repeat' split at hs) <;> cases hs
    case invokestatic j =>
      simp only [stp, doC] at hs
      (repeat' split at hs) <;> cases hs
    case invokespecial j =>
      simp only [stp, doC] at hs
      (repeat' split at hs) <;> cases hs
    all_goals (simp only [stp] at hs; (repeat' split at hs) <;> cases hs)
end
section
/-! what lies in the heap at the law's entry -/
def tAb : List Int32 := [(-1), 0, 0, 0, 1, 2, 3]
def tWy : List Int32 := [1, 1, 2, 6, 24, 120, 720, 5040]
def tBo : List Int32 := [10, 11, 12, 13, 0, 20, 0, 0, 30, 0, 0, 0, 0, 0, 40, 0, 0, 50, 0, 0, 0, 0, 0, 60, 0, 0, 70, 71]
def tC1 : List Int32 := [99, 108, 109]
def tC2 : List Int32 := [103, 104, 114]
/-- what the cells that were there before hold; the script is xs -/
def exI (xs : Nat → Int32) (i j : Nat) : Int32 := match i with
  | 4 => tC1.getD j 0
  | 5 => tC2.getD j 0
  | 6 => tAb.getD j 0
  | 7 => tWy.getD j 0
  | 8 => tBo.getD j 0
  | 9 => xs j
  | _ => 0
def exR (i k : Nat) : Option Nat := match i, k with
  | 0, 0 => some 3
  | 1, 0 => some 4
  | 2, 0 => some 5
  | _, _ => none
def exS (n i : Nat) : pSh := match i with
  | 0 => .inl 11
  | 1 => .inl 11
  | 2 => .inl 11
  | 3 => .inr (1, 0)
  | 4 => .inr (1, 3)
  | 5 => .inr (1, 3)
  | 6 => .inr (0, 7)
  | 7 => .inr (0, 8)
  | 8 => .inr (0, 28)
  | 9 => .inr (0, n)
  | _ => .inr (9, 0)
def h_0 (n : Nat) (xs : Nat → Int32) : pH := ((10, 0), exS n, exR, exI xs)
theorem h_0u {n : Nat} {xs : Nat → Int32} : pU (h_0 n xs) := by
  refine ⟨Nat.le_refl 10, fun i hi => ?_, fun i hi ci hs => ?_, fun i hi t nn hs => ?_⟩
  · have hi : 10 ≤ i := hi
    obtain ⟨j, rfl⟩ : ∃ j, i = j + 10 := ⟨i - 10, by omega⟩
    rfl
  · have hi : 10 ≤ i := hi
    obtain ⟨j, rfl⟩ : ∃ j, i = j + 10 := ⟨i - 10, by omega⟩
    cases hs
  · have hi : 10 ≤ i := hi
    obtain ⟨j, rfl⟩ : ∃ j, i = j + 10 := ⟨i - 10, by omega⟩
    cases hs
    decide
/-- the texts' entries -/
def tmK : Nat → Nat
  | 0 => 15
  | 1 => 29
  | _ => 31
section EXT
variable {s : State} {b L : Nat} {xs : Nat → Int32}
theorem ex_K (hts : ∀ w ∈ lw_tbl, w.before #[Value.ref b] s = true) : ∃ (dC : Nat → ClassId) (dI : Nat → Nat → Nat) (cA : Nat → ClassId), ∀ xa base, va_K (aG (dC, dI, cA, xa, base)) vwCl (aT (dC, dI, cA, xa, base)) s := by
  have htg : ∀ w ∈ gT, w.before #[Value.ref b] s = true := fun w hw => hts w (gT_in w hw)
  have h0 : ∀ ci : Nat, ∃ q : ClassId × (Nat → Nat), ci < 11 → u_Kn s (cNm ci) (cTt ci) (cNf ci) q.1 q.2 := by
    intro ci
    by_cases hc : ci < 11
    · obtain ⟨c, iS, h⟩ := u_known (n := cNf ci) htg (us_ok hc) (htg _ (ins_in _ hc))
      exact ⟨(c, iS), fun _ => h⟩
    · exact ⟨(default, fun _ => 0), fun h => absurd h hc⟩
  obtain ⟨f, hf⟩ := Classical.axiomOfChoice h0
  have a0 : ∃ cA : ClassId, ArrOfT s cA .int ∧ va_RA s cA .int := by
    obtain ⟨cA, kA, comp, h1, h2, h3⟩ := Cond.arrayClass_spec (htg _ w_arrI)
    exact ⟨cA, fun n z => ⟨fun k h => (by cases h), kA, h2, comp, h3⟩, h1⟩
  have aC : ∀ C : String, (Cond.arrayOver (.object C)).before #[Value.ref b] s = true → ∃ cA : ClassId, ArrOfT s cA (.object C) ∧ va_RA s cA (.object C) := by
    intro C hC
    obtain ⟨comp, cA, kA, h1, h2, h3, h4, h5⟩ := Cond.arrayOver_spec hC
    exact ⟨cA, fun n z => ⟨fun k h => (by cases h), kA, h3, comp, h4⟩, kA, comp, h3, h4, h1, h5⟩
  obtain ⟨c0, g0⟩ := a0
  obtain ⟨c2, g2⟩ := aC RX5 (hts _ (List.mem_of_getElem? (i := 108) (by decide +kernel)))
  obtain ⟨c3, g3⟩ := aC RX6 (hts _ (List.mem_of_getElem? (i := 338) (by decide +kernel)))
  refine ⟨fun c => (f c).1, fun c => (f c).2, fun t => if t = 0 then c0 else if t = 2 then c2 else c3, fun xa base => ⟨fun c q hq => ?_, fun k q hq => ?_⟩⟩
  · have hc : c < 11 := (List.getElem?_eq_some_iff.mp hq).1
    cases (cl_at hc).symm.trans hq
    exact hf c hc
  · match k, hq with
    | 0, hq => cases hq; exact g0
    | 1, hq => cases hq; exact g2
    | 2, hq => cases hq; exact g3
    | k + 3, hq => simp [aT] at hq
theorem ex_ab (hs : ∀ w ∈ flatC (Jvm.Cond.and given_1 narrow_1), w.before #[Value.ref b] s = true) (hts : ∀ w ∈ lw_tbl, w.before #[Value.ref b] s = true) {A : Nat → Prop} (hA : ∀ a : Nat, a < s.heap.size → ¬ A a) : ∃ t : Nat, va_Z "PlayedBack" "ABOVE" "[I" (.ref t) A s s.heap ∧ va_T .int t 7 (fun j => .int (exI xs 6 j)) A s s.heap := by
  have hel : ∀ j : Nat, j < 7 → (Term.elem (.static "PlayedBack" "ABOVE" "[I") (.int (Int32.ofNat j))).eval #[Value.ref b] s none [] s = some (.int (exI xs 6 j)) := by
    intro j hj
    match j, hj with
    | 0, _ => exact va_eqt (t := .elem (.static "PlayedBack" "ABOVE" "[I") (.int 0)) (z := (-1)) (hs _ (by decide +kernel))
    | 1, _ => exact va_eqt (t := .elem (.static "PlayedBack" "ABOVE" "[I") (.int 1)) (z := 0) (hs _ (by decide +kernel))
    | 2, _ => exact va_eqt (t := .elem (.static "PlayedBack" "ABOVE" "[I") (.int 2)) (z := 0) (hs _ (by decide +kernel))
    | 3, _ => exact va_eqt (t := .elem (.static "PlayedBack" "ABOVE" "[I") (.int 3)) (z := 0) (hs _ (by decide +kernel))
    | 4, _ => exact va_eqt (t := .elem (.static "PlayedBack" "ABOVE" "[I") (.int 4)) (z := 1) (hs _ (by decide +kernel))
    | 5, _ => exact va_eqt (t := .elem (.static "PlayedBack" "ABOVE" "[I") (.int 5)) (z := 2) (hs _ (by decide +kernel))
    | 6, _ => exact va_eqt (t := .elem (.static "PlayedBack" "ABOVE" "[I") (.int 6)) (z := 3) (hs _ (by decide +kernel))
    | j + 7, h => exact absurd h (by omega)
  obtain ⟨t, ht, hT⟩ := va_Tof (tm := .static "PlayedBack" "ABOVE" "[I") (N := 7) (ty := .int) (f := fun j => .int (exI xs 6 j)) (A := A) (by decide) (hs _ (by decide +kernel)) (va_eqt (z := 7) (hs _ (by decide +kernel))) hel hA
  exact ⟨t, va_Zof (hts _ (List.mem_of_getElem? (i := 479) (by decide +kernel))) (hts _ (List.mem_of_getElem? (i := 74) (by decide +kernel))) ht hA, hT⟩
theorem ex_wy (hs : ∀ w ∈ flatC (Jvm.Cond.and given_1 narrow_1), w.before #[Value.ref b] s = true) (hts : ∀ w ∈ lw_tbl, w.before #[Value.ref b] s = true) {A : Nat → Prop} (hA : ∀ a : Nat, a < s.heap.size → ¬ A a) : ∃ t : Nat, va_Z "PlayedBack$Choices" "WAYS" "[I" (.ref t) A s s.heap ∧ va_T .int t 8 (fun j => .int (exI xs 7 j)) A s s.heap := by
  have hel : ∀ j : Nat, j < 8 → (Term.elem (.static "PlayedBack$Choices" "WAYS" "[I") (.int (Int32.ofNat j))).eval #[Value.ref b] s none [] s = some (.int (exI xs 7 j)) := by
    intro j hj
    match j, hj with
    | 0, _ => exact va_eqt (t := .elem (.static "PlayedBack$Choices" "WAYS" "[I") (.int 0)) (z := 1) (hs _ (by decide +kernel))
    | 1, _ => exact va_eqt (t := .elem (.static "PlayedBack$Choices" "WAYS" "[I") (.int 1)) (z := 1) (hs _ (by decide +kernel))
    | 2, _ => exact va_eqt (t := .elem (.static "PlayedBack$Choices" "WAYS" "[I") (.int 2)) (z := 2) (hs _ (by decide +kernel))
    | 3, _ => exact va_eqt (t := .elem (.static "PlayedBack$Choices" "WAYS" "[I") (.int 3)) (z := 6) (hs _ (by decide +kernel))
    | 4, _ => exact va_eqt (t := .elem (.static "PlayedBack$Choices" "WAYS" "[I") (.int 4)) (z := 24) (hs _ (by decide +kernel))
    | 5, _ => exact va_eqt (t := .elem (.static "PlayedBack$Choices" "WAYS" "[I") (.int 5)) (z := 120) (hs _ (by decide +kernel))
    | 6, _ => exact va_eqt (t := .elem (.static "PlayedBack$Choices" "WAYS" "[I") (.int 6)) (z := 720) (hs _ (by decide +kernel))
    | 7, _ => exact va_eqt (t := .elem (.static "PlayedBack$Choices" "WAYS" "[I") (.int 7)) (z := 5040) (hs _ (by decide +kernel))
    | j + 8, h => exact absurd h (by omega)
  obtain ⟨t, ht, hT⟩ := va_Tof (tm := .static "PlayedBack$Choices" "WAYS" "[I") (N := 8) (ty := .int) (f := fun j => .int (exI xs 7 j)) (A := A) (by decide) (hs _ (by decide +kernel)) (va_eqt (z := 8) (hs _ (by decide +kernel))) hel hA
  exact ⟨t, va_Zof (hts _ (List.mem_of_getElem? (i := 885) (by decide +kernel))) (hts _ (List.mem_of_getElem? (i := 80) (by decide +kernel))) ht hA, hT⟩
theorem ex_bo (hs : ∀ w ∈ flatC (Jvm.Cond.and given_1 narrow_1), w.before #[Value.ref b] s = true) (hts : ∀ w ∈ lw_tbl, w.before #[Value.ref b] s = true) {A : Nat → Prop} (hA : ∀ a : Nat, a < s.heap.size → ¬ A a) : ∃ t : Nat, va_Z "PlayedBack$Voices" "BODIES" "[I" (.ref t) A s s.heap ∧ va_T .int t 28 (fun j => .int (exI xs 8 j)) A s s.heap := by
  have hel : ∀ j : Nat, j < 28 → (Term.elem (.static "PlayedBack$Voices" "BODIES" "[I") (.int (Int32.ofNat j))).eval #[Value.ref b] s none [] s = some (.int (exI xs 8 j)) := by
    intro j hj
    match j, hj with
    | 0, _ => exact va_eqt (t := .elem (.static "PlayedBack$Voices" "BODIES" "[I") (.int 0)) (z := 10) (hs _ (by decide +kernel))
    | 1, _ => exact va_eqt (t := .elem (.static "PlayedBack$Voices" "BODIES" "[I") (.int 1)) (z := 11) (hs _ (by decide +kernel))
    | 2, _ => exact va_eqt (t := .elem (.static "PlayedBack$Voices" "BODIES" "[I") (.int 2)) (z := 12) (hs _ (by decide +kernel))
    | 3, _ => exact va_eqt (t := .elem (.static "PlayedBack$Voices" "BODIES" "[I") (.int 3)) (z := 13) (hs _ (by decide +kernel))
    | 4, _ => exact va_eqt (t := .elem (.static "PlayedBack$Voices" "BODIES" "[I") (.int 4)) (z := 0) (hs _ (by decide +kernel))
    | 5, _ => exact va_eqt (t := .elem (.static "PlayedBack$Voices" "BODIES" "[I") (.int 5)) (z := 20) (hs _ (by decide +kernel))
    | 6, _ => exact va_eqt (t := .elem (.static "PlayedBack$Voices" "BODIES" "[I") (.int 6)) (z := 0) (hs _ (by decide +kernel))
    | 7, _ => exact va_eqt (t := .elem (.static "PlayedBack$Voices" "BODIES" "[I") (.int 7)) (z := 0) (hs _ (by decide +kernel))
    | 8, _ => exact va_eqt (t := .elem (.static "PlayedBack$Voices" "BODIES" "[I") (.int 8)) (z := 30) (hs _ (by decide +kernel))
    | 9, _ => exact va_eqt (t := .elem (.static "PlayedBack$Voices" "BODIES" "[I") (.int 9)) (z := 0) (hs _ (by decide +kernel))
    | 10, _ => exact va_eqt (t := .elem (.static "PlayedBack$Voices" "BODIES" "[I") (.int 10)) (z := 0) (hs _ (by decide +kernel))
    | 11, _ => exact va_eqt (t := .elem (.static "PlayedBack$Voices" "BODIES" "[I") (.int 11)) (z := 0) (hs _ (by decide +kernel))
    | 12, _ => exact va_eqt (t := .elem (.static "PlayedBack$Voices" "BODIES" "[I") (.int 12)) (z := 0) (hs _ (by decide +kernel))
    | 13, _ => exact va_eqt (t := .elem (.static "PlayedBack$Voices" "BODIES" "[I") (.int 13)) (z := 0) (hs _ (by decide +kernel))
    | 14, _ => exact va_eqt (t := .elem (.static "PlayedBack$Voices" "BODIES" "[I") (.int 14)) (z := 40) (hs _ (by decide +kernel))
    | 15, _ => exact va_eqt (t := .elem (.static "PlayedBack$Voices" "BODIES" "[I") (.int 15)) (z := 0) (hs _ (by decide +kernel))
    | 16, _ => exact va_eqt (t := .elem (.static "PlayedBack$Voices" "BODIES" "[I") (.int 16)) (z := 0) (hs _ (by decide +kernel))
    | 17, _ => exact va_eqt (t := .elem (.static "PlayedBack$Voices" "BODIES" "[I") (.int 17)) (z := 50) (hs _ (by decide +kernel))
    | 18, _ => exact va_eqt (t := .elem (.static "PlayedBack$Voices" "BODIES" "[I") (.int 18)) (z := 0) (hs _ (by decide +kernel))
    | 19, _ => exact va_eqt (t := .elem (.static "PlayedBack$Voices" "BODIES" "[I") (.int 19)) (z := 0) (hs _ (by decide +kernel))
    | 20, _ => exact va_eqt (t := .elem (.static "PlayedBack$Voices" "BODIES" "[I") (.int 20)) (z := 0) (hs _ (by decide +kernel))
    | 21, _ => exact va_eqt (t := .elem (.static "PlayedBack$Voices" "BODIES" "[I") (.int 21)) (z := 0) (hs _ (by decide +kernel))
    | 22, _ => exact va_eqt (t := .elem (.static "PlayedBack$Voices" "BODIES" "[I") (.int 22)) (z := 0) (hs _ (by decide +kernel))
    | 23, _ => exact va_eqt (t := .elem (.static "PlayedBack$Voices" "BODIES" "[I") (.int 23)) (z := 60) (hs _ (by decide +kernel))
    | 24, _ => exact va_eqt (t := .elem (.static "PlayedBack$Voices" "BODIES" "[I") (.int 24)) (z := 0) (hs _ (by decide +kernel))
    | 25, _ => exact va_eqt (t := .elem (.static "PlayedBack$Voices" "BODIES" "[I") (.int 25)) (z := 0) (hs _ (by decide +kernel))
    | 26, _ => exact va_eqt (t := .elem (.static "PlayedBack$Voices" "BODIES" "[I") (.int 26)) (z := 70) (hs _ (by decide +kernel))
    | 27, _ => exact va_eqt (t := .elem (.static "PlayedBack$Voices" "BODIES" "[I") (.int 27)) (z := 71) (hs _ (by decide +kernel))
    | j + 28, h => exact absurd h (by omega)
  obtain ⟨t, ht, hT⟩ := va_Tof (tm := .static "PlayedBack$Voices" "BODIES" "[I") (N := 28) (ty := .int) (f := fun j => .int (exI xs 8 j)) (A := A) (by decide) (hs _ (by decide +kernel)) (va_eqt (z := 28) (hs _ (by decide +kernel))) hel hA
  exact ⟨t, va_Zof (hts _ (List.mem_of_getElem? (i := 1000) (by decide +kernel))) (hts _ (List.mem_of_getElem? (i := 83) (by decide +kernel))) ht hA, hT⟩
theorem ex_st (hs : ∀ w ∈ flatC (Jvm.Cond.and given_1 narrow_1), w.before #[Value.ref b] s = true) {A : Nat → Prop} (hA : ∀ a : Nat, a < s.heap.size → ¬ A a) : ∃ adK adV : Nat → Nat, vk_S 3 [0, 3, 3] [[], tC1, tC2] adK adV A s s.heap ∧ ∀ i : Nat, i < 3 → (Term.string "PlayedBack$Reader" (tmK i)).eval #[Value.ref b] s none [] s = some (.ref (adK i)) := by
  refine vk_Sof (tm := fun i => Term.string "PlayedBack$Reader" (tmK i)) (fun i hi => ?_) (fun i hi => ?_) (fun i hi => ?_) (fun i hi => ?_) (fun i hi => ?_) (fun i hi j hj => ?_) (fun i j hi hj hne => ?_) hA
  · match i, hi with
    | 0, _ => decide
    | 1, _ => decide
    | 2, _ => decide
    | i + 3, h => exact absurd h (by omega)
  · match i, hi with
    | 0, _ => exact hs (Cond.exactly (.string "PlayedBack$Reader" 15) "java/lang/String") (by decide +kernel)
    | 1, _ => exact hs (Cond.exactly (.string "PlayedBack$Reader" 29) "java/lang/String") (by decide +kernel)
    | 2, _ => exact hs (Cond.exactly (.string "PlayedBack$Reader" 31) "java/lang/String") (by decide +kernel)
    | i + 3, h => exact absurd h (by omega)
  · match i, hi with
    | 0, _ => exact hs (Cond.eq (.field (.string "PlayedBack$Reader" 15) "java/lang/String" "coder" "B") (.int 0)) (by decide +kernel)
    | 1, _ => exact hs (Cond.eq (.field (.string "PlayedBack$Reader" 29) "java/lang/String" "coder" "B") (.int 0)) (by decide +kernel)
    | 2, _ => exact hs (Cond.eq (.field (.string "PlayedBack$Reader" 31) "java/lang/String" "coder" "B") (.int 0)) (by decide +kernel)
    | i + 3, h => exact absurd h (by omega)
  · match i, hi with
    | 0, _ => exact hs (Cond.arrayOf (.field (.string "PlayedBack$Reader" 15) "java/lang/String" "value" "[B") .byte) (by decide +kernel)
    | 1, _ => exact hs (Cond.arrayOf (.field (.string "PlayedBack$Reader" 29) "java/lang/String" "value" "[B") .byte) (by decide +kernel)
    | 2, _ => exact hs (Cond.arrayOf (.field (.string "PlayedBack$Reader" 31) "java/lang/String" "value" "[B") .byte) (by decide +kernel)
    | i + 3, h => exact absurd h (by omega)
  · match i, hi with
    | 0, _ => exact hs (Cond.eq (.length (.field (.string "PlayedBack$Reader" 15) "java/lang/String" "value" "[B")) (.int 0)) (by decide +kernel)
    | 1, _ => exact hs (Cond.eq (.length (.field (.string "PlayedBack$Reader" 29) "java/lang/String" "value" "[B")) (.int 3)) (by decide +kernel)
    | 2, _ => exact hs (Cond.eq (.length (.field (.string "PlayedBack$Reader" 31) "java/lang/String" "value" "[B")) (.int 3)) (by decide +kernel)
    | i + 3, h => exact absurd h (by omega)
  · match i, hi, j, hj with
    | 0, _, j, hj => exact absurd hj (Nat.not_lt_zero j)
    | 1, _, 0, _ => exact hs (Cond.eq (.elem (.field (.string "PlayedBack$Reader" 29) "java/lang/String" "value" "[B") (.int 0)) (.int 99)) (by decide +kernel)
    | 1, _, 1, _ => exact hs (Cond.eq (.elem (.field (.string "PlayedBack$Reader" 29) "java/lang/String" "value" "[B") (.int 1)) (.int 108)) (by decide +kernel)
    | 1, _, 2, _ => exact hs (Cond.eq (.elem (.field (.string "PlayedBack$Reader" 29) "java/lang/String" "value" "[B") (.int 2)) (.int 109)) (by decide +kernel)
    | 1, _, j + 3, h => exact absurd h (Nat.not_lt.mpr (Nat.le_add_left 3 j))
    | 2, _, 0, _ => exact hs (Cond.eq (.elem (.field (.string "PlayedBack$Reader" 31) "java/lang/String" "value" "[B") (.int 0)) (.int 103)) (by decide +kernel)
    | 2, _, 1, _ => exact hs (Cond.eq (.elem (.field (.string "PlayedBack$Reader" 31) "java/lang/String" "value" "[B") (.int 1)) (.int 104)) (by decide +kernel)
    | 2, _, 2, _ => exact hs (Cond.eq (.elem (.field (.string "PlayedBack$Reader" 31) "java/lang/String" "value" "[B") (.int 2)) (.int 114)) (by decide +kernel)
    | 2, _, j + 3, h => exact absurd h (Nat.not_lt.mpr (Nat.le_add_left 3 j))
    | i + 3, h, _, _ => exact absurd h (by omega)
  · match i, hi, j, hj with
    | 0, _, 0, _ => exact absurd rfl hne
    | 0, _, 1, _ => exact Or.inl (hs (Cond.not (Cond.eq (.string "PlayedBack$Reader" 15) (.string "PlayedBack$Reader" 29))) (by decide +kernel))
    | 0, _, 2, _ => exact Or.inl (hs (Cond.not (Cond.eq (.string "PlayedBack$Reader" 15) (.string "PlayedBack$Reader" 31))) (by decide +kernel))
    | 1, _, 0, _ => exact Or.inr (hs (Cond.not (Cond.eq (.string "PlayedBack$Reader" 15) (.string "PlayedBack$Reader" 29))) (by decide +kernel))
    | 1, _, 1, _ => exact absurd rfl hne
    | 1, _, 2, _ => exact Or.inl (hs (Cond.not (Cond.eq (.string "PlayedBack$Reader" 29) (.string "PlayedBack$Reader" 31))) (by decide +kernel))
    | 2, _, 0, _ => exact Or.inr (hs (Cond.not (Cond.eq (.string "PlayedBack$Reader" 15) (.string "PlayedBack$Reader" 31))) (by decide +kernel))
    | 2, _, 1, _ => exact Or.inr (hs (Cond.not (Cond.eq (.string "PlayedBack$Reader" 29) (.string "PlayedBack$Reader" 31))) (by decide +kernel))
    | 2, _, 2, _ => exact absurd rfl hne
    | i + 3, h, _, _ => exact absurd h (by omega)
    | 0, _, j + 3, h => exact absurd h (by omega)
    | 1, _, j + 3, h => exact absurd h (by omega)
    | 2, _, j + 3, h => exact absurd h (by omega)
/-- all of it -/
theorem ex_all (hts : ∀ w ∈ lw_tbl, w.before #[Value.ref b] s = true) (hXX : va_X b L xs s s.heap) (hbl : b < s.heap.size) (hgv : (Jvm.Cond.and given_1 narrow_1).before #[Value.ref b] s = true) :
    ∃ X : pX, X.2.2.2.1 9 = b ∧ X.2.2.2.2 = s.heap.size ∧ va_K (aG X) vwCl (aT X) s ∧ aX X (h_0 L xs) s s.heap := by
  have hs := flat_of_before _ hgv
  obtain ⟨dC, dI, cA, hK⟩ := ex_K hts
  have hA : ∀ a : Nat, a < s.heap.size → ¬ (fun q : Nat => s.heap.size ≤ q) a := fun a h => Nat.not_le.mpr h
  obtain ⟨t6, z6, a6⟩ := ex_ab (xs := xs) hs hts hA
  obtain ⟨t7, z7, a7⟩ := ex_wy (xs := xs) hs hts hA
  obtain ⟨t8, z8, a8⟩ := ex_bo (xs := xs) hs hts hA
  obtain ⟨adK, adV, hS, hev⟩ := ex_st hs hA
  have z9 : va_Z "java/lang/String" "COMPACT_STRINGS" "Z" (.int 1) (fun q : Nat => s.heap.size ≤ q) s s.heap := va_Zof (hts _ (List.mem_of_getElem? (i := 693) (by decide +kernel))) (hts _ (List.mem_of_getElem? (i := 87) (by decide +kernel))) (va_eqi (hs _ (by decide +kernel))) hA
  have a9 : va_T .int b L (fun j => .int (exI xs 9 j)) (fun q : Nat => s.heap.size ≤ q) s s.heap := by
    obtain ⟨scr, g1, g2, g3, g4, g5⟩ := hXX
    exact ⟨scr, g1, g2, g3, by omega, by rw [g4], g5, hA b hbl⟩
  refine ⟨(dC, dI, cA, fun i => if i < 3 then adK i else if i < 6 then adV (i - 3) else if i = 6 then t6 else if i = 7 then t7 else if i = 8 then t8 else b, s.heap.size), rfl, rfl, hK _ _, ?_⟩
  refine ⟨fun i hi => ?_, fun i hi hj => ?_, fun j hj => ?_, z9, fun q hq => ?_, fun q hq => ?_, ?_, ?_⟩
  · match i, hi with
    | 0, hi => exact ⟨rfl, rfl, rfl, (hS.1 0 hi).1, (hS.1 0 hi).2.1, (hS.1 0 hi).2.2.1⟩
    | 1, hi => exact ⟨rfl, rfl, rfl, (hS.1 1 hi).1, (hS.1 1 hi).2.1, (hS.1 1 hi).2.2.1⟩
    | 2, hi => exact ⟨rfl, rfl, rfl, (hS.1 2 hi).1, (hS.1 2 hi).2.1, (hS.1 2 hi).2.2.1⟩
    | i + 3, h => exact absurd h (by omega)
  · have hj : i < 10 := hj
    match i, hi, hj with
    | 3, _, _ => exact ⟨1, 0, rfl, Or.inl ⟨rfl, (hS.1 0 (by decide)).2.2.2⟩⟩
    | 4, _, _ => exact ⟨1, 3, rfl, Or.inl ⟨rfl, (hS.1 1 (by decide)).2.2.2⟩⟩
    | 5, _, _ => exact ⟨1, 3, rfl, Or.inl ⟨rfl, (hS.1 2 (by decide)).2.2.2⟩⟩
    | 6, _, _ => exact ⟨0, 7, rfl, Or.inr ⟨rfl, a6⟩⟩
    | 7, _, _ => exact ⟨0, 8, rfl, Or.inr ⟨rfl, a7⟩⟩
    | 8, _, _ => exact ⟨0, 28, rfl, Or.inr ⟨rfl, a8⟩⟩
    | 9, _, _ => exact ⟨0, L, rfl, Or.inr ⟨rfl, a9⟩⟩
    | i + 10, _, h => exact absurd h (by omega)
    | 0, h, _ => exact absurd h (by omega)
    | 1, h, _ => exact absurd h (by omega)
    | 2, h, _ => exact absurd h (by omega)
  · match j, hj with
    | 0, _ => exact z6
    | 1, _ => exact z7
    | 2, _ => exact z8
    | j + 3, h => exact absurd h (by omega)
  · have hw := hts _ (SR_in q hq)
    have hall : ∀ q ∈ SRk, q.1 = 3 ∧ q.2.2 < 3 ∧ q.2.1 = tmK q.2.2 := by decide +kernel
    obtain ⟨k1, k2, k3⟩ := hall q hq
    have he := hev q.2.2 k2
    rw [← k3] at he
    have e2 : cNm q.1 = "PlayedBack$Reader" := by rw [k1]; rfl
    rw [← e2] at he
    refine vk_R.of hw ?_
    rw [he]
    show some (Value.ref (adK q.2.2)) = some (Value.ref (if q.2.2 < 3 then adK q.2.2 else _))
    rw [if_pos k2]
  · exact va_Nw.of rfl (hts _ (NL_in q hq))
  · exact va_AO.of (A := #[Value.ref b]) (hts _ (List.mem_of_getElem? (i := 108) (by decide +kernel)))
  · exact va_AO.of (A := #[Value.ref b]) (hts _ (List.mem_of_getElem? (i := 338) (by decide +kernel)))
end EXT
end
section
/-! a run that can't touch cell 9 is the same, whatever cell 9 holds -/
def phi (N : Nat) (xs : Nat → Int32) (h : pH) : pH := (h.1, va_up h.2.1 9 (.inr (0, N)), h.2.2.1, va_up h.2.2.2 9 xs)
def nin (h : pH) : Prop := h.2.1 9 = .inr (9, 0) ∧ pU h
def phR (N : Nat) (xs : Nat → Int32) : pR → pR
  | .inl (pc, L, st, h) => .inl (pc, L, st, phi N xs h)
  | .inr (v, h) => .inr (v, phi N xs h)
section PHI
variable {N : Nat} {xs : Nat → Int32} {cf : Nat → List Value → pH → Option (Option Value × pH)} {k pc n : Nat} {x : Int} {ps : List (Int × Nat)} {L st : List Value} {h : pH} {r : pR}
theorem ph_ne {a : Nat} {s : pSh} (hp : nin h) (hs : h.2.1 a = s) (hn : s ≠ .inr (9, 0)) : a ≠ 9 := fun e => by
  rw [e, hp.1] at hs
  exact hn hs.symm
theorem ph_s {a : Nat} (ha : a ≠ 9) : (phi N xs h).2.1 a = h.2.1 a := up_n ha
theorem ph_i {a : Nat} (ha : a ≠ 9) : (phi N xs h).2.2.2 a = h.2.2.2 a := up_n ha
theorem ph_fv {a ci q : Nat} (ha : a ≠ 9) : fv (phi N xs h) a ci q = fv h a ci q := by
  simp only [fv, ph_i ha]
  rfl
theorem ph_pi {a : Nat} {g : Nat → Int32} (ha : a ≠ 9) : phi N xs (h.1, h.2.1, h.2.2.1, va_up h.2.2.2 a g) = ((phi N xs h).1, (phi N xs h).2.1, (phi N xs h).2.2.1, va_up (phi N xs h).2.2.2 a g) := by
  refine Prod.ext rfl (Prod.ext rfl (Prod.ext rfl (funext fun b => ?_)))
  show va_up (va_up h.2.2.2 a g) 9 xs b = va_up (va_up h.2.2.2 9 xs) a g b
  by_cases hb : b = 9
  · subst hb
    rw [up_s, up_n (Ne.symm ha), up_s]
  · by_cases hb2 : b = a
    · subst hb2
      rw [up_n hb, up_s, up_s]
    · rw [up_n hb, up_n hb2, up_n hb2, up_n hb]
theorem ph_al {s : pSh} {sl : Nat} (hp : nin h) : phi N xs (pAl h s sl) = pAl (phi N xs h) s sl := by
  have hu := hp.2.1
  have hz : nX = 10 := rfl
  have h9 : h.1.1 ≠ 9 := by omega
  show (_, _, _, _) = (_, _, _, _)
  congr 1
  congr 1
  · funext b
    show va_up (va_up h.2.1 h.1.1 s) 9 (.inr (0, N)) b = va_up (va_up h.2.1 9 (.inr (0, N))) h.1.1 s b
    by_cases hb : b = 9
    · subst hb; rw [up_s, up_n (Ne.symm h9), up_s]
    · by_cases hb2 : b = h.1.1
      · rw [hb2, up_n h9, up_s, up_s]
      · rw [up_n hb, up_n hb2, up_n hb2, up_n hb]
  · congr 1
    funext b
    show va_up (va_up h.2.2.2 h.1.1 (fun _ => 0)) 9 xs b = va_up (va_up h.2.2.2 9 xs) h.1.1 (fun _ => 0) b
    by_cases hb : b = 9
    · subst hb; rw [up_s, up_n (Ne.symm h9), up_s]
    · by_cases hb2 : b = h.1.1
      · rw [hb2, up_n h9, up_s, up_s]
      · rw [up_n hb, up_n hb2, up_n hb2, up_n hb]
theorem ph_do {mm : Nat} (hcf : ∀ mm as hh v hh', cf mm as hh = some (v, hh') → nin hh → cf mm as (phi N xs hh) = some (v, phi N xs hh')) (hp : nin h) (hs : doC cf mm pc L st h = some r) : doC cf mm pc L st (phi N xs h) = some (phR N xs r) := by
  unfold doC at hs ⊢
  split at hs
  · cases hs
  · rename_i hl
    rw [if_neg hl]
    split at hs
    · rename_i v h' hc
      cases hs
      rw [hcf _ _ _ _ _ hc hp]
      rfl
    · cases hs
theorem ph_iso {mm : Nat} {as : List Value} (hp : nin h) (hs : isO mm as h = true) : isO mm as (phi N xs h) = true := by
  unfold isO at hs ⊢
  split at hs
  · simp only [decide_eq_true_eq] at hs ⊢
    rw [ph_s (ph_ne hp hs (fun q => by cases q))]
    exact hs
  · cases hs
set_option maxHeartbeats 8000000 in
theorem phi_stp (hcf : ∀ mm as hh v hh', cf mm as hh = some (v, hh') → nin hh → cf mm as (phi N xs hh) = some (v, phi N xs hh')) {i : Instr} (hp : nin h) (hs : stp cf k pc (i, x, ps) L st h = some r) : stp cf k pc (i, x, ps) L st (phi N xs h) = some (phR N xs r) := by
  cases i
  case iconst c => simp only [stp] at hs ⊢; cases hs; rfl
  case bipush c => simp only [stp] at hs ⊢; cases hs; rfl
  case sipush c => simp only [stp] at hs ⊢; cases hs; rfl
  case lconst c => simp only [stp] at hs ⊢; cases hs; rfl
  case ldc c => simp only [stp] at hs ⊢; (repeat' split at hs) <;> first | (cases hs; done) | (cases hs; rfl) | (cases hs; simp only [*, and_self, if_true, if_false]; rfl) | (cases hs; simp_all [phR])
  case ldc_w c => simp only [stp] at hs ⊢; cases hs; rfl
  case ldc2_w c => simp only [stp] at hs ⊢; cases hs; rfl
  case iload c => simp only [stp] at hs ⊢; (repeat' split at hs) <;> first | (cases hs; done) | (cases hs; rfl) | (cases hs; simp only [*, and_self, if_true, if_false]; rfl) | (cases hs; simp_all [phR])
  case iload_n c => simp only [stp] at hs ⊢; (repeat' split at hs) <;> first | (cases hs; done) | (cases hs; rfl) | (cases hs; simp only [*, and_self, if_true, if_false]; rfl) | (cases hs; simp_all [phR])
  case aload c => simp only [stp] at hs ⊢; (repeat' split at hs) <;> first | (cases hs; done) | (cases hs; rfl) | (cases hs; simp only [*, and_self, if_true, if_false]; rfl) | (cases hs; simp_all [phR])
  case aload_n c => simp only [stp] at hs ⊢; (repeat' split at hs) <;> first | (cases hs; done) | (cases hs; rfl) | (cases hs; simp only [*, and_self, if_true, if_false]; rfl) | (cases hs; simp_all [phR])
  case lload c => simp only [stp] at hs ⊢; (repeat' split at hs) <;> first | (cases hs; done) | (cases hs; rfl) | (cases hs; simp only [*, and_self, if_true, if_false]; rfl) | (cases hs; simp_all [phR])
  case lload_n c => simp only [stp] at hs ⊢; (repeat' split at hs) <;> first | (cases hs; done) | (cases hs; rfl) | (cases hs; simp only [*, and_self, if_true, if_false]; rfl) | (cases hs; simp_all [phR])
  case istore c => simp only [stp] at hs ⊢; (repeat' split at hs) <;> first | (cases hs; done) | (cases hs; rfl) | (cases hs; simp only [*, and_self, if_true, if_false]; rfl) | (cases hs; simp_all [phR])
  case istore_n c => simp only [stp] at hs ⊢; (repeat' split at hs) <;> first | (cases hs; done) | (cases hs; rfl) | (cases hs; simp only [*, and_self, if_true, if_false]; rfl) | (cases hs; simp_all [phR])
  case astore c => simp only [stp] at hs ⊢; (repeat' split at hs) <;> first | (cases hs; done) | (cases hs; rfl) | (cases hs; simp only [*, and_self, if_true, if_false]; rfl) | (cases hs; simp_all [phR])
  case astore_n c => simp only [stp] at hs ⊢; (repeat' split at hs) <;> first | (cases hs; done) | (cases hs; rfl) | (cases hs; simp only [*, and_self, if_true, if_false]; rfl) | (cases hs; simp_all [phR])
  case iinc c1 c2 => simp only [stp] at hs ⊢; (repeat' split at hs) <;> first | (cases hs; done) | (cases hs; rfl) | (cases hs; simp only [*, and_self, if_true, if_false]; rfl) | (cases hs; simp_all [phR])
  case iadd  => simp only [stp] at hs ⊢; (repeat' split at hs) <;> first | (cases hs; done) | (cases hs; rfl) | (cases hs; simp only [*, and_self, if_true, if_false]; rfl) | (cases hs; simp_all [phR])
  case isub  => simp only [stp] at hs ⊢; (repeat' split at hs) <;> first | (cases hs; done) | (cases hs; rfl) | (cases hs; simp only [*, and_self, if_true, if_false]; rfl) | (cases hs; simp_all [phR])
  case imul  => simp only [stp] at hs ⊢; (repeat' split at hs) <;> first | (cases hs; done) | (cases hs; rfl) | (cases hs; simp only [*, and_self, if_true, if_false]; rfl) | (cases hs; simp_all [phR])
  case idiv  => simp only [stp] at hs ⊢; (repeat' split at hs) <;> first | (cases hs; done) | (cases hs; rfl) | (cases hs; simp only [*, and_self, if_true, if_false]; rfl) | (cases hs; simp_all [phR])
  case irem  => simp only [stp] at hs ⊢; (repeat' split at hs) <;> first | (cases hs; done) | (cases hs; rfl) | (cases hs; simp only [*, and_self, if_true, if_false]; rfl) | (cases hs; simp_all [phR])
  case ineg  => simp only [stp] at hs ⊢; (repeat' split at hs) <;> first | (cases hs; done) | (cases hs; rfl) | (cases hs; simp only [*, and_self, if_true, if_false]; rfl) | (cases hs; simp_all [phR])
  case iand  => simp only [stp] at hs ⊢; (repeat' split at hs) <;> first | (cases hs; done) | (cases hs; rfl) | (cases hs; simp only [*, and_self, if_true, if_false]; rfl) | (cases hs; simp_all [phR])
  case ior  => simp only [stp] at hs ⊢; (repeat' split at hs) <;> first | (cases hs; done) | (cases hs; rfl) | (cases hs; simp only [*, and_self, if_true, if_false]; rfl) | (cases hs; simp_all [phR])
  case ixor  => simp only [stp] at hs ⊢; (repeat' split at hs) <;> first | (cases hs; done) | (cases hs; rfl) | (cases hs; simp only [*, and_self, if_true, if_false]; rfl) | (cases hs; simp_all [phR])
  case ishl  => simp only [stp] at hs ⊢; (repeat' split at hs) <;> first | (cases hs; done) | (cases hs; rfl) | (cases hs; simp only [*, and_self, if_true, if_false]; rfl) | (cases hs; simp_all [phR])
  case ishr  => simp only [stp] at hs ⊢; (repeat' split at hs) <;> first | (cases hs; done) | (cases hs; rfl) | (cases hs; simp only [*, and_self, if_true, if_false]; rfl) | (cases hs; simp_all [phR])
  case iushr  => simp only [stp] at hs ⊢; (repeat' split at hs) <;> first | (cases hs; done) | (cases hs; rfl) | (cases hs; simp only [*, and_self, if_true, if_false]; rfl) | (cases hs; simp_all [phR])
  case i2l  => simp only [stp] at hs ⊢; (repeat' split at hs) <;> first | (cases hs; done) | (cases hs; rfl) | (cases hs; simp only [*, and_self, if_true, if_false]; rfl) | (cases hs; simp_all [phR])
  case l2i  => simp only [stp] at hs ⊢; (repeat' split at hs) <;> first | (cases hs; done) | (cases hs; rfl) | (cases hs; simp only [*, and_self, if_true, if_false]; rfl) | (cases hs; simp_all [phR])
  case i2b  => simp only [stp] at hs ⊢; (repeat' split at hs) <;> first | (cases hs; done) | (cases hs; rfl) | (cases hs; simp only [*, and_self, if_true, if_false]; rfl) | (cases hs; simp_all [phR])
  case i2s  => simp only [stp] at hs ⊢; (repeat' split at hs) <;> first | (cases hs; done) | (cases hs; rfl) | (cases hs; simp only [*, and_self, if_true, if_false]; rfl) | (cases hs; simp_all [phR])
  case i2c  => simp only [stp] at hs ⊢; (repeat' split at hs) <;> first | (cases hs; done) | (cases hs; rfl) | (cases hs; simp only [*, and_self, if_true, if_false]; rfl) | (cases hs; simp_all [phR])
  case land  => simp only [stp] at hs ⊢; (repeat' split at hs) <;> first | (cases hs; done) | (cases hs; rfl) | (cases hs; simp only [*, and_self, if_true, if_false]; rfl) | (cases hs; simp_all [phR])
  case lor  => simp only [stp] at hs ⊢; (repeat' split at hs) <;> first | (cases hs; done) | (cases hs; rfl) | (cases hs; simp only [*, and_self, if_true, if_false]; rfl) | (cases hs; simp_all [phR])
  case lshl  => simp only [stp] at hs ⊢; (repeat' split at hs) <;> first | (cases hs; done) | (cases hs; rfl) | (cases hs; simp only [*, and_self, if_true, if_false]; rfl) | (cases hs; simp_all [phR])
  case lshr  => simp only [stp] at hs ⊢; (repeat' split at hs) <;> first | (cases hs; done) | (cases hs; rfl) | (cases hs; simp only [*, and_self, if_true, if_false]; rfl) | (cases hs; simp_all [phR])
  case lushr  => simp only [stp] at hs ⊢; (repeat' split at hs) <;> first | (cases hs; done) | (cases hs; rfl) | (cases hs; simp only [*, and_self, if_true, if_false]; rfl) | (cases hs; simp_all [phR])
  case lcmp  => simp only [stp] at hs ⊢; (repeat' split at hs) <;> first | (cases hs; done) | (cases hs; rfl) | (cases hs; simp only [*, and_self, if_true, if_false]; rfl) | (cases hs; simp_all [phR])
  case dup  => simp only [stp] at hs ⊢; (repeat' split at hs) <;> first | (cases hs; done) | (cases hs; rfl) | (cases hs; simp only [*, and_self, if_true, if_false]; rfl) | (cases hs; simp_all [phR])
  case dup2  => simp only [stp] at hs ⊢; (repeat' split at hs) <;> first | (cases hs; done) | (cases hs; rfl) | (cases hs; simp only [*, and_self, if_true, if_false]; rfl) | (cases hs; simp_all [phR])
  case pop  => simp only [stp] at hs ⊢; (repeat' split at hs) <;> first | (cases hs; done) | (cases hs; rfl) | (cases hs; simp only [*, and_self, if_true, if_false]; rfl) | (cases hs; simp_all [phR])
  case goto c => simp only [stp] at hs ⊢; cases hs; rfl
  case if_icmp c1 c2 => simp only [stp] at hs ⊢; (repeat' split at hs) <;> first | (cases hs; done) | (cases hs; rfl) | (cases hs; simp only [*, and_self, if_true, if_false]; rfl) | (cases hs; simp_all [phR])
  case ifCond c1 c2 => simp only [stp] at hs ⊢; (repeat' split at hs) <;> first | (cases hs; done) | (cases hs; rfl) | (cases hs; simp only [*, and_self, if_true, if_false]; rfl) | (cases hs; simp_all [phR])
  case tableswitch c1 c2 c3 c4 => simp only [stp] at hs ⊢; (repeat' split at hs) <;> first | (cases hs; done) | (cases hs; rfl) | (cases hs; simp only [*, and_self, if_true, if_false]; rfl) | (cases hs; simp_all [phR])
  case lookupswitch c1 c2 => simp only [stp] at hs ⊢; (repeat' split at hs) <;> first | (cases hs; done) | (cases hs; rfl) | (cases hs; simp only [*, and_self, if_true, if_false]; rfl) | (cases hs; simp_all [phR])
  case getstatic c => simp only [stp] at hs ⊢; cases hs; rfl
  case ireturn  => simp only [stp] at hs ⊢; (repeat' split at hs) <;> first | (cases hs; done) | (cases hs; rfl) | (cases hs; simp only [*, and_self, if_true, if_false]; rfl) | (cases hs; simp_all [phR])
  case areturn  => simp only [stp] at hs ⊢; (repeat' split at hs) <;> first | (cases hs; done) | (cases hs; rfl) | (cases hs; simp only [*, and_self, if_true, if_false]; rfl) | (cases hs; simp_all [phR])
  case return_  => simp only [stp] at hs ⊢; (repeat' split at hs) <;> first | (cases hs; done) | (cases hs; rfl) | (cases hs; simp only [*, and_self, if_true, if_false]; rfl) | (cases hs; simp_all [phR])
  case getfield j =>
    simp only [stp] at hs ⊢
    split at hs
    · rename_i b r
      split at hs
      · rename_i hc
        have ha := ph_ne hp hc.1 (fun q => by cases q)
        cases hs
        simp only [ph_s ha, ph_fv ha]
        rw [if_pos hc]
        rfl
      · cases hs
    · cases hs
  case putfield j =>
    simp only [stp] at hs ⊢
    split at hs
    · rename_i v b r
      split at hs
      · rename_i hc
        have ha := ph_ne hp hc.1 (fun q => by cases q)
        cases hs
        simp only [ph_s ha]
        rw [if_pos hc]
        simp only [phR, uI, ph_pi ha, ph_i ha]
      · cases hs
    · rename_i v b r
      split at hs
      · rename_i hc
        have ha := ph_ne hp hc.1 (fun q => by cases q)
        cases hs
        simp only [ph_s ha]
        rw [if_pos hc]
        rfl
      · cases hs
    · cases hs
  case arraylength =>
    simp only [stp] at hs ⊢
    split at hs
    · split at hs
      · rename_i t nn hsh
        split at hs
        · rename_i ht
          have ha := ph_ne hp hsh (fun q => by cases q; omega)
          cases hs
          simp only [ph_s ha, hsh]
          rw [if_pos ht]
          rfl
        · cases hs
      · cases hs
    · cases hs

  case iaload =>
    simp only [stp] at hs ⊢
    split at hs
    · split at hs
      · rename_i nn hsh
        split at hs
        · rename_i hc
          have ha := ph_ne hp hsh (fun q => by cases q)
          cases hs
          simp only [ph_s ha, hsh, ph_i ha]
          rw [if_pos hc]
          rfl
        · cases hs
      · cases hs
    · cases hs
  case baload =>
    simp only [stp] at hs ⊢
    split at hs
    · split at hs
      · rename_i nn hsh
        split at hs
        · rename_i hc
          have ha := ph_ne hp hsh (fun q => by cases q)
          cases hs
          simp only [ph_s ha, hsh, ph_i ha]
          rw [if_pos hc]
          rfl
        · cases hs
      · cases hs
    · cases hs
  case aaload =>
    simp only [stp] at hs ⊢
    split at hs
    · split at hs
      · rename_i t nn hsh
        split at hs
        · rename_i hc
          have ha := ph_ne hp hsh (fun q => by cases q; have := hc.1; omega)
          cases hs
          simp only [ph_s ha, hsh]
          rw [if_pos hc]
          rfl
        · cases hs
      · cases hs
    · cases hs
  case iastore =>
    simp only [stp] at hs ⊢
    split at hs
    · split at hs
      · rename_i nn hsh
        split at hs
        · rename_i hc
          have ha := ph_ne hp hsh (fun q => by cases q)
          cases hs
          simp only [ph_s ha, hsh]
          rw [if_pos hc]
          simp only [phR, uI, ph_pi ha, ph_i ha]
        · cases hs
      · cases hs
    · cases hs
  case aastore =>
    simp only [stp] at hs ⊢
    split at hs
    · split at hs
      · rename_i t nn hsh
        split at hs
        · rename_i hc
          have ha := ph_ne hp hsh (fun q => by cases q; have := hc.1; omega)
          have hv : (phi N xs h).2.1 _ = h.2.1 _ := ph_s (by
            rcases hc.1 with ⟨-, q⟩ | ⟨-, q⟩
            · exact ph_ne hp q (fun z => by cases z)
            · exact ph_ne hp q (fun z => by cases z))
          cases hs
          simp only [ph_s ha, hsh, hv]
          rw [if_pos hc]
          rfl
        · cases hs
      · cases hs
    · cases hs
  case new j =>
    simp only [stp] at hs ⊢
    cases hs
    simp only [phR, ph_al hp]
    rfl
  case newarray t =>
    simp only [stp] at hs ⊢
    split at hs
    · split at hs
      · rename_i hc
        cases hs
        rw [if_pos hc]
        simp only [phR, ph_al hp]
        rfl
      · cases hs
    · cases hs
  case anewarray j =>
    simp only [stp] at hs ⊢
    split at hs
    · split at hs
      · rename_i hc
        cases hs
        rw [if_pos hc]
        simp only [phR, ph_al hp]
        rfl
      · cases hs
    · cases hs
  case invokevirtual j =>
    simp only [stp] at hs ⊢
    split at hs
    · rename_i hc
      rw [if_pos ⟨hc.1, ph_iso hp hc.2⟩]
      exact ph_do hcf hp hs
    · cases hs
  case invokespecial j =>
    simp only [stp] at hs ⊢
    split at hs
    · rename_i hc
      rw [if_pos hc]
      exact ph_do hcf hp hs
    · rename_i hc
      rw [if_neg hc]
      split at hs
      · rename_i hc1
        rw [if_pos hc1]
        split at hs
        · split at hs
          · rename_i hc2
            cases hs
            rw [if_pos hc2]
            rfl
          · cases hs
        · cases hs
      · cases hs
  case invokestatic j =>
    simp only [stp] at hs ⊢
    split at hs
    · rename_i hc
      rw [if_pos hc]
      exact ph_do hcf hp hs
    · rename_i hc
      rw [if_neg hc]
      split at hs
      · rename_i hc1
        rw [if_pos hc1]
        split at hs
        · split at hs
          · rename_i na nb hsa hsb
            split at hs
            · rename_i hc2
              have ha := ph_ne hp hsa (fun q => by cases q)
              have hb := ph_ne hp hsb (fun q => by cases q)
              cases hs
              simp only [ph_s ha, ph_s hb, hsa, hsb]
              rw [if_pos hc2]
              simp only [phR, ph_pi hb, ph_i ha, ph_i hb]
            · cases hs
          · cases hs
        · cases hs
      · rename_i hc1
        rw [if_neg hc1]
        split at hs
        · rename_i hc3
          rw [if_pos hc3]
          split at hs
          · split at hs
            · rename_i hc2
              cases hs
              rw [if_pos hc2]
              rfl
            · cases hs
          · cases hs
        · rename_i hc3
          rw [if_neg hc3]
          split at hs
          · rename_i hc4
            rw [if_pos hc4]
            split at hs
            · split at hs
              · rename_i hc2
                cases hs
                rw [if_pos hc2]
                rfl
              · cases hs
            · cases hs
          · cases hs
  all_goals (simp only [stp] at hs; cases hs)
theorem nin_of {h' : pH} (hp : nin h) (hl : pLe h h') : nin h' := ⟨(hl.2.1 9 (by decide)).1.trans hp.1, hl.1⟩
theorem phi_run (hk : k < 257) (hcp : ∀ mm as hh v hh', cf mm as hh = some (v, hh') → pU hh → pLe hh hh') (hcf : ∀ mm as hh v hh', cf mm as hh = some (v, hh') → nin hh → cf mm as (phi N xs hh) = some (v, phi N xs hh')) : ∀ (n : Nat) (pc : Nat) (L st : List Value) (h : pH) (v : Option Value) (hf : pH), run cf k n (pc, L, st, h) = some (v, hf) → nin h → run cf k n (pc, L, st, phi N xs h) = some (v, phi N xs hf) := by
  intro n
  induction n with
  | zero => intro pc L st h v hf hr _; cases hr
  | succ n ih =>
    intro pc L st h v hf hr hp
    unfold run at hr ⊢
    simp only at hr ⊢
    split at hr
    · cases hr
    · rename_i e he
      obtain ⟨nn, -, hok⟩ := chk_spec (pEnt_chk hk he)
      split at hr
      · cases hr
      · rename_i c' hs
        obtain ⟨pc', L', st', h'⟩ := c'
        have h1 := phi_stp (N := N) (xs := xs) hcf hp hs
        have h2 := stp_pure hcp hok hs hp.2
        simp only [he, h1, phR]
        exact ih pc' L' st' h' v hf hr (nin_of hp h2)
      · rename_i r hs
        obtain ⟨v', h'⟩ := r
        have h1 := phi_stp (N := N) (xs := xs) hcf hp hs
        cases hr
        simp only [he, h1, phR]
end PHI
theorem phi_evM {N : Nat} {xs : Nat → Int32} : ∀ (d n mm : Nat) (as : List Value) (h : pH) (v : Option Value) (h' : pH), evM d n mm as h = some (v, h') → nin h → evM d n mm as (phi N xs h) = some (v, phi N xs h') := by
  intro d
  induction d with
  | zero => intro n mm as h v h' he; cases he
  | succ d ih =>
    intro n mm as h v h' he hp
    unfold evM at he ⊢
    split at he
    · rename_i hc
      rw [if_pos hc]
      exact phi_run (Nat.lt_succ_of_lt hc.2) (fun mm as hh v hh' q hu => evM_pure d n mm as hh v hh' q hu) (fun mm as hh v hh' q hn => ih n mm as hh v hh' q hn) n _ _ _ _ _ _ he hp
    · cases he
/-- the heap at the entry, but cell 9 -/
def h_b : pH := ((10, 0), fun i => if i = 9 then .inr (9, 0) else exS 0 i, exR, exI (fun _ => 0))
theorem h_bphi {N : Nat} {xs : Nat → Int32} : phi N xs h_b = h_0 N xs := by
  show (_, _, _, _) = (_, _, _, _)
  congr 1
  congr 1
  · funext i
    show va_up (fun i => if i = 9 then Sum.inr (9, 0) else exS 0 i) 9 (.inr (0, N)) i = exS N i
    by_cases hi : i = 9
    · subst hi; rw [up_s]; rfl
    · rw [up_n hi, if_neg hi]
      match i, hi with
      | 0, _ => rfl
      | 1, _ => rfl
      | 2, _ => rfl
      | 3, _ => rfl
      | 4, _ => rfl
      | 5, _ => rfl
      | 6, _ => rfl
      | 7, _ => rfl
      | 8, _ => rfl
      | 9, h => exact absurd rfl h
      | j + 10, _ => rfl
  · congr 1
    funext i
    show va_up (exI (fun _ => 0)) 9 xs i = exI xs i
    by_cases hi : i = 9
    · subst hi; rw [up_s]; rfl
    · rw [up_n hi]
      match i, hi with
      | 0, _ => rfl
      | 1, _ => rfl
      | 2, _ => rfl
      | 3, _ => rfl
      | 4, _ => rfl
      | 5, _ => rfl
      | 6, _ => rfl
      | 7, _ => rfl
      | 8, _ => rfl
      | 9, h => exact absurd rfl h
      | j + 10, _ => rfl
theorem h_bnin : nin h_b := by
  refine ⟨rfl, Nat.le_refl 10, fun i hi => ?_, fun i hi ci hs => ?_, fun i hi t nn hs => ?_⟩
  · have hi : 10 ≤ i := hi
    obtain ⟨j, rfl⟩ : ∃ j, i = j + 10 := ⟨i - 10, by omega⟩
    rfl
  · have hi : 10 ≤ i := hi
    obtain ⟨j, rfl⟩ : ∃ j, i = j + 10 := ⟨i - 10, by omega⟩
    cases hs
  · have hi : 10 ≤ i := hi
    obtain ⟨j, rfl⟩ : ∃ j, i = j + 10 := ⟨i - 10, by omega⟩
    cases hs
    decide
/-- the two objects, made -/
def kPB : Nat := 95
def kPM : Nat := 152
def h_c1 : pH := match evM 8 3000 kPB [.ref 10] (pAl h_b (.inl 9) 9) with
  | some (_, h) => h
  | none => h_b

def h_c2 : pH := match evM 8 3000 kPM [.ref 101] (pAl h_c1 (.inl 10) 25) with
  | some (_, h) => h
  | none => h_b

/-! the made cells: shapes, references, ints, as tables -/
def tSh : List (List pSh) := [[.inl 11, .inl 11, .inl 11, .inr (1, 0), .inr (1, 3), .inr (1, 3), .inr (0, 7), .inr (0, 8), .inr (0, 28), .inr (9, 0), .inl 9, .inl 2, .inr (2, 7), .inl 5, .inl 5, .inl 5],
  [.inl 5, .inl 5, .inl 5, .inl 5, .inl 4, .inr (0, 4), .inl 1, .inl 4, .inr (0, 50), .inl 4, .inr (0, 50), .inl 1, .inl 4, .inr (0, 50), .inl 4, .inr (0, 50)],
  [.inl 4, .inr (0, 7), .inl 4, .inr (0, 50), .inl 4, .inr (0, 20), .inl 2, .inr (2, 7), .inl 5, .inl 5, .inl 5, .inl 5, .inl 5, .inl 5, .inl 5, .inl 4],
  [.inr (0, 4), .inl 1, .inl 4, .inr (0, 50), .inl 4, .inr (0, 50), .inl 1, .inl 4, .inr (0, 50), .inl 4, .inr (0, 50), .inl 4, .inr (0, 7), .inl 4, .inr (0, 50), .inl 4],
  [.inr (0, 20), .inl 0, .inl 4, .inr (0, 49), .inl 4, .inr (0, 128), .inl 4, .inr (0, 128), .inl 4, .inr (0, 896), .inl 4, .inr (0, 4), .inl 4, .inr (0, 7), .inl 8, .inl 4],
  [.inr (0, 128), .inl 3, .inl 4, .inr (0, 50), .inl 7, .inl 4, .inr (0, 40), .inr (3, 4), .inl 6, .inl 4, .inr (0, 40), .inl 6, .inl 4, .inr (0, 40), .inl 6, .inl 4],
  [.inr (0, 40), .inl 6, .inl 4, .inr (0, 40), .inr (0, 5), .inl 10, .inr (0, 264), .inr (0, 264), .inr (0, 6), .inr (0, 3), .inr (0, 7), .inr (0, 56), .inr (0, 4), .inr (0, 7), .inr (0, 7), .inr (0, 40)],
  [.inr (0, 4), .inr (0, 4), .inr (0, 160), .inr (0, 40)]]
def sB (i : Nat) : pSh := (tSh.getD (i / 16) []).getD (i % 16) (.inr (9, 0))
def tRf : List (List (List (Option Nat))) := [[[some 3], [some 4], [some 5], [], [], [], [], [], [], [], [some 11, some 38, some 65, some 78, some 81, some 84, some 87, some 100], [some 12, some 20, some 22, some 27, some 32, some 34, some 36], [some 13, some 14, some 15, some 16, some 17, some 18, some 19], [], [], []],
  [[], [], [], [], [some 21], [], [none, some 23, some 25], [some 24], [], [some 26], [], [none, some 28, some 30], [some 29], [], [some 31], []],
  [[some 33], [], [some 35], [], [some 37], [], [some 39, some 47, some 49, some 54, some 59, some 61, some 63], [some 40, some 41, some 42, some 43, some 44, some 45, some 46], [], [], [], [], [], [], [], [some 48]],
  [[], [none, some 50, some 52], [some 51], [], [some 53], [], [none, some 55, some 57], [some 56], [], [some 58], [], [some 60], [], [some 62], [], [some 64]],
  [[], [some 11, some 66, some 68, some 70, some 72, some 74, some 76], [some 67], [], [some 69], [], [some 71], [], [some 73], [], [some 75], [], [some 77], [], [some 11, some 79], [some 80]],
  [[], [some 34, some 0, none, some 82], [some 83], [], [some 85], [some 86], [], [some 88, some 91, some 94, some 97], [some 89], [some 90], [], [some 92], [some 93], [], [some 95], [some 96]],
  [[], [some 98], [some 99], [], [], [some 102, some 103, none, some 104, none, none, none, none, none, none, some 105, some 106, some 107, some 108, some 109, none, none, some 110, some 111, none, none, some 112, some 113, some 114, some 115], [], [], [], [], [], [], [], [], [], []],
  [[], [], [], []]]
def rB (i k : Nat) : Option Nat := ((tRf.getD (i / 16) []).getD (i % 16) []).getD k none
/-- the ints that are not 0 -/
def tIn : List ((Nat × Nat) × Int32) := [((11, 8), 1), ((11, 11), 1), ((13, 6), 4), ((14, 0), 1), ((14, 6), 4), ((15, 0), 2), ((15, 6), 4), ((16, 0), 3), ((16, 6), 4), ((17, 0), 4), ((17, 6), 4), ((18, 0), 5), ((18, 6), 4), ((19, 0), 6), ((19, 6), 4), ((20, 1), 4), ((27, 0), 1), ((38, 8), 1), ((38, 11), 1), ((40, 6), 4), ((41, 0), 1), ((41, 6), 4), ((42, 0), 2), ((42, 6), 4), ((43, 0), 3), ((43, 6), 4), ((44, 0), 4), ((44, 6), 4), ((45, 0), 5), ((45, 6), 4), ((46, 0), 6), ((46, 6), 4), ((47, 1), 4), ((54, 0), 1), ((66, 1), 49), ((68, 1), 128), ((70, 1), 128), ((72, 1), 896), ((74, 1), 4), ((102, 1), 1), ((102, 2), 1)]
def iB (i k : Nat) : Int32 := ((tIn.find? (fun q => decide (q.1 = (i, k)))).map (fun q => q.2)).getD 0
def szB (i : Nat) : Nat := match sB i with | .inl c => cNf c | .inr q => q.2
def mkOK : Bool := match evM 8 3000 kPB [.ref 10] (pAl h_b (.inl 9) 9) with
  | some (none, h1) => decide (h1.1 = (101, 2440)) && (match evM 8 3000 kPM [.ref 101] (pAl h1 (.inl 10) 25) with
    | some (none, h2) => decide (h2.1 = (116, 3331)) && (List.range 106).all (fun j => decide (h2.2.1 (10 + j) = sB (10 + j)) && (List.range 30).all (fun k => decide (h2.2.2.1 (10 + j) k = rB (10 + j) k)) && (List.range (szB (10 + j))).all (fun k => decide (h2.2.2.2 (10 + j) k = iB (10 + j) k)))
    | _ => false)
  | _ => false
set_option maxRecDepth 1000000 in
theorem mkOK_ok : mkOK = true := by decide +kernel
end
section
/-! WHAT A RUN DOES, as equations: wX a call, wG a frame; fuel is hidden -/
theorem stp_cf {cf cf' : Nat → List Value → pH → Option (Option Value × pH)} (hc : ∀ mm as h r, cf mm as h = some r → cf' mm as h = some r) {k pc : Nat} {e : pE} {L st : List Value} {h : pH} {r : pR} (hs : stp cf k pc e L st h = some r) : stp cf' k pc e L st h = some r := by
  obtain ⟨i, x, ps⟩ := e
  have hd : ∀ mm, doC cf mm pc L st h = some r → doC cf' mm pc L st h = some r := by
    intro mm q
    unfold doC at q ⊢
    split at q
    · cases q
    · rename_i hl
      rw [if_neg hl]
      split at q
      · rename_i v h' hq
        rw [hc _ _ _ _ hq]
        exact q
      · cases q
  cases i
  case invokevirtual j =>
    simp only [stp] at hs ⊢
    split at hs
    · rename_i q
      rw [if_pos q]
      exact hd _ hs
    · cases hs
  case invokespecial j =>
    simp only [stp] at hs ⊢
    split at hs
    · rename_i q
      rw [if_pos q]
      exact hd _ hs
    · rename_i q
      rw [if_neg q]
      exact hs
  case invokestatic j =>
    simp only [stp] at hs ⊢
    split at hs
    · rename_i q
      rw [if_pos q]
      exact hd _ hs
    · rename_i q
      rw [if_neg q]
      exact hs
  all_goals exact hs
theorem run_mono {cf cf' : Nat → List Value → pH → Option (Option Value × pH)} (hc : ∀ mm as h r, cf mm as h = some r → cf' mm as h = some r) {k : Nat} : ∀ (n n' : Nat) (a : pF) (r : Option Value × pH), n ≤ n' → run cf k n a = some r → run cf' k n' a = some r := by
  intro n
  induction n with
  | zero => intro n' a r _ h; cases h
  | succ n ih =>
    intro n' a r hn h
    obtain ⟨q, rfl⟩ : ∃ q, n' = q + 1 := ⟨n' - 1, by omega⟩
    unfold run at h ⊢
    split at h
    · cases h
    · rename_i e he
      split at h
      · cases h
      · rename_i c' hs
        simp only [he, stp_cf hc hs]
        exact ih q c' r (by omega) h
      · rename_i r' hs
        simp only [he, stp_cf hc hs]
        exact h
theorem evM_mono : ∀ (d n n' mm : Nat) (as : List Value) (h : pH) (r : Option Value × pH), n ≤ n' → evM d n mm as h = some r → evM d n' mm as h = some r := by
  intro d
  induction d with
  | zero => intro n n' mm as h r _ q; cases q
  | succ d ih =>
    intro n n' mm as h r hn q
    unfold evM at q ⊢
    split at q
    · rename_i hc
      rw [if_pos hc]
      exact run_mono (fun mm as h r q => ih n n' mm as h r hn q) n n' _ r hn q
    · cases q
def wX (d m : Nat) (as : List Value) (h : pH) (Q : Option Value → pH → Prop) : Prop := ∃ (n : Nat) (v : Option Value) (h' : pH), evM d n m as h = some (v, h') ∧ Q v h'
def wG (d k : Nat) (a : pF) (Q : Option Value → pH → Prop) : Prop := ∃ (n : Nat) (v : Option Value) (h' : pH), run (evM d n) k n a = some (v, h') ∧ Q v h'
section WP
variable {d k pc m : Nat} {e : pE} {L st : List Value} {h : pH} {a : pF} {Q : Option Value → pH → Prop} {as : List Value}
theorem wX_in (hok : okA (mSig m) as = true) (hm : m < 256) : wX (d + 1) m as h Q = wG d m (0, inL m as, [], h) Q := by
  have e1 : ∀ n, evM (d + 1) n m as h = run (evM d n) m n (0, inL m as, [], h) := fun n => by
    show (if okA (mSig m) as = true ∧ m < 256 then _ else _) = _
    rw [if_pos ⟨hok, hm⟩]
  unfold wX wG
  simp only [e1]
theorem wG_s (he : pEnt k pc = some e) (hs : ∀ cf, stp cf k pc e L st h = some (.inl a)) : wG d k (pc, L, st, h) Q = wG d k a Q := by
  have e1 : ∀ cf n, run cf k (n + 1) (pc, L, st, h) = run cf k n a := fun cf n => by
    show (match pEnt k pc with | none => none | some e => _) = _
    simp only [he, hs]
  apply propext
  constructor
  · rintro ⟨n, v, h', hr, hq⟩
    cases n with
    | zero => cases hr
    | succ n =>
      rw [e1] at hr
      exact ⟨n + 1, v, h', run_mono (fun _ _ _ _ q => q) n (n + 1) _ _ (Nat.le_succ n) hr, hq⟩
  · rintro ⟨n, v, h', hr, hq⟩
    refine ⟨n + 1, v, h', ?_, hq⟩
    rw [e1]
    exact run_mono (fun mm as h r q => evM_mono d n (n + 1) mm as h r (Nat.le_succ n) q) n n _ _ (Nat.le_refl n) hr
theorem wG_r {v : Option Value} (he : pEnt k pc = some e) (hs : ∀ cf, stp cf k pc e L st h = some (.inr (v, h))) : wG d k (pc, L, st, h) Q = Q v h := by
  have e1 : ∀ cf n, run cf k (n + 1) (pc, L, st, h) = some (v, h) := fun cf n => by
    show (match pEnt k pc with | none => none | some e => _) = _
    simp only [he, hs]
  apply propext
  constructor
  · rintro ⟨n, v', h', hr, hq⟩
    cases n with
    | zero => cases hr
    | succ n =>
      rw [e1] at hr
      cases hr
      exact hq
  · intro hq
    exact ⟨1, v, h, e1 _ 0, hq⟩
theorem wG_c {rest : List Value} (he : pEnt k pc = some e) (hs : ∀ cf, stp cf k pc e L st h = (match cf m as h with | some (v, h') => some (.inl (pc + 3, L, v.toList ++ rest, h')) | none => none)) : wG d k (pc, L, st, h) Q = wX d m as h (fun v h' => wG d k (pc + 3, L, v.toList ++ rest, h') Q) := by
  have e1 : ∀ cf n, run cf k (n + 1) (pc, L, st, h) = (match cf m as h with | some (v, h') => run cf k n (pc + 3, L, v.toList ++ rest, h') | none => none) := fun cf n => by
    show (match pEnt k pc with | none => none | some e => _) = _
    simp only [he, hs]
    cases hcf : cf m as h with
    | none => rfl
    | some q => rfl
  apply propext
  constructor
  · rintro ⟨n, v, h', hr, hq⟩
    cases n with
    | zero => cases hr
    | succ n =>
      rw [e1] at hr
      cases hcf : evM d (n + 1) m as h with
      | none => rw [hcf] at hr; cases hr
      | some q =>
        obtain ⟨v1, h1⟩ := q
        rw [hcf] at hr
        exact ⟨n + 1, v1, h1, hcf, n + 1, v, h', run_mono (fun _ _ _ _ q => q) n (n + 1) _ _ (Nat.le_succ n) hr, hq⟩
  · rintro ⟨n, v1, h1, hcf, n2, v, h', hr, hq⟩
    refine ⟨max n n2 + 1, v, h', ?_, hq⟩
    rw [e1, evM_mono d n (max n n2 + 1) m as h _ (by omega) hcf]
    exact run_mono (fun mm as h r q => evM_mono d n2 (max n n2 + 1) mm as h r (by omega) q) n2 (max n n2) _ _ (by omega) hr
/-- a weaker end -/
theorem wX_w {Q' : Option Value → pH → Prop} (h1 : wX d m as h Q) (h2 : ∀ v h', Q v h' → Q' v h') : wX d m as h Q' := by
  obtain ⟨n, v, h', q1, q2⟩ := h1
  exact ⟨n, v, h', q1, h2 v h' q2⟩
end WP
/-! the heap behind the constructors: shapes and references stand, ints move -/
theorem mk_all : evM 8 3000 kPB [.ref 10] (pAl h_b (.inl 9) 9) = some (none, h_c1) ∧ h_c1.1 = (101, 2440) ∧ evM 8 3000 kPM [.ref 101] (pAl h_c1 (.inl 10) 25) = some (none, h_c2) ∧ h_c2.1 = (116, 3331) ∧
    ∀ j, j < 106 → h_c2.2.1 (10 + j) = sB (10 + j) ∧ (∀ q, q < 30 → h_c2.2.2.1 (10 + j) q = rB (10 + j) q) ∧ ∀ q, q < szB (10 + j) → h_c2.2.2.2 (10 + j) q = iB (10 + j) q := by
  have h := mkOK_ok
  unfold mkOK at h
  split at h
  · rename_i h1 e1
    simp only [Bool.and_eq_true, decide_eq_true_eq] at h
    obtain ⟨g1, h⟩ := h
    split at h
    · rename_i h2 e2
      simp only [Bool.and_eq_true, decide_eq_true_eq] at h
      obtain ⟨g2, g3⟩ := h
      have c1 : h_c1 = h1 := by unfold h_c1; rw [e1]
      have c2 : h_c2 = h2 := by unfold h_c2; rw [c1, e2]
      rw [c1, c2]
      refine ⟨e1, g1, e2, g2, fun j hj => ?_⟩
      have g4 := List.all_eq_true.mp g3 j (List.mem_range.mpr hj)
      simp only [Bool.and_eq_true, decide_eq_true_eq] at g4
      obtain ⟨⟨g5, g6⟩, g7⟩ := g4
      refine ⟨g5, fun q hq => ?_, fun q hq => ?_⟩
      · have := List.all_eq_true.mp g6 q (List.mem_range.mpr hq)
        simpa using this
      · have := List.all_eq_true.mp g7 q (List.mem_range.mpr hq)
        simpa using this
    · cases h
  · cases h
def rC : Nat → Nat → Option Nat := h_c2.2.2.1
theorem rC_at {i q : Nat} (h1 : 10 ≤ i) (h2 : i < 116) (hq : q < 30) : rC i q = rB i q := by
  obtain ⟨-, -, -, -, h⟩ := mk_all
  have := (h (i - 10) (by omega)).2.1 q hq
  rw [show 10 + (i - 10) = i by omega] at this
  exact this
/-- E: the script's length and ints, the references; ro: what the made cells hold (at 9, 0: the one reference that moves, Reader.names) -/
abbrev pEv : Type := Nat × (Nat → Int32) × (Nat → Nat → Option Nat)
def mkH (E : pEv) (ro : Nat → Nat → Int32) : pH := ((116, 3331), va_up sB 9 (.inr (0, E.1)), uR E.2.2 81 1 (some (ro 9 0).toNatClampNeg), fun i => if i < 10 then exI E.2.1 i else ro i)
/-- the references, as the table has them -/
def oE (E : pEv) : Prop := (∀ i q, 10 ≤ i → i < 116 → q < 30 → E.2.2 i q = rB i q) ∧ ∀ a, a < 3 → E.2.2 a 0 = some (3 + a)
theorem sB_hi {i : Nat} (h : 116 ≤ i) : sB i = .inr (9, 0) := by
  unfold sB
  by_cases hi : i < 128
  · have e : i / 16 = 7 := by omega
    rw [e]
    have e3 : (tSh.getD 7 [])[i % 16]? = none := List.getElem?_eq_none (by show 4 ≤ i % 16; omega)
    rw [List.getD_eq_getElem?_getD, e3]
    rfl
  · have e3 : tSh[i / 16]? = none := List.getElem?_eq_none (by show 8 ≤ i / 16; omega)
    rw [List.getD_eq_getElem?_getD (l := tSh), e3]
    rfl
theorem hx_bc : eX h_b h_c2 := by
  obtain ⟨m1, m2, m3, m4, m5⟩ := mk_all
  have u0 : pU (pAl h_b (.inl 9) 9) := h_bnin.2.al (fun ci q => by cases q; decide) (fun t nn q => by cases q)
  have e0 : eX h_b (pAl h_b (.inl 9) 9) := eX.al h_bnin.2
  have p1 := evM_pure _ _ _ _ _ _ _ m1 u0
  have u1 : pU (pAl h_c1 (.inl 10) 25) := p1.1.al (fun ci q => by cases q; decide) (fun t nn q => by cases q)
  have e1 : eX h_c1 (pAl h_c1 (.inl 10) 25) := eX.al p1.1
  have p2 := evM_pure _ _ _ _ _ _ _ m3 u1
  exact ((e0.tr p1.2.1).tr e1).tr p2.2.1
theorem rC_0 {a : Nat} (ha : a < 3) : rC a 0 = some (3 + a) := by
  unfold rC
  rw [(hx_bc a (Nat.lt_trans ha (by decide))).2.1]
  match a, ha with
  | 0, _ => rfl
  | 1, _ => rfl
  | 2, _ => rfl
  | a + 3, h => exact absurd h (by omega)
theorem mk_start0 {N : Nat} {xs : Nat → Int32} {h : pH} (m4 : h.1 = (116, 3331)) (hx : eX h_b h) (hu : pU h) (m5 : ∀ i, 10 ≤ i → i < 116 → h.2.1 i = sB i) (m6 : h.2.2.1 81 1 = some 0) : phi N xs h = mkH (N, xs, h.2.2.1) (uI h.2.2.2 9 0 0) := by
  refine Prod.ext m4 (Prod.ext (funext fun i => ?_) (Prod.ext (funext fun i => funext fun q => ?_) (funext fun i => ?_)))
  · show va_up h.2.1 9 (.inr (0, N)) i = va_up sB 9 (.inr (0, N)) i
    by_cases hi : i = 9
    · subst hi; rw [up_s, up_s]
    · rw [up_n hi, up_n hi]
      by_cases h10 : i < 10
      · rw [(hx i h10).1]
        show (if i = 9 then Sum.inr (9, 0) else exS 0 i) = _
        rw [if_neg hi]
        match i, h10, hi with
        | 0, _, _ => rfl
        | 1, _, _ => rfl
        | 2, _, _ => rfl
        | 3, _, _ => rfl
        | 4, _, _ => rfl
        | 5, _, _ => rfl
        | 6, _, _ => rfl
        | 7, _, _ => rfl
        | 8, _, _ => rfl
        | 9, _, h => exact absurd rfl h
        | j + 10, h, _ => exact absurd h (by omega)
      · by_cases h116 : i < 116
        · exact m5 i (by omega) h116
        · rw [sB_hi (by omega)]
          exact hu.2.1 i (by rw [m4]; show 116 ≤ i; omega)
  · show h.2.2.1 i q = uR h.2.2.1 81 1 (some (uI h.2.2.2 9 0 0 9 0).toNatClampNeg) i q
    have e9 : uI h.2.2.2 9 0 0 9 0 = 0 := by
      unfold uI
      rw [up_s, pk_us]
    rw [e9]
    unfold uR
    by_cases hi : i = 81
    · subst hi
      rw [up_s]
      by_cases hq : q = 1
      · subst hq
        rw [up_s]
        exact m6
      · rw [up_n hq]
    · rw [up_n hi]
  · show va_up h.2.2.2 9 xs i = if i < 10 then exI xs i else uI h.2.2.2 9 0 0 i
    by_cases hi : i = 9
    · subst hi; rw [up_s]; rfl
    · rw [up_n hi]
      by_cases h10 : i < 10
      · rw [if_pos h10, (hx i h10).2.2]
        match i, h10, hi with
        | 0, _, _ => rfl
        | 1, _, _ => rfl
        | 2, _, _ => rfl
        | 3, _, _ => rfl
        | 4, _, _ => rfl
        | 5, _, _ => rfl
        | 6, _, _ => rfl
        | 7, _, _ => rfl
        | 8, _, _ => rfl
        | 9, _, h => exact absurd rfl h
        | j + 10, h, _ => exact absurd h (by omega)
      · rw [if_neg h10]
        unfold uI
        rw [up_n hi]
theorem pU_c2 : pU h_c2 := by
  obtain ⟨m1, m2, m3, m4, m5⟩ := mk_all
  have u0 : pU (pAl h_b (.inl 9) 9) := h_bnin.2.al (fun ci q => by cases q; decide) (fun t nn q => by cases q)
  have p1 := evM_pure _ _ _ _ _ _ _ m1 u0
  have u1 : pU (pAl h_c1 (.inl 10) 25) := p1.1.al (fun ci q => by cases q; decide) (fun t nn q => by cases q)
  exact (evM_pure _ _ _ _ _ _ _ m3 u1).1
/-- what holds behind the constructors -/
theorem mk_start : ∃ h : pH, evM 8 3000 kPM [.ref 101] (pAl h_c1 (.inl 10) 25) = some (none, h) ∧ (∀ (N : Nat) (xs : Nat → Int32), phi N xs h = mkH (N, xs, h.2.2.1) (uI h.2.2.2 9 0 0) ∧ oE (N, xs, h.2.2.1)) ∧ ∀ i q, 10 ≤ i → i < 116 → q < szB i → h.2.2.2 i q = iB i q := by
  obtain ⟨m1, m2, m3, m4, m5⟩ := mk_all
  have hx := hx_bc
  have hu := pU_c2
  have hr : ∀ i q, 10 ≤ i → i < 116 → q < 30 → h_c2.2.2.1 i q = rB i q := fun i q h1 h2 h3 => rC_at h1 h2 h3
  have h0 : ∀ a, a < 3 → h_c2.2.2.1 a 0 = some (3 + a) := fun a ha => rC_0 ha
  generalize h_c2 = h at *
  refine ⟨h, m3, fun N xs => ⟨mk_start0 m4 hx hu (fun i h1 h2 => ?_) (hr 81 1 (by decide) (by decide) (by decide)), hr, h0⟩, fun i q h1 h2 hq => ?_⟩
  · have := (m5 (i - 10) (by omega)).1
    rw [show 10 + (i - 10) = i by omega] at this
    exact this
  · have := (m5 (i - 10) (by omega)).2.2 q (by rw [show 10 + (i - 10) = i by omega]; exact hq)
    rw [show 10 + (i - 10) = i by omega] at this
    exact this
end
section
/-! the rules: an instruction, an equation -/
/-- what a call answered, on the stack -/
def pv : Option Value → List Value → List Value
  | some v, r => v :: r
  | none, r => r
theorem pv_eq {v : Option Value} {r : List Value} : v.toList ++ r = pv v r := by cases v <;> rfl
section RUL
variable {d k pc pc' m : Nat} {x : Int} {ps : List (Int × Nat)} {L L' st : List Value} {h : pH} {Q : Option Value → pH → Prop} {E : pEv} {ro : Nat → Nat → Int32} {v y z : Int32} {w u : Int64}

theorem r_iconst {i : Int} (he : pEnt k pc = some (.iconst i, x, ps)) (hp : pc + 1 = pc') (hv : Int32.ofInt x = v) : wG d k (pc, L, st, h) Q = wG d k (pc', L, .int v :: st, h) Q := by
  subst hp
  subst hv
  exact wG_s he (fun cf => rfl)
theorem r_bipush {i : Int} (he : pEnt k pc = some (.bipush i, x, ps)) (hp : pc + 2 = pc') (hv : Int32.ofInt x = v) : wG d k (pc, L, st, h) Q = wG d k (pc', L, .int v :: st, h) Q := by
  subst hp
  subst hv
  exact wG_s he (fun cf => rfl)
theorem r_sipush {i : Int} (he : pEnt k pc = some (.sipush i, x, ps)) (hp : pc + 3 = pc') (hv : Int32.ofInt x = v) : wG d k (pc, L, st, h) Q = wG d k (pc', L, .int v :: st, h) Q := by
  subst hp
  subst hv
  exact wG_s he (fun cf => rfl)
theorem r_lconst {i : Fin 2} (he : pEnt k pc = some (.lconst i, x, ps)) (hp : pc + 1 = pc') (hv : Int64.ofNat (i : Nat) = w) : wG d k (pc, L, st, h) Q = wG d k (pc', L, .long w :: st, h) Q := by
  subst hp
  subst hv
  exact wG_s he (fun cf => rfl)
theorem r_ldc {i : Nat} (he : pEnt k pc = some (.ldc i, x, [])) (hp : pc + 2 = pc') (hv : Int32.ofInt x = v) : wG d k (pc, L, st, h) Q = wG d k (pc', L, .int v :: st, h) Q := by
  subst hp
  subst hv
  exact wG_s he (fun cf => rfl)
theorem r_ldcS {i s : Nat} {q : Int × Nat} (he : pEnt k pc = some (.ldc i, x, [q])) (hp : pc + 2 = pc') (hv : x.toNat = s) : wG d k (pc, L, st, h) Q = wG d k (pc', L, .ref s :: st, h) Q := by
  subst hp
  subst hv
  exact wG_s he (fun cf => rfl)
theorem r_ldc_w {i : Nat} (he : pEnt k pc = some (.ldc_w i, x, ps)) (hp : pc + 3 = pc') (hv : Int32.ofInt x = v) : wG d k (pc, L, st, h) Q = wG d k (pc', L, .int v :: st, h) Q := by
  subst hp
  subst hv
  exact wG_s he (fun cf => rfl)
theorem r_ldc2_w {i : Nat} (he : pEnt k pc = some (.ldc2_w i, x, ps)) (hp : pc + 3 = pc') (hv : Int64.ofInt x = w) : wG d k (pc, L, st, h) Q = wG d k (pc', L, .long w :: st, h) Q := by
  subst hp
  subst hv
  exact wG_s he (fun cf => rfl)
theorem r_iload {i : Nat} (he : pEnt k pc = some (.iload i, x, ps)) (hp : pc + 2 = pc') (hl : L[i]? = some (.int v)) : wG d k (pc, L, st, h) Q = wG d k (pc', L, .int v :: st, h) Q := by
  subst hp
  exact wG_s he (fun cf => by simp only [stp, hl])
theorem r_iload_n {i : Fin 4} (he : pEnt k pc = some (.iload_n i, x, ps)) (hp : pc + 1 = pc') (hl : L[(i : Nat)]? = some (.int v)) : wG d k (pc, L, st, h) Q = wG d k (pc', L, .int v :: st, h) Q := by
  subst hp
  exact wG_s he (fun cf => by simp only [stp, hl])
theorem r_lload {i : Nat} (he : pEnt k pc = some (.lload i, x, ps)) (hp : pc + 2 = pc') (hl : L[i]? = some (.long w)) : wG d k (pc, L, st, h) Q = wG d k (pc', L, .long w :: st, h) Q := by
  subst hp
  exact wG_s he (fun cf => by simp only [stp, hl])
theorem r_lload_n {i : Fin 4} (he : pEnt k pc = some (.lload_n i, x, ps)) (hp : pc + 1 = pc') (hl : L[(i : Nat)]? = some (.long w)) : wG d k (pc, L, st, h) Q = wG d k (pc', L, .long w :: st, h) Q := by
  subst hp
  exact wG_s he (fun cf => by simp only [stp, hl])
theorem r_aload {i q : Nat} (he : pEnt k pc = some (.aload i, x, ps)) (hp : pc + 2 = pc') (hl : L[i]? = some (.ref q)) : wG d k (pc, L, st, h) Q = wG d k (pc', L, .ref q :: st, h) Q := by
  subst hp
  exact wG_s he (fun cf => by simp only [stp, hl])
theorem r_aload_n {i : Fin 4} {q : Nat} (he : pEnt k pc = some (.aload_n i, x, ps)) (hp : pc + 1 = pc') (hl : L[(i : Nat)]? = some (.ref q)) : wG d k (pc, L, st, h) Q = wG d k (pc', L, .ref q :: st, h) Q := by
  subst hp
  exact wG_s he (fun cf => by simp only [stp, hl])
theorem r_istore {i : Nat} (he : pEnt k pc = some (.istore i, x, ps)) (hp : pc + 2 = pc') (hl : (decide (i < L.length) && nLg k i) = true) (hs : L.set i (.int v) = L') : wG d k (pc, L, .int v :: st, h) Q = wG d k (pc', L', st, h) Q := by
  subst hp
  subst hs
  simp only [Bool.and_eq_true, decide_eq_true_eq] at hl
  exact wG_s he (fun cf => by simp only [stp]; rw [if_pos hl])
theorem r_istore_n {i : Fin 4} (he : pEnt k pc = some (.istore_n i, x, ps)) (hp : pc + 1 = pc') (hl : (decide ((i : Nat) < L.length) && nLg k (i : Nat)) = true) (hs : L.set (i : Nat) (.int v) = L') : wG d k (pc, L, .int v :: st, h) Q = wG d k (pc', L', st, h) Q := by
  subst hp
  subst hs
  simp only [Bool.and_eq_true, decide_eq_true_eq] at hl
  exact wG_s he (fun cf => by simp only [stp]; rw [if_pos hl])
theorem r_astore {i q : Nat} (he : pEnt k pc = some (.astore i, x, ps)) (hp : pc + 2 = pc') (hl : (decide (i < L.length) && nLg k i) = true) (hs : L.set i (.ref q) = L') : wG d k (pc, L, .ref q :: st, h) Q = wG d k (pc', L', st, h) Q := by
  subst hp
  subst hs
  simp only [Bool.and_eq_true, decide_eq_true_eq] at hl
  exact wG_s he (fun cf => by simp only [stp]; rw [if_pos hl])
theorem r_astore_n {i : Fin 4} {q : Nat} (he : pEnt k pc = some (.astore_n i, x, ps)) (hp : pc + 1 = pc') (hl : (decide ((i : Nat) < L.length) && nLg k (i : Nat)) = true) (hs : L.set (i : Nat) (.ref q) = L') : wG d k (pc, L, .ref q :: st, h) Q = wG d k (pc', L', st, h) Q := by
  subst hp
  subst hs
  simp only [Bool.and_eq_true, decide_eq_true_eq] at hl
  exact wG_s he (fun cf => by simp only [stp]; rw [if_pos hl])
theorem r_iinc {i : Nat} {c : Int} (he : pEnt k pc = some (.iinc i c, x, ps)) (hp : pc + 3 = pc') (hl : nLg k i = true) (hg : L[i]? = some (.int v)) (hc : Int32.ofInt c = y) (hs : L.set i (.int (v + y)) = L') : wG d k (pc, L, st, h) Q = wG d k (pc', L', st, h) Q := by
  subst hp
  subst hc
  subst hs
  exact wG_s he (fun cf => by simp only [stp, hg]; rw [if_pos hl])
theorem r_iadd (he : pEnt k pc = some (.iadd, x, ps)) (hp : pc + 1 = pc') : wG d k (pc, L, .int y :: .int v :: st, h) Q = wG d k (pc', L, .int (v + y) :: st, h) Q := by
  subst hp
  exact wG_s he (fun cf => rfl)
theorem r_isub (he : pEnt k pc = some (.isub, x, ps)) (hp : pc + 1 = pc') : wG d k (pc, L, .int y :: .int v :: st, h) Q = wG d k (pc', L, .int (v - y) :: st, h) Q := by
  subst hp
  exact wG_s he (fun cf => rfl)
theorem r_imul (he : pEnt k pc = some (.imul, x, ps)) (hp : pc + 1 = pc') : wG d k (pc, L, .int y :: .int v :: st, h) Q = wG d k (pc', L, .int (v * y) :: st, h) Q := by
  subst hp
  exact wG_s he (fun cf => rfl)
theorem r_iand (he : pEnt k pc = some (.iand, x, ps)) (hp : pc + 1 = pc') : wG d k (pc, L, .int y :: .int v :: st, h) Q = wG d k (pc', L, .int (v &&& y) :: st, h) Q := by
  subst hp
  exact wG_s he (fun cf => rfl)
theorem r_ior (he : pEnt k pc = some (.ior, x, ps)) (hp : pc + 1 = pc') : wG d k (pc, L, .int y :: .int v :: st, h) Q = wG d k (pc', L, .int (v ||| y) :: st, h) Q := by
  subst hp
  exact wG_s he (fun cf => rfl)
theorem r_ixor (he : pEnt k pc = some (.ixor, x, ps)) (hp : pc + 1 = pc') : wG d k (pc, L, .int y :: .int v :: st, h) Q = wG d k (pc', L, .int (v ^^^ y) :: st, h) Q := by
  subst hp
  exact wG_s he (fun cf => rfl)
theorem r_ishl (he : pEnt k pc = some (.ishl, x, ps)) (hp : pc + 1 = pc') : wG d k (pc, L, .int y :: .int v :: st, h) Q = wG d k (pc', L, .int (v <<< (y &&& 31)) :: st, h) Q := by
  subst hp
  exact wG_s he (fun cf => rfl)
theorem r_ishr (he : pEnt k pc = some (.ishr, x, ps)) (hp : pc + 1 = pc') : wG d k (pc, L, .int y :: .int v :: st, h) Q = wG d k (pc', L, .int (v >>> (y &&& 31)) :: st, h) Q := by
  subst hp
  exact wG_s he (fun cf => rfl)
theorem r_iushr (he : pEnt k pc = some (.iushr, x, ps)) (hp : pc + 1 = pc') : wG d k (pc, L, .int y :: .int v :: st, h) Q = wG d k (pc', L, .int ((v.toUInt32 >>> (y.toUInt32 &&& Int32.toUInt32 31)).toInt32) :: st, h) Q := by
  subst hp
  exact wG_s he (fun cf => rfl)
theorem r_idiv (he : pEnt k pc = some (.idiv, x, ps)) (hp : pc + 1 = pc') (hy : ¬ y = 0) : wG d k (pc, L, .int y :: .int v :: st, h) Q = wG d k (pc', L, .int (v / y) :: st, h) Q := by
  subst hp
  exact wG_s he (fun cf => by simp only [stp]; rw [if_neg hy])
theorem r_irem (he : pEnt k pc = some (.irem, x, ps)) (hp : pc + 1 = pc') (hy : ¬ y = 0) : wG d k (pc, L, .int y :: .int v :: st, h) Q = wG d k (pc', L, .int (v - v / y * y) :: st, h) Q := by
  subst hp
  exact wG_s he (fun cf => by simp only [stp]; rw [if_neg hy])
theorem r_ineg (he : pEnt k pc = some (.ineg, x, ps)) (hp : pc + 1 = pc') : wG d k (pc, L, .int v :: st, h) Q = wG d k (pc', L, .int (-v) :: st, h) Q := by
  subst hp
  exact wG_s he (fun cf => rfl)
theorem r_i2l (he : pEnt k pc = some (.i2l, x, ps)) (hp : pc + 1 = pc') : wG d k (pc, L, .int v :: st, h) Q = wG d k (pc', L, .long v.toInt64 :: st, h) Q := by
  subst hp
  exact wG_s he (fun cf => rfl)
theorem r_l2i (he : pEnt k pc = some (.l2i, x, ps)) (hp : pc + 1 = pc') : wG d k (pc, L, .long w :: st, h) Q = wG d k (pc', L, .int w.toInt32 :: st, h) Q := by
  subst hp
  exact wG_s he (fun cf => rfl)
theorem r_i2b (he : pEnt k pc = some (.i2b, x, ps)) (hp : pc + 1 = pc') : wG d k (pc, L, .int v :: st, h) Q = wG d k (pc', L, .int v.toInt8.toInt32 :: st, h) Q := by
  subst hp
  exact wG_s he (fun cf => rfl)
theorem r_i2s (he : pEnt k pc = some (.i2s, x, ps)) (hp : pc + 1 = pc') : wG d k (pc, L, .int v :: st, h) Q = wG d k (pc', L, .int v.toInt16.toInt32 :: st, h) Q := by
  subst hp
  exact wG_s he (fun cf => rfl)
theorem r_i2c (he : pEnt k pc = some (.i2c, x, ps)) (hp : pc + 1 = pc') : wG d k (pc, L, .int v :: st, h) Q = wG d k (pc', L, .int (v.toUInt32 % 65536).toInt32 :: st, h) Q := by
  subst hp
  exact wG_s he (fun cf => rfl)
theorem r_land (he : pEnt k pc = some (.land, x, ps)) (hp : pc + 1 = pc') : wG d k (pc, L, .long u :: .long w :: st, h) Q = wG d k (pc', L, .long (w &&& u) :: st, h) Q := by
  subst hp
  exact wG_s he (fun cf => rfl)
theorem r_lor (he : pEnt k pc = some (.lor, x, ps)) (hp : pc + 1 = pc') : wG d k (pc, L, .long u :: .long w :: st, h) Q = wG d k (pc', L, .long (w ||| u) :: st, h) Q := by
  subst hp
  exact wG_s he (fun cf => rfl)
theorem r_lshl (he : pEnt k pc = some (.lshl, x, ps)) (hp : pc + 1 = pc') : wG d k (pc, L, .int y :: .long w :: st, h) Q = wG d k (pc', L, .long (w <<< (y.toInt64 &&& 63)) :: st, h) Q := by
  subst hp
  exact wG_s he (fun cf => rfl)
theorem r_lshr (he : pEnt k pc = some (.lshr, x, ps)) (hp : pc + 1 = pc') : wG d k (pc, L, .int y :: .long w :: st, h) Q = wG d k (pc', L, .long (w >>> (y.toInt64 &&& 63)) :: st, h) Q := by
  subst hp
  exact wG_s he (fun cf => rfl)
theorem r_lushr (he : pEnt k pc = some (.lushr, x, ps)) (hp : pc + 1 = pc') : wG d k (pc, L, .int y :: .long w :: st, h) Q = wG d k (pc', L, .long ((w.toUInt64 >>> (y.toInt64.toUInt64 &&& Int64.toUInt64 63)).toInt64) :: st, h) Q := by
  subst hp
  exact wG_s he (fun cf => rfl)
theorem r_lcmp (he : pEnt k pc = some (.lcmp, x, ps)) (hp : pc + 1 = pc') : wG d k (pc, L, .long u :: .long w :: st, h) Q = wG d k (pc', L, .int (lg_cmp w u) :: st, h) Q := by
  subst hp
  exact wG_s he (fun cf => rfl)
theorem r_dupI (he : pEnt k pc = some (.dup, x, ps)) (hp : pc + 1 = pc') : wG d k (pc, L, .int v :: st, h) Q = wG d k (pc', L, .int v :: .int v :: st, h) Q := by
  subst hp
  exact wG_s he (fun cf => rfl)
theorem r_dupR {q : Nat} (he : pEnt k pc = some (.dup, x, ps)) (hp : pc + 1 = pc') : wG d k (pc, L, .ref q :: st, h) Q = wG d k (pc', L, .ref q :: .ref q :: st, h) Q := by
  subst hp
  exact wG_s he (fun cf => rfl)
theorem r_dup2 {q : Nat} (he : pEnt k pc = some (.dup2, x, ps)) (hp : pc + 1 = pc') : wG d k (pc, L, .int y :: .ref q :: st, h) Q = wG d k (pc', L, .int y :: .ref q :: .int y :: .ref q :: st, h) Q := by
  subst hp
  exact wG_s he (fun cf => rfl)
theorem r_pop (he : pEnt k pc = some (.pop, x, ps)) (hp : pc + 1 = pc') : wG d k (pc, L, .int y :: st, h) Q = wG d k (pc', L, st, h) Q := by
  subst hp
  exact wG_s he (fun cf => rfl)
theorem r_goto {i : Int} (he : pEnt k pc = some (.goto i, x, ps)) (hp : x.toNat = pc') : wG d k (pc, L, st, h) Q = wG d k (pc', L, st, h) Q := by
  subst hp
  exact wG_s he (fun cf => rfl)
theorem r_icmp_eq {i : Int} {t f : Nat} (he : pEnt k pc = some (.if_icmp .eq i, x, ps)) (ht : x.toNat = t) (hf : pc + 3 = f) : wG d k (pc, L, .int y :: .int v :: st, h) Q = (if v = y then wG d k (t, L, st, h) Q else wG d k (f, L, st, h) Q) := by
  subst ht
  subst hf
  rw [wG_s he (fun cf => rfl)]
  show wG d k (if v = y then x.toNat else pc + 3, L, st, h) Q = _
  by_cases hc : v = y
  · rw [if_pos hc, if_pos hc]
  · rw [if_neg hc, if_neg hc]
theorem r_if_eq {i : Int} {t f : Nat} (he : pEnt k pc = some (.ifCond .eq i, x, ps)) (ht : x.toNat = t) (hf : pc + 3 = f) : wG d k (pc, L, .int v :: st, h) Q = (if v = 0 then wG d k (t, L, st, h) Q else wG d k (f, L, st, h) Q) := by
  subst ht
  subst hf
  rw [wG_s he (fun cf => rfl)]
  show wG d k (if v = 0 then x.toNat else pc + 3, L, st, h) Q = _
  by_cases hc : v = 0
  · rw [if_pos hc, if_pos hc]
  · rw [if_neg hc, if_neg hc]
theorem r_icmp_ne {i : Int} {t f : Nat} (he : pEnt k pc = some (.if_icmp .ne i, x, ps)) (ht : x.toNat = t) (hf : pc + 3 = f) : wG d k (pc, L, .int y :: .int v :: st, h) Q = (if v = y then wG d k (f, L, st, h) Q else wG d k (t, L, st, h) Q) := by
  subst ht
  subst hf
  rw [wG_s he (fun cf => rfl)]
  show wG d k (if v = y then pc + 3 else x.toNat, L, st, h) Q = _
  by_cases hc : v = y
  · rw [if_pos hc, if_pos hc]
  · rw [if_neg hc, if_neg hc]
theorem r_if_ne {i : Int} {t f : Nat} (he : pEnt k pc = some (.ifCond .ne i, x, ps)) (ht : x.toNat = t) (hf : pc + 3 = f) : wG d k (pc, L, .int v :: st, h) Q = (if v = 0 then wG d k (f, L, st, h) Q else wG d k (t, L, st, h) Q) := by
  subst ht
  subst hf
  rw [wG_s he (fun cf => rfl)]
  show wG d k (if v = 0 then pc + 3 else x.toNat, L, st, h) Q = _
  by_cases hc : v = 0
  · rw [if_pos hc, if_pos hc]
  · rw [if_neg hc, if_neg hc]
theorem r_icmp_lt {i : Int} {t f : Nat} (he : pEnt k pc = some (.if_icmp .lt i, x, ps)) (ht : x.toNat = t) (hf : pc + 3 = f) : wG d k (pc, L, .int y :: .int v :: st, h) Q = (if v < y then wG d k (t, L, st, h) Q else wG d k (f, L, st, h) Q) := by
  subst ht
  subst hf
  rw [wG_s he (fun cf => rfl)]
  show wG d k (if v < y then x.toNat else pc + 3, L, st, h) Q = _
  by_cases hc : v < y
  · rw [if_pos hc, if_pos hc]
  · rw [if_neg hc, if_neg hc]
theorem r_if_lt {i : Int} {t f : Nat} (he : pEnt k pc = some (.ifCond .lt i, x, ps)) (ht : x.toNat = t) (hf : pc + 3 = f) : wG d k (pc, L, .int v :: st, h) Q = (if v < 0 then wG d k (t, L, st, h) Q else wG d k (f, L, st, h) Q) := by
  subst ht
  subst hf
  rw [wG_s he (fun cf => rfl)]
  show wG d k (if v < 0 then x.toNat else pc + 3, L, st, h) Q = _
  by_cases hc : v < 0
  · rw [if_pos hc, if_pos hc]
  · rw [if_neg hc, if_neg hc]
theorem r_icmp_ge {i : Int} {t f : Nat} (he : pEnt k pc = some (.if_icmp .ge i, x, ps)) (ht : x.toNat = t) (hf : pc + 3 = f) : wG d k (pc, L, .int y :: .int v :: st, h) Q = (if v < y then wG d k (f, L, st, h) Q else wG d k (t, L, st, h) Q) := by
  subst ht
  subst hf
  rw [wG_s he (fun cf => rfl)]
  show wG d k (if v < y then pc + 3 else x.toNat, L, st, h) Q = _
  by_cases hc : v < y
  · rw [if_pos hc, if_pos hc]
  · rw [if_neg hc, if_neg hc]
theorem r_if_ge {i : Int} {t f : Nat} (he : pEnt k pc = some (.ifCond .ge i, x, ps)) (ht : x.toNat = t) (hf : pc + 3 = f) : wG d k (pc, L, .int v :: st, h) Q = (if v < 0 then wG d k (f, L, st, h) Q else wG d k (t, L, st, h) Q) := by
  subst ht
  subst hf
  rw [wG_s he (fun cf => rfl)]
  show wG d k (if v < 0 then pc + 3 else x.toNat, L, st, h) Q = _
  by_cases hc : v < 0
  · rw [if_pos hc, if_pos hc]
  · rw [if_neg hc, if_neg hc]
theorem r_icmp_gt {i : Int} {t f : Nat} (he : pEnt k pc = some (.if_icmp .gt i, x, ps)) (ht : x.toNat = t) (hf : pc + 3 = f) : wG d k (pc, L, .int y :: .int v :: st, h) Q = (if y < v then wG d k (t, L, st, h) Q else wG d k (f, L, st, h) Q) := by
  subst ht
  subst hf
  rw [wG_s he (fun cf => rfl)]
  show wG d k (if y < v then x.toNat else pc + 3, L, st, h) Q = _
  by_cases hc : y < v
  · rw [if_pos hc, if_pos hc]
  · rw [if_neg hc, if_neg hc]
theorem r_if_gt {i : Int} {t f : Nat} (he : pEnt k pc = some (.ifCond .gt i, x, ps)) (ht : x.toNat = t) (hf : pc + 3 = f) : wG d k (pc, L, .int v :: st, h) Q = (if 0 < v then wG d k (t, L, st, h) Q else wG d k (f, L, st, h) Q) := by
  subst ht
  subst hf
  rw [wG_s he (fun cf => rfl)]
  show wG d k (if 0 < v then x.toNat else pc + 3, L, st, h) Q = _
  by_cases hc : 0 < v
  · rw [if_pos hc, if_pos hc]
  · rw [if_neg hc, if_neg hc]
theorem r_icmp_le {i : Int} {t f : Nat} (he : pEnt k pc = some (.if_icmp .le i, x, ps)) (ht : x.toNat = t) (hf : pc + 3 = f) : wG d k (pc, L, .int y :: .int v :: st, h) Q = (if y < v then wG d k (f, L, st, h) Q else wG d k (t, L, st, h) Q) := by
  subst ht
  subst hf
  rw [wG_s he (fun cf => rfl)]
  show wG d k (if y < v then pc + 3 else x.toNat, L, st, h) Q = _
  by_cases hc : y < v
  · rw [if_pos hc, if_pos hc]
  · rw [if_neg hc, if_neg hc]
theorem r_if_le {i : Int} {t f : Nat} (he : pEnt k pc = some (.ifCond .le i, x, ps)) (ht : x.toNat = t) (hf : pc + 3 = f) : wG d k (pc, L, .int v :: st, h) Q = (if 0 < v then wG d k (f, L, st, h) Q else wG d k (t, L, st, h) Q) := by
  subst ht
  subst hf
  rw [wG_s he (fun cf => rfl)]
  show wG d k (if 0 < v then pc + 3 else x.toNat, L, st, h) Q = _
  by_cases hc : 0 < v
  · rw [if_pos hc, if_pos hc]
  · rw [if_neg hc, if_neg hc]
theorem r_sw {i : Int × Int × Int} {offs : Array Int} {t : Nat} (he : pEnt k pc = some (.tableswitch i.1 i.2.1 i.2.2 offs, x, ps)) (ht : x.toNat = t) : wG d k (pc, L, .int v :: st, h) Q = wG d k (swt v ps t, L, st, h) Q := by
  subst ht
  exact wG_s he (fun cf => rfl)
theorem r_lk {i : Int} {offs : Array (Int × Int)} {t : Nat} (he : pEnt k pc = some (.lookupswitch i offs, x, ps)) (ht : x.toNat = t) : wG d k (pc, L, .int v :: st, h) Q = wG d k (swt v ps t, L, st, h) Q := by
  subst ht
  exact wG_s he (fun cf => rfl)
theorem r_swc {a : Int} {t t' dd : Nat} {l : List (Int × Nat)} (hv : Int32.ofInt a = y) : wG d k (swt v ((a, t) :: l) dd, L, st, h) Q = (if v = y then wG d k (t, L, st, h) Q else wG d k (swt v l dd, L, st, h) Q) := by
  subst hv
  show wG d k (if v = Int32.ofInt a then t else swt v l dd, L, st, h) Q = _
  by_cases hc : v = Int32.ofInt a
  · rw [if_pos hc, if_pos hc]
  · rw [if_neg hc, if_neg hc]
theorem r_swn {dd : Nat} : wG d k (swt v [] dd, L, st, h) Q = wG d k (dd, L, st, h) Q := rfl
end RUL
end
section
/-! cells -/
section RUM
variable {d k pc pc' m : Nat} {x : Int} {ps : List (Int × Nat)} {L L' st : List Value} {h : pH} {Q : Option Value → pH → Prop} {E : pEv} {ro : Nat → Nat → Int32} {v y z : Int32} {w u : Int64}
theorem mk_sh {a : Nat} (h9 : a ≠ 9) : (mkH E ro).2.1 a = sB a := up_n h9
theorem mk_i {a : Nat} (h : 10 ≤ a) : (mkH E ro).2.2.2 a = ro a := if_neg (by omega)
theorem mk_x {a : Nat} (h : a < 10) : (mkH E ro).2.2.2 a = exI E.2.1 a := if_pos h
theorem sB_lt {a : Nat} {s : pSh} (h : sB a = s) (hn : s ≠ .inr (9, 0)) : a < 116 := by
  rcases Nat.lt_or_ge a 116 with q | q
  · exact q
  · exact absurd (h.symm.trans (sB_hi q)) hn
theorem mk_r {a q : Nat} (hE : oE E) (h1 : 10 ≤ a) (h2 : a < 116) (hq : q < 30) (hn : (a == 81 && q == 1) = false) : (mkH E ro).2.2.1 a q = rB a q := by
  show uR E.2.2 81 1 _ a q = _
  rw [← hE.1 a q h1 h2 hq]
  unfold uR
  by_cases h81 : a = 81
  · subst h81
    rw [up_s]
    have hq1 : q ≠ 1 := fun e => by subst e; cases hn
    rw [up_n hq1]
  · rw [up_n h81]
theorem r_getI {j a ci sl : Nat} (he : pEnt k pc = some (.getfield j, x, ps)) (hp : pc + 3 = pc') (hx : (x.toNat == ci * 32 + sl && decide (sl < cNf ci) && !((cKd ci).getD sl 0 == 2) && decide (sl < 32)) = true) (hs : sB a = .inl ci) (h10 : 10 ≤ a) :
    wG d k (pc, L, .ref a :: st, mkH E ro) Q = wG d k (pc', L, .int (ro a sl) :: st, mkH E ro) Q := by
  subst hp
  simp only [Bool.and_eq_true, decide_eq_true_eq, beq_iff_eq, Bool.not_eq_true', beq_eq_false_iff_ne, ne_eq] at hx
  obtain ⟨⟨⟨h1, h2⟩, h3⟩, h4⟩ := hx
  refine wG_s he (fun cf => ?_)
  have e1 : (ci * 32 + sl) / 32 = ci := by omega
  have e2 : (ci * 32 + sl) % 32 = sl := by omega
  simp only [stp, h1, e1, e2, mk_sh (E := E) (ro := ro) (show a ≠ 9 by omega), hs, h2, true_and, and_self, if_true, fv, if_neg h3, mk_i h10]
theorem r_getR {j a ci sl q : Nat} (hE : oE E) (he : pEnt k pc = some (.getfield j, x, ps)) (hp : pc + 3 = pc') (hx : (x.toNat == ci * 32 + sl && decide (sl < cNf ci) && ((cKd ci).getD sl 0 == 2) && decide (sl < 30)) = true) (hs : sB a = .inl ci) (h10 : 10 ≤ a) (hr : rB a sl = some q) (hn : (a == 81 && sl == 1) = false) :
    wG d k (pc, L, .ref a :: st, mkH E ro) Q = wG d k (pc', L, .ref q :: st, mkH E ro) Q := by
  subst hp
  simp only [Bool.and_eq_true, decide_eq_true_eq, beq_iff_eq] at hx
  obtain ⟨⟨⟨h1, h2⟩, h3⟩, h4⟩ := hx
  refine wG_s he (fun cf => ?_)
  have e1 : (ci * 32 + sl) / 32 = ci := by omega
  have e2 : (ci * 32 + sl) % 32 = sl := by omega
  have hlt := sB_lt hs (fun z => by cases z)
  simp only [stp, h1, e1, e2, mk_sh (E := E) (ro := ro) (show a ≠ 9 by omega), hs, h2, true_and, and_self, if_true, fv, if_pos h3, mk_r hE h10 hlt h4 hn, hr]
  rfl
theorem r_getS {j a q : Nat} (hE : oE E) (he : pEnt k pc = some (.getfield j, x, ps)) (hp : pc + 3 = pc') (hx : (x.toNat == 352) = true) (ha : a < 3) (hq : 3 + a = q) :
    wG d k (pc, L, .ref a :: st, mkH E ro) Q = wG d k (pc', L, .ref q :: st, mkH E ro) Q := by
  subst hp
  subst hq
  simp only [beq_iff_eq] at hx
  refine wG_s he (fun cf => ?_)
  have hs : (mkH E ro).2.1 a = .inl 11 := by
    rw [mk_sh (by omega)]
    match a, ha with
    | 0, _ => rfl
    | 1, _ => rfl
    | 2, _ => rfl
    | a + 3, h => exact absurd h (by omega)
  have hr : (mkH E ro).2.2.1 a 0 = some (3 + a) := by
    show uR E.2.2 81 1 _ a 0 = _
    unfold uR
    rw [up_n (by omega)]
    exact hE.2 a ha
  have e9 : fv (mkH E ro) a 11 0 = .ref (3 + a) := by
    show va_rf ((mkH E ro).2.2.1 a 0) = _
    rw [hr]
    rfl
  have hd1 : 352 / 32 = 11 := rfl
  have hd2 : 352 % 32 = 0 := rfl
  simp only [stp, hx, hs, hd1, hd2, e9]
  rw [if_pos (by decide)]
theorem r_getC {j a : Nat} (he : pEnt k pc = some (.getfield j, x, ps)) (hp : pc + 3 = pc') (hx : (x.toNat == 353) = true) (ha : a < 3) :
    wG d k (pc, L, .ref a :: st, mkH E ro) Q = wG d k (pc', L, .int 0 :: st, mkH E ro) Q := by
  subst hp
  simp only [beq_iff_eq] at hx
  refine wG_s he (fun cf => ?_)
  have hs : (mkH E ro).2.1 a = .inl 11 := by
    rw [mk_sh (by omega)]
    match a, ha with
    | 0, _ => rfl
    | 1, _ => rfl
    | 2, _ => rfl
    | a + 3, h => exact absurd h (by omega)
  have e9 : fv (mkH E ro) a 11 1 = .int 0 := by
    show Value.int ((mkH E ro).2.2.2 a 1) = _
    rw [mk_x (by omega)]
    match a, ha with
    | 0, _ => rfl
    | 1, _ => rfl
    | 2, _ => rfl
    | a + 3, h => exact absurd h (by omega)
  have hd1 : 353 / 32 = 11 := rfl
  have hd2 : 353 % 32 = 1 := rfl
  simp only [stp, hx, hs, hd1, hd2, e9]
  rw [if_pos (by decide)]
theorem uR_uR {f : Nat → Nat → Option Nat} {a k : Nat} {v w : Option Nat} : uR (uR f a k v) a k w = uR f a k w := by
  funext b c
  unfold uR
  by_cases hb : b = a
  · subst hb
    rw [up_s, up_s, up_s]
    by_cases hc : c = k
    · subst hc; rw [up_s, up_s]
    · rw [up_n hc, up_n hc, up_n hc]
  · rw [up_n hb, up_n hb, up_n hb]
theorem uR_s {f : Nat → Nat → Option Nat} {a k : Nat} {v : Option Nat} : uR f a k v a k = v := by
  unfold uR
  rw [up_s, up_s]
theorem mk_uN {q : Nat} (hq : q < 2 ^ 31) : uR (mkH E ro).2.2.1 81 1 (some q) = (mkH E (uI ro 9 0 (nI q))).2.2.1 := by
  have e1 : (uI ro 9 0 (nI q) 9 0).toNatClampNeg = q := by
    unfold uI
    rw [up_s, pk_us, nI_clamp hq]
  show uR (uR E.2.2 81 1 (some (ro 9 0).toNatClampNeg)) 81 1 (some q) = uR E.2.2 81 1 (some (uI ro 9 0 (nI q) 9 0).toNatClampNeg)
  rw [e1]
  exact uR_uR
theorem mk_uK {v : Int32} : (mkH E (uI ro 9 0 v)).2.2.2 = (mkH E ro).2.2.2 := by
  funext b
  show (if b < 10 then exI E.2.1 b else uI ro 9 0 v b) = if b < 10 then exI E.2.1 b else ro b
  by_cases hb : b < 10
  · rw [if_pos hb, if_pos hb]
  · rw [if_neg hb, if_neg hb]
    unfold uI
    rw [up_n (by omega)]
theorem r_getNm {j : Nat} (he : pEnt k pc = some (.getfield j, x, ps)) (hp : pc + 3 = pc') (hx : (x.toNat == 97) = true) :
    wG d k (pc, L, .ref 81 :: st, mkH E ro) Q = wG d k (pc', L, .ref (ro 9 0).toNatClampNeg :: st, mkH E ro) Q := by
  subst hp
  simp only [beq_iff_eq] at hx
  refine wG_s he (fun cf => ?_)
  have hs : (mkH E ro).2.1 81 = .inl 3 := mk_sh (by decide)
  have hr : (mkH E ro).2.2.1 81 1 = some (ro 9 0).toNatClampNeg := by
    show uR E.2.2 81 1 (some (ro 9 0).toNatClampNeg) 81 1 = _
    exact uR_s
  have e9 : fv (mkH E ro) 81 3 1 = .ref (ro 9 0).toNatClampNeg := by
    show va_rf ((mkH E ro).2.2.1 81 1) = _
    rw [hr]
    rfl
  have hd1 : 97 / 32 = 3 := rfl
  have hd2 : 97 % 32 = 1 := rfl
  simp only [stp, hx, hs, hd1, hd2, e9]
  rw [if_pos (by decide)]
theorem mk_uI1 {a sl : Nat} {v : Int32} (h10 : 10 ≤ a) : (mkH E (uI ro a sl v)).2.2.1 = (mkH E ro).2.2.1 := by
  have e1 : uI ro a sl v 9 0 = ro 9 0 := by
    unfold uI
    rw [up_n (by omega)]
  show uR E.2.2 81 1 (some (uI ro a sl v 9 0).toNatClampNeg) = uR E.2.2 81 1 (some (ro 9 0).toNatClampNeg)
  rw [e1]
theorem mk_uI2 {a sl : Nat} {v : Int32} (h10 : 10 ≤ a) : (mkH E (uI ro a sl v)).2.2.2 = uI (mkH E ro).2.2.2 a sl v := by
  funext b
  show (if b < 10 then exI E.2.1 b else va_up ro a (upd (ro a) sl v) b) = va_up (mkH E ro).2.2.2 a (upd ((mkH E ro).2.2.2 a) sl v) b
  rw [mk_i h10]
  by_cases hb : b = a
  · subst hb
    rw [up_s, up_s, if_neg (by omega)]
  · rw [up_n hb, up_n hb]
    rfl
theorem mk_eta {h : pH} {ro' : Nat → Nat → Int32} {A : Nat → Nat → Option Nat} {B : Nat → Nat → Int32} (e1 : (mkH E ro').2.2.1 = A) (e2 : (mkH E ro').2.2.2 = B) : ((mkH E ro).1, (mkH E ro).2.1, A, B) = mkH E ro' := by
  subst e1
  subst e2
  rfl
theorem mk_uI {a sl : Nat} {v : Int32} (h10 : 10 ≤ a) : ((mkH E ro).1, (mkH E ro).2.1, (mkH E ro).2.2.1, uI (mkH E ro).2.2.2 a sl v) = mkH E (uI ro a sl v) := mk_eta (h := mkH E ro) (mk_uI1 h10) (mk_uI2 h10)
theorem r_putI {j a ci sl : Nat} (he : pEnt k pc = some (.putfield j, x, ps)) (hp : pc + 3 = pc') (hx : (x.toNat == ci * 32 + sl && decide (sl < cNf ci) && ((cKd ci).getD sl 0 == 0) && decide (sl < 32)) = true) (hs : sB a = .inl ci) (h10 : 10 ≤ a) :
    wG d k (pc, L, .int v :: .ref a :: st, mkH E ro) Q = wG d k (pc', L, st, mkH E (uI ro a sl v)) Q := by
  subst hp
  simp only [Bool.and_eq_true, decide_eq_true_eq, beq_iff_eq] at hx
  obtain ⟨⟨⟨h1, h2⟩, h3⟩, h4⟩ := hx
  refine wG_s he (fun cf => ?_)
  have e1 : (ci * 32 + sl) / 32 = ci := by omega
  have e2 : (ci * 32 + sl) % 32 = sl := by omega
  simp only [stp, h1, e1, e2, mk_sh (E := E) (ro := ro) (show a ≠ 9 by omega), hs]
  rw [if_pos ⟨trivial, h2, h10, Or.inl h3⟩, mk_uI h10]
theorem r_putZ {j a ci sl : Nat} (he : pEnt k pc = some (.putfield j, x, ps)) (hp : pc + 3 = pc') (hx : (x.toNat == ci * 32 + sl && decide (sl < cNf ci) && ((cKd ci).getD sl 0 == 1) && decide (sl < 32)) = true) (hs : sB a = .inl ci) (h10 : 10 ≤ a) (hv : v = 0 ∨ v = 1) :
    wG d k (pc, L, .int v :: .ref a :: st, mkH E ro) Q = wG d k (pc', L, st, mkH E (uI ro a sl v)) Q := by
  subst hp
  simp only [Bool.and_eq_true, decide_eq_true_eq, beq_iff_eq] at hx
  obtain ⟨⟨⟨h1, h2⟩, h3⟩, h4⟩ := hx
  refine wG_s he (fun cf => ?_)
  have e1 : (ci * 32 + sl) / 32 = ci := by omega
  have e2 : (ci * 32 + sl) % 32 = sl := by omega
  simp only [stp, h1, e1, e2, mk_sh (E := E) (ro := ro) (show a ≠ 9 by omega), hs]
  rw [if_pos ⟨trivial, h2, h10, Or.inr ⟨h3, hv⟩⟩, mk_uI h10]
theorem r_putNm {j q : Nat} (he : pEnt k pc = some (.putfield j, x, ps)) (hp : pc + 3 = pc') (hx : (x.toNat == 97) = true) (hq : q < 2 ^ 31) :
    wG d k (pc, L, .ref q :: .ref 81 :: st, mkH E ro) Q = wG d k (pc', L, st, mkH E (uI ro 9 0 (nI q))) Q := by
  subst hp
  simp only [beq_iff_eq] at hx
  refine wG_s he (fun cf => ?_)
  have hs : (mkH E ro).2.1 81 = .inl 3 := mk_sh (by decide)
  have e9 : ((mkH E ro).1, (mkH E ro).2.1, uR (mkH E ro).2.2.1 81 1 (some q), (mkH E ro).2.2.2) = mkH E (uI ro 9 0 (nI q)) := by
    exact mk_eta (h := mkH E ro) (mk_uN hq).symm mk_uK
  have hd1 : 97 / 32 = 3 := rfl
  have hd2 : 97 % 32 = 1 := rfl
  simp only [stp, hx, hs, hd1, hd2]
  rw [if_pos (by decide), e9]
theorem r_alen {a t n : Nat} (he : pEnt k pc = some (.arraylength, x, ps)) (hp : pc + 1 = pc') (hs : sB a = .inr (t, n)) (h9 : a ≠ 9) (ht : t < 4) (hv : Int32.ofNat n = v) :
    wG d k (pc, L, .ref a :: st, mkH E ro) Q = wG d k (pc', L, .int v :: st, mkH E ro) Q := by
  subst hp
  subst hv
  refine wG_s he (fun cf => ?_)
  simp only [stp, mk_sh (E := E) (ro := ro) h9, hs]
  rw [if_pos ht]
theorem r_alenX (he : pEnt k pc = some (.arraylength, x, ps)) (hp : pc + 1 = pc') :
    wG d k (pc, L, .ref 9 :: st, mkH E ro) Q = wG d k (pc', L, .int (Int32.ofNat E.1) :: st, mkH E ro) Q := by
  subst hp
  refine wG_s he (fun cf => ?_)
  have hs : (mkH E ro).2.1 9 = .inr (0, E.1) := by
    show va_up sB 9 (.inr (0, E.1)) 9 = _
    exact up_s
  simp only [stp, hs]
  rw [if_pos (by decide)]
theorem r_iald {a n : Nat} {j : Int32} (he : pEnt k pc = some (.iaload, x, ps)) (hp : pc + 1 = pc') (hs : sB a = .inr (0, n)) (h10 : 10 ≤ a) (hi : ¬ j < 0 ∧ j.toNatClampNeg < n) :
    wG d k (pc, L, .int j :: .ref a :: st, mkH E ro) Q = wG d k (pc', L, .int (ro a j.toNatClampNeg) :: st, mkH E ro) Q := by
  subst hp
  refine wG_s he (fun cf => ?_)
  simp only [stp, mk_sh (E := E) (ro := ro) (show a ≠ 9 by omega), hs]
  rw [if_pos hi, mk_i h10]
theorem r_ialdX {j : Int32} (he : pEnt k pc = some (.iaload, x, ps)) (hp : pc + 1 = pc') (hi : ¬ j < 0 ∧ j.toNatClampNeg < E.1) :
    wG d k (pc, L, .int j :: .ref 9 :: st, mkH E ro) Q = wG d k (pc', L, .int (E.2.1 j.toNatClampNeg) :: st, mkH E ro) Q := by
  subst hp
  refine wG_s he (fun cf => ?_)
  have hs : (mkH E ro).2.1 9 = .inr (0, E.1) := by
    show va_up sB 9 (.inr (0, E.1)) 9 = _
    exact up_s
  simp only [stp, hs]
  rw [if_pos hi, mk_x (by decide)]
  rfl
theorem r_ialdT {a n : Nat} {j : Int32} (he : pEnt k pc = some (.iaload, x, ps)) (hp : pc + 1 = pc') (hs : sB a = .inr (0, n)) (h9 : a < 9) (hi : ¬ j < 0 ∧ j.toNatClampNeg < n) :
    wG d k (pc, L, .int j :: .ref a :: st, mkH E ro) Q = wG d k (pc', L, .int (exI E.2.1 a j.toNatClampNeg) :: st, mkH E ro) Q := by
  subst hp
  refine wG_s he (fun cf => ?_)
  simp only [stp, mk_sh (E := E) (ro := ro) (show a ≠ 9 by omega), hs]
  rw [if_pos hi, mk_x (by omega)]
theorem r_bald {a n : Nat} {j : Int32} (he : pEnt k pc = some (.baload, x, ps)) (hp : pc + 1 = pc') (hs : sB a = .inr (1, n)) (h9 : a < 9) (hi : ¬ j < 0 ∧ j.toNatClampNeg < n) :
    wG d k (pc, L, .int j :: .ref a :: st, mkH E ro) Q = wG d k (pc', L, .int (exI E.2.1 a j.toNatClampNeg) :: st, mkH E ro) Q := by
  subst hp
  refine wG_s he (fun cf => ?_)
  simp only [stp, mk_sh (E := E) (ro := ro) (show a ≠ 9 by omega), hs]
  rw [if_pos hi, mk_x (by omega)]
theorem r_aald {a t n q : Nat} {j : Int32} (hE : oE E) (he : pEnt k pc = some (.aaload, x, ps)) (hp : pc + 1 = pc') (hs : sB a = .inr (t, n)) (ht : t = 2 ∨ t = 3) (h10 : 10 ≤ a) (hi : ¬ j < 0 ∧ j.toNatClampNeg < n) (hn : n ≤ 30) (h81 : a ≠ 81) (hr : rB a j.toNatClampNeg = some q) :
    wG d k (pc, L, .int j :: .ref a :: st, mkH E ro) Q = wG d k (pc', L, .ref q :: st, mkH E ro) Q := by
  subst hp
  refine wG_s he (fun cf => ?_)
  have hlt := sB_lt hs (fun z => by cases z; omega)
  simp only [stp, mk_sh (E := E) (ro := ro) (show a ≠ 9 by omega), hs]
  rw [if_pos ⟨ht, h10, hi.1, hi.2⟩, mk_r hE h10 hlt (by omega) (by simp [h81]), hr]
  rfl
theorem r_iast {a n : Nat} {j : Int32} (he : pEnt k pc = some (.iastore, x, ps)) (hp : pc + 1 = pc') (hs : sB a = .inr (0, n)) (h10 : 10 ≤ a) (hi : ¬ j < 0 ∧ j.toNatClampNeg < n) :
    wG d k (pc, L, .int v :: .int j :: .ref a :: st, mkH E ro) Q = wG d k (pc', L, st, mkH E (uI ro a j.toNatClampNeg v)) Q := by
  subst hp
  refine wG_s he (fun cf => ?_)
  simp only [stp, mk_sh (E := E) (ro := ro) (show a ≠ 9 by omega), hs]
  rw [if_pos ⟨h10, hi.1, hi.2⟩, mk_uI h10]
theorem r_gets {i q : Nat} (he : pEnt k pc = some (.getstatic i, x, ps)) (hp : pc + 3 = pc') (hx : (decide (x.toNat < 3) && (6 + x.toNat == q)) = true) : wG d k (pc, L, st, h) Q = wG d k (pc', L, .ref q :: st, h) Q := by
  subst hp
  simp only [Bool.and_eq_true, decide_eq_true_eq, beq_iff_eq] at hx
  refine wG_s he (fun cf => ?_)
  simp only [stp]
  rw [if_pos hx.1, hx.2]
theorem r_getsC {i : Nat} (he : pEnt k pc = some (.getstatic i, x, ps)) (hp : pc + 3 = pc') (hx : (x.toNat == 3) = true) : wG d k (pc, L, st, h) Q = wG d k (pc', L, .int 1 :: st, h) Q := by
  subst hp
  simp only [beq_iff_eq] at hx
  refine wG_s he (fun cf => ?_)
  simp only [stp, hx]
  rfl
theorem r_max {i : Nat} (he : pEnt k pc = some (.invokestatic i, -3, ps)) (hp : pc + 3 = pc') (hl : (decide (st.length ≤ 4)) = true) : wG d k (pc, L, .int y :: .int v :: st, h) Q = wG d k (pc', L, .int (if v < y then y else v) :: st, h) Q := by
  subst hp
  simp only [decide_eq_true_eq] at hl
  refine wG_s he (fun cf => ?_)
  simp only [stp]
  rw [if_neg (by decide), if_neg (by decide), if_pos (by decide), if_pos hl]
theorem r_min {i : Nat} (he : pEnt k pc = some (.invokestatic i, -4, ps)) (hp : pc + 3 = pc') (hl : (decide (st.length ≤ 4)) = true) : wG d k (pc, L, .int y :: .int v :: st, h) Q = wG d k (pc', L, .int (if y < v then y else v) :: st, h) Q := by
  subst hp
  simp only [decide_eq_true_eq] at hl
  refine wG_s he (fun cf => ?_)
  simp only [stp]
  rw [if_neg (by decide), if_neg (by decide), if_neg (by decide), if_pos (by decide), if_pos hl]
theorem mk_uA {a : Nat} {g : Nat → Int32} (h10 : 10 ≤ a) : ((mkH E ro).1, (mkH E ro).2.1, (mkH E ro).2.2.1, va_up (mkH E ro).2.2.2 a g) = mkH E (va_up ro a g) := by
  refine mk_eta (h := mkH E ro) ?_ ?_
  · have e1 : va_up ro a g 9 0 = ro 9 0 := by rw [up_n (by omega)]
    show uR E.2.2 81 1 (some (va_up ro a g 9 0).toNatClampNeg) = uR E.2.2 81 1 (some (ro 9 0).toNatClampNeg)
    rw [e1]
  · funext b
    show (if b < 10 then exI E.2.1 b else va_up ro a g b) = va_up (mkH E ro).2.2.2 a g b
    by_cases hb : b = a
    · subst hb
      rw [up_s, up_s, if_neg (by omega)]
    · rw [up_n hb, up_n hb]
      rfl
theorem r_copy {i a b na nb : Nat} {sp dp n : Int32} (he : pEnt k pc = some (.invokestatic i, -2, ps)) (hp : pc + 3 = pc') (hsa : sB a = .inr (0, na)) (hsb : sB b = .inr (0, nb)) (ha : 10 ≤ a) (hb : 10 ≤ b) (h1 : ¬ sp < 0) (h2 : ¬ dp < 0) (h3 : ¬ n < 0) (h4 : sp.toNatClampNeg + n.toNatClampNeg ≤ na) (h5 : dp.toNatClampNeg + n.toNatClampNeg ≤ nb) (hl : (decide (st.length ≤ 4)) = true) :
    wG d k (pc, L, .int n :: .int dp :: .ref b :: .int sp :: .ref a :: st, mkH E ro) Q = wG d k (pc', L, st, mkH E (va_up ro b (va_cpy (ro a) (ro b) sp.toNatClampNeg dp.toNatClampNeg n.toNatClampNeg))) Q := by
  subst hp
  simp only [decide_eq_true_eq] at hl
  refine wG_s he (fun cf => ?_)
  simp only [stp, mk_sh (E := E) (ro := ro) (show a ≠ 9 by omega), mk_sh (E := E) (ro := ro) (show b ≠ 9 by omega), hsa, hsb]
  rw [if_neg (by decide), if_pos (by decide), if_pos ⟨ha, hb, h1, h2, h3, h4, h5, hl⟩, mk_i ha, mk_i hb, mk_uA hb]
/-! calls and returns -/
theorem r_inv {i b c : Nat} {as rest : List Value} (he : pEnt k pc = some (.invokevirtual i, x, ps)) (hp : pc + 3 = pc') (hx : (decide (0 ≤ x) && (x.toNat == m)) = true) (ha : (st.take (mSig m).length).reverse = .ref b :: as) (hr : st.drop (mSig m).length = rest) (hl : (decide ((mSig m).length ≤ st.length) && decide (st.length - (mSig m).length ≤ 4)) = true) (hs : sB b = .inl c) (hc : (mOwn m == c) = true) :
    wG d k (pc, L, st, mkH E ro) Q = wX d m (.ref b :: as) (mkH E ro) (fun v h' => wG d k (pc', L, pv v rest, h') Q) := by
  subst hp
  subst hr
  simp only [Bool.and_eq_true, decide_eq_true_eq, beq_iff_eq] at hx hl hc
  have h9 : b ≠ 9 := fun e => by subst e; cases hs
  have := wG_c (d := d) (k := k) (pc := pc) (m := m) (L := L) (st := st) (h := mkH E ro) (Q := Q) (as := .ref b :: as) (rest := st.drop (mSig m).length) he (fun cf => by
    simp only [stp, hx.2]
    have ho : isO m (st.take (mSig m).length).reverse (mkH E ro) = true := by
      rw [ha]
      unfold isO
      simp only [decide_eq_true_eq]
      rw [mk_sh h9, hs, hc]
    rw [if_pos ⟨hx.1, ho⟩]
    unfold doC
    rw [if_neg (by omega), ha]
    generalize cf m _ _ = z
    cases z <;> rfl)
  rw [this]
  simp only [pv_eq]
theorem r_ins {i : Nat} {as rest : List Value} (he : pEnt k pc = some (.invokestatic i, x, ps)) (hp : pc + 3 = pc') (hx : (decide (0 ≤ x) && (x.toNat == m)) = true) (ha : (st.take (mSig m).length).reverse = as) (hr : st.drop (mSig m).length = rest) (hl : (decide ((mSig m).length ≤ st.length) && decide (st.length - (mSig m).length ≤ 4)) = true) :
    wG d k (pc, L, st, h) Q = wX d m as h (fun v h' => wG d k (pc', L, pv v rest, h') Q) := by
  subst hp
  subst hr
  subst ha
  simp only [Bool.and_eq_true, decide_eq_true_eq, beq_iff_eq] at hx hl
  have := wG_c (d := d) (k := k) (pc := pc) (m := m) (L := L) (st := st) (h := h) (Q := Q) (as := (st.take (mSig m).length).reverse) (rest := st.drop (mSig m).length) he (fun cf => by
    simp only [stp, hx.2]
    rw [if_pos hx.1]
    unfold doC
    rw [if_neg (by omega)]
    generalize cf m _ _ = z
    cases z <;> rfl)
  rw [this]
  simp only [pv_eq]
theorem r_inp {i : Nat} {as rest : List Value} (he : pEnt k pc = some (.invokespecial i, x, ps)) (hp : pc + 3 = pc') (hx : (decide (0 ≤ x) && (x.toNat == m)) = true) (ha : (st.take (mSig m).length).reverse = as) (hr : st.drop (mSig m).length = rest) (hl : (decide ((mSig m).length ≤ st.length) && decide (st.length - (mSig m).length ≤ 4)) = true) :
    wG d k (pc, L, st, h) Q = wX d m as h (fun v h' => wG d k (pc', L, pv v rest, h') Q) := by
  subst hp
  subst hr
  subst ha
  simp only [Bool.and_eq_true, decide_eq_true_eq, beq_iff_eq] at hx hl
  have := wG_c (d := d) (k := k) (pc := pc) (m := m) (L := L) (st := st) (h := h) (Q := Q) (as := (st.take (mSig m).length).reverse) (rest := st.drop (mSig m).length) he (fun cf => by
    simp only [stp, hx.2]
    rw [if_pos hx.1]
    unfold doC
    rw [if_neg (by omega)]
    generalize cf m _ _ = z
    cases z <;> rfl)
  rw [this]
  simp only [pv_eq]
theorem r_iret (he : pEnt k pc = some (.ireturn, x, ps)) (hm : mRet k = some .int) : wG d k (pc, L, [.int v], h) Q = Q (some (.int v)) h := wG_r he (fun cf => by
  simp only [stp, hm]
  rw [if_pos (show narrow .int (.int v) = .int v from rfl)])
theorem r_zret {ty : FieldType} (he : pEnt k pc = some (.ireturn, x, ps)) (hm : mRet k = some ty) (hn : narrow ty (.int v) = .int v) : wG d k (pc, L, [.int v], h) Q = Q (some (.int v)) h := wG_r he (fun cf => by
  simp only [stp, hm]
  rw [if_pos hn])
theorem r_aret {q : Nat} {nm : String} (he : pEnt k pc = some (.areturn, x, ps)) (hm : mRet k = some (.object nm)) : wG d k (pc, L, [.ref q], h) Q = Q (some (.ref q)) h := wG_r he (fun cf => by
  simp only [stp, hm])
theorem r_vret (he : pEnt k pc = some (.return_, x, ps)) (hm : mRet k = none) : wG d k (pc, L, [], h) Q = Q none h := wG_r he (fun cf => by
  simp only [stp, hm])

end RUM
end
section
/-! the end -/
theorem zz_end : True := trivial
end
