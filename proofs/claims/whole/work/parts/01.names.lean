-- ===== PART A: goes FIRST, ahead of the names: the tables' words, and 'selects' of the private methods out of them =====
/-- a private method of a class that the tables say can be made, by its rows of tables_1 -/
def lw_okq (q : MethodName × Nat) : Prop := (q.1.cls ≠ "java/lang/invoke/MethodHandle" ∧ q.1.cls ≠ "java/lang/invoke/VarHandle") ∧ Cond.instantiable q.1.cls q.2 ∈ tables_1 ∧ Cond.privateMethod q.1 ∈ tables_1 ∧ Cond.instanceMethod q.1 ∈ tables_1
theorem lw_p0 : lw_okq (⟨"StreetTongues$Reader", "skipBlanks", "()V"⟩, 7) := ⟨⟨by decide +kernel, by decide +kernel⟩, List.mem_of_getElem? (i := 116) (by decide +kernel), List.mem_of_getElem? (i := 389) (by decide +kernel), List.mem_of_getElem? (i := 390) (by decide +kernel)⟩
theorem lw_p1 : lw_okq (⟨"StreetTongues$Reader", "letter", "()I"⟩, 7) := ⟨⟨by decide +kernel, by decide +kernel⟩, List.mem_of_getElem? (i := 116) (by decide +kernel), List.mem_of_getElem? (i := 393) (by decide +kernel), List.mem_of_getElem? (i := 394) (by decide +kernel)⟩
theorem lw_p2 : lw_okq (⟨"StreetTongues$Reader", "readClause", "()V"⟩, 7) := ⟨⟨by decide +kernel, by decide +kernel⟩, List.mem_of_getElem? (i := 116) (by decide +kernel), List.mem_of_getElem? (i := 397) (by decide +kernel), List.mem_of_getElem? (i := 398) (by decide +kernel)⟩
theorem lw_p3 : lw_okq (⟨"StreetTongues$Reader", "readWords", "()V"⟩, 7) := ⟨⟨by decide +kernel, by decide +kernel⟩, List.mem_of_getElem? (i := 116) (by decide +kernel), List.mem_of_getElem? (i := 401) (by decide +kernel), List.mem_of_getElem? (i := 402) (by decide +kernel)⟩
theorem lw_p4 : lw_okq (⟨"StreetTongues$Reader", "blameAt", "(II)V"⟩, 7) := ⟨⟨by decide +kernel, by decide +kernel⟩, List.mem_of_getElem? (i := 116) (by decide +kernel), List.mem_of_getElem? (i := 405) (by decide +kernel), List.mem_of_getElem? (i := 406) (by decide +kernel)⟩
theorem lw_p5 : lw_okq (⟨"StreetTongues$Reader", "readNumber", "(II)I"⟩, 7) := ⟨⟨by decide +kernel, by decide +kernel⟩, List.mem_of_getElem? (i := 116) (by decide +kernel), List.mem_of_getElem? (i := 409) (by decide +kernel), List.mem_of_getElem? (i := 410) (by decide +kernel)⟩
theorem lw_p6 : lw_okq (⟨"StreetTongues$Reader", "readEnd", "()V"⟩, 7) := ⟨⟨by decide +kernel, by decide +kernel⟩, List.mem_of_getElem? (i := 116) (by decide +kernel), List.mem_of_getElem? (i := 416) (by decide +kernel), List.mem_of_getElem? (i := 417) (by decide +kernel)⟩
theorem lw_p7 : lw_okq (⟨"StreetTongues$Reader", "readStreet", "()V"⟩, 7) := ⟨⟨by decide +kernel, by decide +kernel⟩, List.mem_of_getElem? (i := 116) (by decide +kernel), List.mem_of_getElem? (i := 420) (by decide +kernel), List.mem_of_getElem? (i := 421) (by decide +kernel)⟩
theorem lw_p8 : lw_okq (⟨"StreetTongues$Reader", "readCorner", "()V"⟩, 7) := ⟨⟨by decide +kernel, by decide +kernel⟩, List.mem_of_getElem? (i := 116) (by decide +kernel), List.mem_of_getElem? (i := 424) (by decide +kernel), List.mem_of_getElem? (i := 425) (by decide +kernel)⟩
theorem lw_p9 : lw_okq (⟨"StreetTongues$Chairs", "staysEverywhere", "(I)Z"⟩, 2) := ⟨⟨by decide +kernel, by decide +kernel⟩, List.mem_of_getElem? (i := 187) (by decide +kernel), List.mem_of_getElem? (i := 497) (by decide +kernel), List.mem_of_getElem? (i := 498) (by decide +kernel)⟩
theorem lw_p10 : lw_okq (⟨"StreetTongues$Affairs", "countInsults", "(LStreetTongues$Town;I)I"⟩, 1) := ⟨⟨by decide +kernel, by decide +kernel⟩, List.mem_of_getElem? (i := 150) (by decide +kernel), List.mem_of_getElem? (i := 516) (by decide +kernel), List.mem_of_getElem? (i := 517) (by decide +kernel)⟩
theorem lw_p11 : lw_okq (⟨"StreetTongues$Affairs", "makePeace", "(II)V"⟩, 1) := ⟨⟨by decide +kernel, by decide +kernel⟩, List.mem_of_getElem? (i := 150) (by decide +kernel), List.mem_of_getElem? (i := 607) (by decide +kernel), List.mem_of_getElem? (i := 608) (by decide +kernel)⟩
theorem lw_p12 : lw_okq (⟨"StreetTongues$Affairs", "enter", "(IIII)V"⟩, 1) := ⟨⟨by decide +kernel, by decide +kernel⟩, List.mem_of_getElem? (i := 150) (by decide +kernel), List.mem_of_getElem? (i := 615) (by decide +kernel), List.mem_of_getElem? (i := 616) (by decide +kernel)⟩
theorem lw_p13 : lw_okq (⟨"StreetTongues$Ways", "measure", "(I)V"⟩, 6) := ⟨⟨by decide +kernel, by decide +kernel⟩, List.mem_of_getElem? (i := 204) (by decide +kernel), List.mem_of_getElem? (i := 632) (by decide +kernel), List.mem_of_getElem? (i := 633) (by decide +kernel)⟩
theorem lw_p14 : lw_okq (⟨"StreetTongues$Ways", "price", "(I)I"⟩, 6) := ⟨⟨by decide +kernel, by decide +kernel⟩, List.mem_of_getElem? (i := 204) (by decide +kernel), List.mem_of_getElem? (i := 639) (by decide +kernel), List.mem_of_getElem? (i := 640) (by decide +kernel)⟩
theorem lw_p15 : lw_okq (⟨"StreetTongues$Ways", "lower", "(III)Z"⟩, 6) := ⟨⟨by decide +kernel, by decide +kernel⟩, List.mem_of_getElem? (i := 204) (by decide +kernel), List.mem_of_getElem? (i := 643) (by decide +kernel), List.mem_of_getElem? (i := 644) (by decide +kernel)⟩
def lw_privs_1 : List (MethodName × Nat) := [(⟨"StreetTongues$Reader", "skipBlanks", "()V"⟩, 7), (⟨"StreetTongues$Reader", "letter", "()I"⟩, 7), (⟨"StreetTongues$Reader", "readClause", "()V"⟩, 7), (⟨"StreetTongues$Reader", "readWords", "()V"⟩, 7), (⟨"StreetTongues$Reader", "blameAt", "(II)V"⟩, 7), (⟨"StreetTongues$Reader", "readNumber", "(II)I"⟩, 7), (⟨"StreetTongues$Reader", "readEnd", "()V"⟩, 7), (⟨"StreetTongues$Reader", "readStreet", "()V"⟩, 7), (⟨"StreetTongues$Reader", "readCorner", "()V"⟩, 7), (⟨"StreetTongues$Chairs", "staysEverywhere", "(I)Z"⟩, 2), (⟨"StreetTongues$Affairs", "countInsults", "(LStreetTongues$Town;I)I"⟩, 1), (⟨"StreetTongues$Affairs", "makePeace", "(II)V"⟩, 1), (⟨"StreetTongues$Affairs", "enter", "(IIII)V"⟩, 1), (⟨"StreetTongues$Ways", "measure", "(I)V"⟩, 6), (⟨"StreetTongues$Ways", "price", "(I)I"⟩, 6), (⟨"StreetTongues$Ways", "lower", "(III)Z"⟩, 6)]
theorem lw_r1 : ∀ q ∈ lw_privs_1, lw_okq q := List.forall_mem_cons.mpr ⟨lw_p0, List.forall_mem_cons.mpr ⟨lw_p1, List.forall_mem_cons.mpr ⟨lw_p2, List.forall_mem_cons.mpr ⟨lw_p3, List.forall_mem_cons.mpr ⟨lw_p4, List.forall_mem_cons.mpr ⟨lw_p5, List.forall_mem_cons.mpr ⟨lw_p6, List.forall_mem_cons.mpr ⟨lw_p7, List.forall_mem_cons.mpr ⟨lw_p8, List.forall_mem_cons.mpr ⟨lw_p9, List.forall_mem_cons.mpr ⟨lw_p10, List.forall_mem_cons.mpr ⟨lw_p11, List.forall_mem_cons.mpr ⟨lw_p12, List.forall_mem_cons.mpr ⟨lw_p13, List.forall_mem_cons.mpr ⟨lw_p14, List.forall_mem_cons.mpr ⟨lw_p15, fun _ h => absurd h List.not_mem_nil⟩⟩⟩⟩⟩⟩⟩⟩⟩⟩⟩⟩⟩⟩⟩⟩
theorem lw_p16 : lw_okq (⟨"StreetTongues$Ways", "firstCorner", "(I)I"⟩, 6) := ⟨⟨by decide +kernel, by decide +kernel⟩, List.mem_of_getElem? (i := 204) (by decide +kernel), List.mem_of_getElem? (i := 647) (by decide +kernel), List.mem_of_getElem? (i := 648) (by decide +kernel)⟩
theorem lw_p17 : lw_okq (⟨"StreetTongues", "deliver", "(III)I"⟩, 11) := ⟨⟨by decide +kernel, by decide +kernel⟩, List.mem_of_getElem? (i := 18) (by decide +kernel), List.mem_of_getElem? (i := 652) (by decide +kernel), List.mem_of_getElem? (i := 653) (by decide +kernel)⟩
theorem lw_p18 : lw_okq (⟨"StreetTongues", "passDay", "()V"⟩, 11) := ⟨⟨by decide +kernel, by decide +kernel⟩, List.mem_of_getElem? (i := 18) (by decide +kernel), List.mem_of_getElem? (i := 687) (by decide +kernel), List.mem_of_getElem? (i := 688) (by decide +kernel)⟩
theorem lw_p19 : lw_okq (⟨"StreetTongues", "draw", "(I)I"⟩, 11) := ⟨⟨by decide +kernel, by decide +kernel⟩, List.mem_of_getElem? (i := 18) (by decide +kernel), List.mem_of_getElem? (i := 691) (by decide +kernel), List.mem_of_getElem? (i := 692) (by decide +kernel)⟩
theorem lw_p20 : lw_okq (⟨"StreetTongues$Meanings", "spread", "(Z)V"⟩, 4) := ⟨⟨by decide +kernel, by decide +kernel⟩, List.mem_of_getElem? (i := 232) (by decide +kernel), List.mem_of_getElem? (i := 736) (by decide +kernel), List.mem_of_getElem? (i := 737) (by decide +kernel)⟩
theorem lw_p21 : lw_okq (⟨"StreetTongues$Meanings", "spreadBy", "(IZI)Z"⟩, 4) := ⟨⟨by decide +kernel, by decide +kernel⟩, List.mem_of_getElem? (i := 232) (by decide +kernel), List.mem_of_getElem? (i := 741) (by decide +kernel), List.mem_of_getElem? (i := 742) (by decide +kernel)⟩
theorem lw_p22 : lw_okq (⟨"StreetTongues$Meanings", "known", "(II)I"⟩, 4) := ⟨⟨by decide +kernel, by decide +kernel⟩, List.mem_of_getElem? (i := 232) (by decide +kernel), List.mem_of_getElem? (i := 746) (by decide +kernel), List.mem_of_getElem? (i := 747) (by decide +kernel)⟩
theorem lw_p23 : lw_okq (⟨"StreetTongues$Meanings", "wordsInto", "(IZI)I"⟩, 4) := ⟨⟨by decide +kernel, by decide +kernel⟩, List.mem_of_getElem? (i := 232) (by decide +kernel), List.mem_of_getElem? (i := 762) (by decide +kernel), List.mem_of_getElem? (i := 763) (by decide +kernel)⟩
theorem lw_p24 : lw_okq (⟨"StreetTongues$Plan", "measureAll", "()V"⟩, 8) := ⟨⟨by decide +kernel, by decide +kernel⟩, List.mem_of_getElem? (i := 252) (by decide +kernel), List.mem_of_getElem? (i := 789) (by decide +kernel), List.mem_of_getElem? (i := 790) (by decide +kernel)⟩
theorem lw_p25 : lw_okq (⟨"StreetTongues$Plan", "measureBy", "(I)V"⟩, 8) := ⟨⟨by decide +kernel, by decide +kernel⟩, List.mem_of_getElem? (i := 252) (by decide +kernel), List.mem_of_getElem? (i := 796) (by decide +kernel), List.mem_of_getElem? (i := 797) (by decide +kernel)⟩
theorem lw_p26 : lw_okq (⟨"StreetTongues$Plan", "penceOf", "(II)I"⟩, 8) := ⟨⟨by decide +kernel, by decide +kernel⟩, List.mem_of_getElem? (i := 252) (by decide +kernel), List.mem_of_getElem? (i := 800) (by decide +kernel), List.mem_of_getElem? (i := 801) (by decide +kernel)⟩
theorem lw_p27 : lw_okq (⟨"StreetTongues$Plan", "totalWith", "(II)I"⟩, 8) := ⟨⟨by decide +kernel, by decide +kernel⟩, List.mem_of_getElem? (i := 252) (by decide +kernel), List.mem_of_getElem? (i := 805) (by decide +kernel), List.mem_of_getElem? (i := 806) (by decide +kernel)⟩
theorem lw_p28 : lw_okq (⟨"StreetTongues$Plan", "cornersOutOf", "(I)I"⟩, 8) := ⟨⟨by decide +kernel, by decide +kernel⟩, List.mem_of_getElem? (i := 252) (by decide +kernel), List.mem_of_getElem? (i := 818) (by decide +kernel), List.mem_of_getElem? (i := 819) (by decide +kernel)⟩
theorem lw_p29 : lw_okq (⟨"StreetTongues$Plan", "visit", "(III)V"⟩, 8) := ⟨⟨by decide +kernel, by decide +kernel⟩, List.mem_of_getElem? (i := 252) (by decide +kernel), List.mem_of_getElem? (i := 835) (by decide +kernel), List.mem_of_getElem? (i := 836) (by decide +kernel)⟩
theorem lw_p30 : lw_okq (⟨"StreetTongues$Guess", "fits", "(III)Z"⟩, 6) := ⟨⟨by decide +kernel, by decide +kernel⟩, List.mem_of_getElem? (i := 285) (by decide +kernel), List.mem_of_getElem? (i := 865) (by decide +kernel), List.mem_of_getElem? (i := 866) (by decide +kernel)⟩
theorem lw_p31 : lw_okq (⟨"StreetTongues$Guess", "greatestPart", "(II)I"⟩, 6) := ⟨⟨by decide +kernel, by decide +kernel⟩, List.mem_of_getElem? (i := 285) (by decide +kernel), List.mem_of_getElem? (i := 879) (by decide +kernel), List.mem_of_getElem? (i := 880) (by decide +kernel)⟩
def lw_privs_2 : List (MethodName × Nat) := [(⟨"StreetTongues$Ways", "firstCorner", "(I)I"⟩, 6), (⟨"StreetTongues", "deliver", "(III)I"⟩, 11), (⟨"StreetTongues", "passDay", "()V"⟩, 11), (⟨"StreetTongues", "draw", "(I)I"⟩, 11), (⟨"StreetTongues$Meanings", "spread", "(Z)V"⟩, 4), (⟨"StreetTongues$Meanings", "spreadBy", "(IZI)Z"⟩, 4), (⟨"StreetTongues$Meanings", "known", "(II)I"⟩, 4), (⟨"StreetTongues$Meanings", "wordsInto", "(IZI)I"⟩, 4), (⟨"StreetTongues$Plan", "measureAll", "()V"⟩, 8), (⟨"StreetTongues$Plan", "measureBy", "(I)V"⟩, 8), (⟨"StreetTongues$Plan", "penceOf", "(II)I"⟩, 8), (⟨"StreetTongues$Plan", "totalWith", "(II)I"⟩, 8), (⟨"StreetTongues$Plan", "cornersOutOf", "(I)I"⟩, 8), (⟨"StreetTongues$Plan", "visit", "(III)V"⟩, 8), (⟨"StreetTongues$Guess", "fits", "(III)Z"⟩, 6), (⟨"StreetTongues$Guess", "greatestPart", "(II)I"⟩, 6)]
theorem lw_r2 : ∀ q ∈ lw_privs_2, lw_okq q := List.forall_mem_cons.mpr ⟨lw_p16, List.forall_mem_cons.mpr ⟨lw_p17, List.forall_mem_cons.mpr ⟨lw_p18, List.forall_mem_cons.mpr ⟨lw_p19, List.forall_mem_cons.mpr ⟨lw_p20, List.forall_mem_cons.mpr ⟨lw_p21, List.forall_mem_cons.mpr ⟨lw_p22, List.forall_mem_cons.mpr ⟨lw_p23, List.forall_mem_cons.mpr ⟨lw_p24, List.forall_mem_cons.mpr ⟨lw_p25, List.forall_mem_cons.mpr ⟨lw_p26, List.forall_mem_cons.mpr ⟨lw_p27, List.forall_mem_cons.mpr ⟨lw_p28, List.forall_mem_cons.mpr ⟨lw_p29, List.forall_mem_cons.mpr ⟨lw_p30, List.forall_mem_cons.mpr ⟨lw_p31, fun _ h => absurd h List.not_mem_nil⟩⟩⟩⟩⟩⟩⟩⟩⟩⟩⟩⟩⟩⟩⟩⟩
theorem lw_p32 : lw_okq (⟨"StreetTonguesModel", "here", "()I"⟩, 47) := ⟨⟨by decide +kernel, by decide +kernel⟩, List.mem_of_getElem? (i := 932) (by decide +kernel), List.mem_of_getElem? (i := 1095) (by decide +kernel), List.mem_of_getElem? (i := 1096) (by decide +kernel)⟩
theorem lw_p33 : lw_okq (⟨"StreetTonguesModel", "takeClause", "()I"⟩, 47) := ⟨⟨by decide +kernel, by decide +kernel⟩, List.mem_of_getElem? (i := 932) (by decide +kernel), List.mem_of_getElem? (i := 1099) (by decide +kernel), List.mem_of_getElem? (i := 1100) (by decide +kernel)⟩
theorem lw_p34 : lw_okq (⟨"StreetTonguesModel", "fails", "(II)I"⟩, 47) := ⟨⟨by decide +kernel, by decide +kernel⟩, List.mem_of_getElem? (i := 932) (by decide +kernel), List.mem_of_getElem? (i := 1103) (by decide +kernel), List.mem_of_getElem? (i := 1104) (by decide +kernel)⟩
theorem lw_p35 : lw_okq (⟨"StreetTonguesModel", "takeWords", "()I"⟩, 47) := ⟨⟨by decide +kernel, by decide +kernel⟩, List.mem_of_getElem? (i := 932) (by decide +kernel), List.mem_of_getElem? (i := 1107) (by decide +kernel), List.mem_of_getElem? (i := 1108) (by decide +kernel)⟩
theorem lw_p36 : lw_okq (⟨"StreetTonguesModel", "takeNumber", "(II)I"⟩, 47) := ⟨⟨by decide +kernel, by decide +kernel⟩, List.mem_of_getElem? (i := 932) (by decide +kernel), List.mem_of_getElem? (i := 1111) (by decide +kernel), List.mem_of_getElem? (i := 1112) (by decide +kernel)⟩
theorem lw_p37 : lw_okq (⟨"StreetTonguesModel", "takeStreet", "()I"⟩, 47) := ⟨⟨by decide +kernel, by decide +kernel⟩, List.mem_of_getElem? (i := 932) (by decide +kernel), List.mem_of_getElem? (i := 1117) (by decide +kernel), List.mem_of_getElem? (i := 1118) (by decide +kernel)⟩
theorem lw_p38 : lw_okq (⟨"StreetTonguesModel", "into", "([IIII)I"⟩, 47) := ⟨⟨by decide +kernel, by decide +kernel⟩, List.mem_of_getElem? (i := 932) (by decide +kernel), List.mem_of_getElem? (i := 1121) (by decide +kernel), List.mem_of_getElem? (i := 1122) (by decide +kernel)⟩
theorem lw_p39 : lw_okq (⟨"StreetTonguesModel", "takeCorner", "()I"⟩, 47) := ⟨⟨by decide +kernel, by decide +kernel⟩, List.mem_of_getElem? (i := 932) (by decide +kernel), List.mem_of_getElem? (i := 1125) (by decide +kernel), List.mem_of_getElem? (i := 1126) (by decide +kernel)⟩
theorem lw_p40 : lw_okq (⟨"StreetTonguesModel", "isJoined", "(II)Z"⟩, 47) := ⟨⟨by decide +kernel, by decide +kernel⟩, List.mem_of_getElem? (i := 932) (by decide +kernel), List.mem_of_getElem? (i := 1129) (by decide +kernel), List.mem_of_getElem? (i := 1130) (by decide +kernel)⟩
theorem lw_p41 : lw_okq (⟨"StreetTonguesModel", "takeRead", "()V"⟩, 47) := ⟨⟨by decide +kernel, by decide +kernel⟩, List.mem_of_getElem? (i := 932) (by decide +kernel), List.mem_of_getElem? (i := 1133) (by decide +kernel), List.mem_of_getElem? (i := 1134) (by decide +kernel)⟩
theorem lw_p42 : lw_okq (⟨"StreetTonguesModel", "feuds", "()I"⟩, 47) := ⟨⟨by decide +kernel, by decide +kernel⟩, List.mem_of_getElem? (i := 932) (by decide +kernel), List.mem_of_getElem? (i := 1148) (by decide +kernel), List.mem_of_getElem? (i := 1149) (by decide +kernel)⟩
theorem lw_p43 : lw_okq (⟨"StreetTonguesModel", "everywhere", "()I"⟩, 47) := ⟨⟨by decide +kernel, by decide +kernel⟩, List.mem_of_getElem? (i := 932) (by decide +kernel), List.mem_of_getElem? (i := 1155) (by decide +kernel), List.mem_of_getElem? (i := 1156) (by decide +kernel)⟩
theorem lw_p44 : lw_okq (⟨"StreetTonguesModel", "overAt", "(IZI)I"⟩, 47) := ⟨⟨by decide +kernel, by decide +kernel⟩, List.mem_of_getElem? (i := 932) (by decide +kernel), List.mem_of_getElem? (i := 1159) (by decide +kernel), List.mem_of_getElem? (i := 1160) (by decide +kernel)⟩
theorem lw_p45 : lw_okq (⟨"StreetTonguesModel", "slipBy", "(IIII)I"⟩, 47) := ⟨⟨by decide +kernel, by decide +kernel⟩, List.mem_of_getElem? (i := 932) (by decide +kernel), List.mem_of_getElem? (i := 1163) (by decide +kernel), List.mem_of_getElem? (i := 1164) (by decide +kernel)⟩
theorem lw_p46 : lw_okq (⟨"StreetTonguesModel", "blame", "()I"⟩, 47) := ⟨⟨by decide +kernel, by decide +kernel⟩, List.mem_of_getElem? (i := 932) (by decide +kernel), List.mem_of_getElem? (i := 1167) (by decide +kernel), List.mem_of_getElem? (i := 1168) (by decide +kernel)⟩
theorem lw_p47 : lw_okq (⟨"StreetTonguesModel", "isStreet", "(I)Z"⟩, 47) := ⟨⟨by decide +kernel, by decide +kernel⟩, List.mem_of_getElem? (i := 932) (by decide +kernel), List.mem_of_getElem? (i := 1178) (by decide +kernel), List.mem_of_getElem? (i := 1179) (by decide +kernel)⟩
def lw_privs_3 : List (MethodName × Nat) := [(⟨"StreetTonguesModel", "here", "()I"⟩, 47), (⟨"StreetTonguesModel", "takeClause", "()I"⟩, 47), (⟨"StreetTonguesModel", "fails", "(II)I"⟩, 47), (⟨"StreetTonguesModel", "takeWords", "()I"⟩, 47), (⟨"StreetTonguesModel", "takeNumber", "(II)I"⟩, 47), (⟨"StreetTonguesModel", "takeStreet", "()I"⟩, 47), (⟨"StreetTonguesModel", "into", "([IIII)I"⟩, 47), (⟨"StreetTonguesModel", "takeCorner", "()I"⟩, 47), (⟨"StreetTonguesModel", "isJoined", "(II)Z"⟩, 47), (⟨"StreetTonguesModel", "takeRead", "()V"⟩, 47), (⟨"StreetTonguesModel", "feuds", "()I"⟩, 47), (⟨"StreetTonguesModel", "everywhere", "()I"⟩, 47), (⟨"StreetTonguesModel", "overAt", "(IZI)I"⟩, 47), (⟨"StreetTonguesModel", "slipBy", "(IIII)I"⟩, 47), (⟨"StreetTonguesModel", "blame", "()I"⟩, 47), (⟨"StreetTonguesModel", "isStreet", "(I)Z"⟩, 47)]
theorem lw_r3 : ∀ q ∈ lw_privs_3, lw_okq q := List.forall_mem_cons.mpr ⟨lw_p32, List.forall_mem_cons.mpr ⟨lw_p33, List.forall_mem_cons.mpr ⟨lw_p34, List.forall_mem_cons.mpr ⟨lw_p35, List.forall_mem_cons.mpr ⟨lw_p36, List.forall_mem_cons.mpr ⟨lw_p37, List.forall_mem_cons.mpr ⟨lw_p38, List.forall_mem_cons.mpr ⟨lw_p39, List.forall_mem_cons.mpr ⟨lw_p40, List.forall_mem_cons.mpr ⟨lw_p41, List.forall_mem_cons.mpr ⟨lw_p42, List.forall_mem_cons.mpr ⟨lw_p43, List.forall_mem_cons.mpr ⟨lw_p44, List.forall_mem_cons.mpr ⟨lw_p45, List.forall_mem_cons.mpr ⟨lw_p46, List.forall_mem_cons.mpr ⟨lw_p47, fun _ h => absurd h List.not_mem_nil⟩⟩⟩⟩⟩⟩⟩⟩⟩⟩⟩⟩⟩⟩⟩⟩
theorem lw_p48 : lw_okq (⟨"StreetTonguesModel", "isCorner", "(I)Z"⟩, 47) := ⟨⟨by decide +kernel, by decide +kernel⟩, List.mem_of_getElem? (i := 932) (by decide +kernel), List.mem_of_getElem? (i := 1187) (by decide +kernel), List.mem_of_getElem? (i := 1188) (by decide +kernel)⟩
theorem lw_p49 : lw_okq (⟨"StreetTonguesModel", "isOpen", "(I)Z"⟩, 47) := ⟨⟨by decide +kernel, by decide +kernel⟩, List.mem_of_getElem? (i := 932) (by decide +kernel), List.mem_of_getElem? (i := 1191) (by decide +kernel), List.mem_of_getElem? (i := 1192) (by decide +kernel)⟩
theorem lw_p50 : lw_okq (⟨"StreetTonguesModel", "isSaying", "(I)Z"⟩, 47) := ⟨⟨by decide +kernel, by decide +kernel⟩, List.mem_of_getElem? (i := 932) (by decide +kernel), List.mem_of_getElem? (i := 1207) (by decide +kernel), List.mem_of_getElem? (i := 1208) (by decide +kernel)⟩
theorem lw_p51 : lw_okq (⟨"StreetTonguesModel", "remember", "()V"⟩, 47) := ⟨⟨by decide +kernel, by decide +kernel⟩, List.mem_of_getElem? (i := 932) (by decide +kernel), List.mem_of_getElem? (i := 1213) (by decide +kernel), List.mem_of_getElem? (i := 1214) (by decide +kernel)⟩
theorem lw_p52 : lw_okq (⟨"StreetTonguesModel", "sayingOver", "(IZI)I"⟩, 47) := ⟨⟨by decide +kernel, by decide +kernel⟩, List.mem_of_getElem? (i := 932) (by decide +kernel), List.mem_of_getElem? (i := 1217) (by decide +kernel), List.mem_of_getElem? (i := 1218) (by decide +kernel)⟩
theorem lw_p53 : lw_okq (⟨"StreetTonguesModel", "pay", "(I)V"⟩, 47) := ⟨⟨by decide +kernel, by decide +kernel⟩, List.mem_of_getElem? (i := 932) (by decide +kernel), List.mem_of_getElem? (i := 1221) (by decide +kernel), List.mem_of_getElem? (i := 1222) (by decide +kernel)⟩
theorem lw_p54 : lw_okq (⟨"StreetTonguesModel", "hear", "(IIII)V"⟩, 47) := ⟨⟨by decide +kernel, by decide +kernel⟩, List.mem_of_getElem? (i := 932) (by decide +kernel), List.mem_of_getElem? (i := 1226) (by decide +kernel), List.mem_of_getElem? (i := 1227) (by decide +kernel)⟩
theorem lw_p55 : lw_okq (⟨"StreetTonguesModel", "setFeud", "(IIZ)V"⟩, 47) := ⟨⟨by decide +kernel, by decide +kernel⟩, List.mem_of_getElem? (i := 932) (by decide +kernel), List.mem_of_getElem? (i := 1230) (by decide +kernel), List.mem_of_getElem? (i := 1231) (by decide +kernel)⟩
theorem lw_p56 : lw_okq (⟨"StreetTonguesModel", "log", "(IIII)V"⟩, 47) := ⟨⟨by decide +kernel, by decide +kernel⟩, List.mem_of_getElem? (i := 932) (by decide +kernel), List.mem_of_getElem? (i := 1234) (by decide +kernel), List.mem_of_getElem? (i := 1235) (by decide +kernel)⟩
theorem lw_p57 : lw_okq (⟨"StreetTonguesModel", "areTwo", "(II)Z"⟩, 47) := ⟨⟨by decide +kernel, by decide +kernel⟩, List.mem_of_getElem? (i := 932) (by decide +kernel), List.mem_of_getElem? (i := 1242) (by decide +kernel), List.mem_of_getElem? (i := 1243) (by decide +kernel)⟩
theorem lw_p58 : lw_okq (⟨"StreetTonguesModel", "findAway", "(I)V"⟩, 47) := ⟨⟨by decide +kernel, by decide +kernel⟩, List.mem_of_getElem? (i := 932) (by decide +kernel), List.mem_of_getElem? (i := 1246) (by decide +kernel), List.mem_of_getElem? (i := 1247) (by decide +kernel)⟩
theorem lw_p59 : lw_okq (⟨"StreetTonguesModel", "keyOf", "(I)I"⟩, 47) := ⟨⟨by decide +kernel, by decide +kernel⟩, List.mem_of_getElem? (i := 932) (by decide +kernel), List.mem_of_getElem? (i := 1251) (by decide +kernel), List.mem_of_getElem? (i := 1252) (by decide +kernel)⟩
theorem lw_p60 : lw_okq (⟨"StreetTonguesModel", "sendNow", "(III)I"⟩, 47) := ⟨⟨by decide +kernel, by decide +kernel⟩, List.mem_of_getElem? (i := 932) (by decide +kernel), List.mem_of_getElem? (i := 1255) (by decide +kernel), List.mem_of_getElem? (i := 1256) (by decide +kernel)⟩
theorem lw_p61 : lw_okq (⟨"StreetTonguesModel", "sentBy", "(III)I"⟩, 47) := ⟨⟨by decide +kernel, by decide +kernel⟩, List.mem_of_getElem? (i := 932) (by decide +kernel), List.mem_of_getElem? (i := 1259) (by decide +kernel), List.mem_of_getElem? (i := 1260) (by decide +kernel)⟩
theorem lw_p62 : lw_okq (⟨"StreetTonguesModel", "nextCorner", "(I)I"⟩, 47) := ⟨⟨by decide +kernel, by decide +kernel⟩, List.mem_of_getElem? (i := 932) (by decide +kernel), List.mem_of_getElem? (i := 1263) (by decide +kernel), List.mem_of_getElem? (i := 1264) (by decide +kernel)⟩
theorem lw_p63 : lw_okq (⟨"StreetTonguesModel", "turn", "(I)V"⟩, 47) := ⟨⟨by decide +kernel, by decide +kernel⟩, List.mem_of_getElem? (i := 932) (by decide +kernel), List.mem_of_getElem? (i := 1271) (by decide +kernel), List.mem_of_getElem? (i := 1272) (by decide +kernel)⟩
def lw_privs_4 : List (MethodName × Nat) := [(⟨"StreetTonguesModel", "isCorner", "(I)Z"⟩, 47), (⟨"StreetTonguesModel", "isOpen", "(I)Z"⟩, 47), (⟨"StreetTonguesModel", "isSaying", "(I)Z"⟩, 47), (⟨"StreetTonguesModel", "remember", "()V"⟩, 47), (⟨"StreetTonguesModel", "sayingOver", "(IZI)I"⟩, 47), (⟨"StreetTonguesModel", "pay", "(I)V"⟩, 47), (⟨"StreetTonguesModel", "hear", "(IIII)V"⟩, 47), (⟨"StreetTonguesModel", "setFeud", "(IIZ)V"⟩, 47), (⟨"StreetTonguesModel", "log", "(IIII)V"⟩, 47), (⟨"StreetTonguesModel", "areTwo", "(II)Z"⟩, 47), (⟨"StreetTonguesModel", "findAway", "(I)V"⟩, 47), (⟨"StreetTonguesModel", "keyOf", "(I)I"⟩, 47), (⟨"StreetTonguesModel", "sendNow", "(III)I"⟩, 47), (⟨"StreetTonguesModel", "sentBy", "(III)I"⟩, 47), (⟨"StreetTonguesModel", "nextCorner", "(I)I"⟩, 47), (⟨"StreetTonguesModel", "turn", "(I)V"⟩, 47)]
theorem lw_r4 : ∀ q ∈ lw_privs_4, lw_okq q := List.forall_mem_cons.mpr ⟨lw_p48, List.forall_mem_cons.mpr ⟨lw_p49, List.forall_mem_cons.mpr ⟨lw_p50, List.forall_mem_cons.mpr ⟨lw_p51, List.forall_mem_cons.mpr ⟨lw_p52, List.forall_mem_cons.mpr ⟨lw_p53, List.forall_mem_cons.mpr ⟨lw_p54, List.forall_mem_cons.mpr ⟨lw_p55, List.forall_mem_cons.mpr ⟨lw_p56, List.forall_mem_cons.mpr ⟨lw_p57, List.forall_mem_cons.mpr ⟨lw_p58, List.forall_mem_cons.mpr ⟨lw_p59, List.forall_mem_cons.mpr ⟨lw_p60, List.forall_mem_cons.mpr ⟨lw_p61, List.forall_mem_cons.mpr ⟨lw_p62, List.forall_mem_cons.mpr ⟨lw_p63, fun _ h => absurd h List.not_mem_nil⟩⟩⟩⟩⟩⟩⟩⟩⟩⟩⟩⟩⟩⟩⟩⟩
theorem lw_p64 : lw_okq (⟨"StreetTonguesModel", "chance", "()V"⟩, 47) := ⟨⟨by decide +kernel, by decide +kernel⟩, List.mem_of_getElem? (i := 932) (by decide +kernel), List.mem_of_getElem? (i := 1288) (by decide +kernel), List.mem_of_getElem? (i := 1289) (by decide +kernel)⟩
theorem lw_p65 : lw_okq (⟨"StreetTonguesModel", "draw", "(I)I"⟩, 47) := ⟨⟨by decide +kernel, by decide +kernel⟩, List.mem_of_getElem? (i := 932) (by decide +kernel), List.mem_of_getElem? (i := 1292) (by decide +kernel), List.mem_of_getElem? (i := 1293) (by decide +kernel)⟩
theorem lw_p66 : lw_okq (⟨"StreetTonguesModel", "isWord", "(I)Z"⟩, 47) := ⟨⟨by decide +kernel, by decide +kernel⟩, List.mem_of_getElem? (i := 932) (by decide +kernel), List.mem_of_getElem? (i := 1308) (by decide +kernel), List.mem_of_getElem? (i := 1309) (by decide +kernel)⟩
theorem lw_p67 : lw_okq (⟨"StreetTonguesModel", "clearCosts", "()V"⟩, 47) := ⟨⟨by decide +kernel, by decide +kernel⟩, List.mem_of_getElem? (i := 932) (by decide +kernel), List.mem_of_getElem? (i := 1325) (by decide +kernel), List.mem_of_getElem? (i := 1326) (by decide +kernel)⟩
theorem lw_p68 : lw_okq (⟨"StreetTonguesModel", "spread", "(Z)V"⟩, 47) := ⟨⟨by decide +kernel, by decide +kernel⟩, List.mem_of_getElem? (i := 932) (by decide +kernel), List.mem_of_getElem? (i := 1329) (by decide +kernel), List.mem_of_getElem? (i := 1330) (by decide +kernel)⟩
theorem lw_p69 : lw_okq (⟨"StreetTonguesModel", "stepOver", "(IZIZ)V"⟩, 47) := ⟨⟨by decide +kernel, by decide +kernel⟩, List.mem_of_getElem? (i := 932) (by decide +kernel), List.mem_of_getElem? (i := 1333) (by decide +kernel), List.mem_of_getElem? (i := 1334) (by decide +kernel)⟩
theorem lw_p70 : lw_okq (⟨"StreetTonguesModel", "stepBack", "()V"⟩, 47) := ⟨⟨by decide +kernel, by decide +kernel⟩, List.mem_of_getElem? (i := 932) (by decide +kernel), List.mem_of_getElem? (i := 1346) (by decide +kernel), List.mem_of_getElem? (i := 1347) (by decide +kernel)⟩
theorem lw_p71 : lw_okq (⟨"StreetTonguesModel", "haveCorner", "(II)Z"⟩, 47) := ⟨⟨by decide +kernel, by decide +kernel⟩, List.mem_of_getElem? (i := 932) (by decide +kernel), List.mem_of_getElem? (i := 1358) (by decide +kernel), List.mem_of_getElem? (i := 1359) (by decide +kernel)⟩
theorem lw_p72 : lw_okq (⟨"StreetTonguesModel", "findFares", "(II)V"⟩, 47) := ⟨⟨by decide +kernel, by decide +kernel⟩, List.mem_of_getElem? (i := 932) (by decide +kernel), List.mem_of_getElem? (i := 1362) (by decide +kernel), List.mem_of_getElem? (i := 1363) (by decide +kernel)⟩
theorem lw_p73 : lw_okq (⟨"StreetTonguesModel", "allFares", "()I"⟩, 47) := ⟨⟨by decide +kernel, by decide +kernel⟩, List.mem_of_getElem? (i := 932) (by decide +kernel), List.mem_of_getElem? (i := 1366) (by decide +kernel), List.mem_of_getElem? (i := 1367) (by decide +kernel)⟩
theorem lw_p74 : lw_okq (⟨"StreetTonguesModel", "getsTo", "(II)I"⟩, 47) := ⟨⟨by decide +kernel, by decide +kernel⟩, List.mem_of_getElem? (i := 932) (by decide +kernel), List.mem_of_getElem? (i := 1374) (by decide +kernel), List.mem_of_getElem? (i := 1375) (by decide +kernel)⟩
theorem lw_p75 : lw_okq (⟨"StreetTonguesModel", "couldSlip", "(I)Z"⟩, 47) := ⟨⟨by decide +kernel, by decide +kernel⟩, List.mem_of_getElem? (i := 932) (by decide +kernel), List.mem_of_getElem? (i := 1396) (by decide +kernel), List.mem_of_getElem? (i := 1397) (by decide +kernel)⟩
theorem lw_p76 : lw_okq (⟨"StreetTonguesModel", "greatestPart", "(I)I"⟩, 47) := ⟨⟨by decide +kernel, by decide +kernel⟩, List.mem_of_getElem? (i := 932) (by decide +kernel), List.mem_of_getElem? (i := 1405) (by decide +kernel), List.mem_of_getElem? (i := 1406) (by decide +kernel)⟩
def lw_privs_5 : List (MethodName × Nat) := [(⟨"StreetTonguesModel", "chance", "()V"⟩, 47), (⟨"StreetTonguesModel", "draw", "(I)I"⟩, 47), (⟨"StreetTonguesModel", "isWord", "(I)Z"⟩, 47), (⟨"StreetTonguesModel", "clearCosts", "()V"⟩, 47), (⟨"StreetTonguesModel", "spread", "(Z)V"⟩, 47), (⟨"StreetTonguesModel", "stepOver", "(IZIZ)V"⟩, 47), (⟨"StreetTonguesModel", "stepBack", "()V"⟩, 47), (⟨"StreetTonguesModel", "haveCorner", "(II)Z"⟩, 47), (⟨"StreetTonguesModel", "findFares", "(II)V"⟩, 47), (⟨"StreetTonguesModel", "allFares", "()I"⟩, 47), (⟨"StreetTonguesModel", "getsTo", "(II)I"⟩, 47), (⟨"StreetTonguesModel", "couldSlip", "(I)Z"⟩, 47), (⟨"StreetTonguesModel", "greatestPart", "(I)I"⟩, 47)]
theorem lw_r5 : ∀ q ∈ lw_privs_5, lw_okq q := List.forall_mem_cons.mpr ⟨lw_p64, List.forall_mem_cons.mpr ⟨lw_p65, List.forall_mem_cons.mpr ⟨lw_p66, List.forall_mem_cons.mpr ⟨lw_p67, List.forall_mem_cons.mpr ⟨lw_p68, List.forall_mem_cons.mpr ⟨lw_p69, List.forall_mem_cons.mpr ⟨lw_p70, List.forall_mem_cons.mpr ⟨lw_p71, List.forall_mem_cons.mpr ⟨lw_p72, List.forall_mem_cons.mpr ⟨lw_p73, List.forall_mem_cons.mpr ⟨lw_p74, List.forall_mem_cons.mpr ⟨lw_p75, List.forall_mem_cons.mpr ⟨lw_p76, fun _ h => absurd h List.not_mem_nil⟩⟩⟩⟩⟩⟩⟩⟩⟩⟩⟩⟩⟩
def lw_privs : List (MethodName × Nat) := lw_privs_1 ++ (lw_privs_2 ++ (lw_privs_3 ++ (lw_privs_4 ++ (lw_privs_5))))
def lw_tbl : List Cond := k2_sels lw_privs ++ tables_1
theorem lw_privs_ok : ∀ q ∈ lw_privs, lw_okq q := by
  show ∀ q ∈ lw_privs_1 ++ (lw_privs_2 ++ (lw_privs_3 ++ (lw_privs_4 ++ (lw_privs_5)))), lw_okq q
  exact List.forall_mem_append.mpr ⟨lw_r1, List.forall_mem_append.mpr ⟨lw_r2, List.forall_mem_append.mpr ⟨lw_r3, List.forall_mem_append.mpr ⟨lw_r4, lw_r5⟩⟩⟩⟩

def RX0 : String := "StreetTongues$Affairs"
def TX0 : u_T := fun k => match k with
  | _ => ("StreetTongues$Affairs", "row", "[I", true)
def tyX0 : Nat → FieldType := fun k => match k with
  | _ => .array .int
abbrev wsX00 : List Cond := u_ws RX0 TX0 1
theorem nmX0 : ∀ a, a < 1 → ∀ b, b < 1 → a ≠ b → (TX0 a).2.1 ≠ (TX0 b).2.1 := by decide +kernel
theorem tyX0_ok : ∀ k, k < 1 → parseFieldDescriptor (TX0 k).2.2.1 = some (tyX0 k) := by decide +kernel
abbrev cX0_init : ByteArray := prog_2_method_1_code
def yX0_init : MethodName := ⟨RX0, "<init>", "()V"⟩
abbrev cX0_begin : ByteArray := prog_2_method_2_code
def yX0_begin : MethodName := ⟨RX0, "begin", "(LStreetTongues$Town;)V"⟩
abbrev cX0_pence : ByteArray := prog_2_method_3_code
def yX0_pence : MethodName := ⟨RX0, "pence", "()I"⟩
abbrev cX0_husbands : ByteArray := prog_2_method_4_code
def yX0_husbands : MethodName := ⟨RX0, "husbands", "()I"⟩
abbrev cX0_shutSet : ByteArray := prog_2_method_5_code
def yX0_shutSet : MethodName := ⟨RX0, "shutSet", "()I"⟩
abbrev cX0_logCount : ByteArray := prog_2_method_6_code
def yX0_logCount : MethodName := ⟨RX0, "logCount", "()I"⟩
abbrev cX0_heardBy : ByteArray := prog_2_method_7_code
def yX0_heardBy : MethodName := ⟨RX0, "heardBy", "(I)I"⟩
abbrev cX0_feudsOf : ByteArray := prog_2_method_8_code
def yX0_feudsOf : MethodName := ⟨RX0, "feudsOf", "(I)I"⟩
abbrev cX0_sortOf : ByteArray := prog_2_method_9_code
def yX0_sortOf : MethodName := ⟨RX0, "sortOf", "(I)I"⟩
abbrev cX0_logEntry : ByteArray := prog_2_method_10_code
def yX0_logEntry : MethodName := ⟨RX0, "logEntry", "(II)I"⟩
abbrev cX0_isShut : ByteArray := prog_2_method_11_code
def yX0_isShut : MethodName := ⟨RX0, "isShut", "(I)Z"⟩
abbrev cX0_inFeud : ByteArray := prog_2_method_12_code
def yX0_inFeud : MethodName := ⟨RX0, "inFeud", "(II)Z"⟩
abbrev cX0_setShut : ByteArray := prog_2_method_13_code
def yX0_setShut : MethodName := ⟨RX0, "setShut", "(IZ)V"⟩
abbrev cX0_setSort : ByteArray := prog_2_method_14_code
def yX0_setSort : MethodName := ⟨RX0, "setSort", "(II)V"⟩
abbrev cX0_setFeud : ByteArray := prog_2_method_15_code
def yX0_setFeud : MethodName := ⟨RX0, "setFeud", "(IIZ)V"⟩
abbrev cX0_countFeuds : ByteArray := prog_2_method_16_code
def yX0_countFeuds : MethodName := ⟨RX0, "countFeuds", "()I"⟩
abbrev cX0_pay : ByteArray := prog_2_method_17_code
def yX0_pay : MethodName := ⟨RX0, "pay", "(I)V"⟩
abbrev cX0_hear : ByteArray := prog_2_method_18_code
def yX0_hear : MethodName := ⟨RX0, "hear", "(LStreetTongues$Town;IIII)V"⟩
abbrev cX0_makePeace : ByteArray := prog_2_method_19_code
def yX0_makePeace : MethodName := ⟨RX0, "makePeace", "(II)V"⟩
abbrev cX0_enter : ByteArray := prog_2_method_20_code
def yX0_enter : MethodName := ⟨RX0, "enter", "(IIII)V"⟩
abbrev cX0_blame : ByteArray := prog_2_method_21_code
def yX0_blame : MethodName := ⟨RX0, "blame", "(LStreetTongues$Town;)I"⟩
abbrev cX0_countInsults : ByteArray := prog_2_method_22_code
def yX0_countInsults : MethodName := ⟨RX0, "countInsults", "(LStreetTongues$Town;I)I"⟩
def RX1 : String := "StreetTongues$Book"
def TX1 : u_T := fun k => match k with
  | 0 => ("StreetTongues$Book", "streets", "[I", true)
  | 1 => ("StreetTongues$Book", "sayings", "[I", true)
  | _ => ("StreetTongues$Book", "count", "I", false)
def tyX1 : Nat → FieldType := fun k => match k with
  | 0 => .array .int
  | 1 => .array .int
  | _ => .int
abbrev wsX10 : List Cond := u_ws RX1 TX1 3
theorem nmX1 : ∀ a, a < 3 → ∀ b, b < 3 → a ≠ b → (TX1 a).2.1 ≠ (TX1 b).2.1 := by decide +kernel
theorem tyX1_ok : ∀ k, k < 3 → parseFieldDescriptor (TX1 k).2.2.1 = some (tyX1 k) := by decide +kernel
abbrev cX1_init : ByteArray := prog_3_method_1_code
def yX1_init : MethodName := ⟨RX1, "<init>", "()V"⟩
abbrev cX1_clear : ByteArray := prog_3_method_2_code
def yX1_clear : MethodName := ⟨RX1, "clear", "()V"⟩
abbrev cX1_append : ByteArray := prog_3_method_3_code
def yX1_append : MethodName := ⟨RX1, "append", "(II)V"⟩
abbrev cX1_firstWrong : ByteArray := prog_3_method_4_code
def yX1_firstWrong : MethodName := ⟨RX1, "firstWrong", "(LStreetTongues$Affairs;)I"⟩
def RX2 : String := "StreetTongues$Chairs"
def TX2 : u_T := fun k => match k with
  | 0 => ("StreetTongues$Chairs", "town", "LStreetTongues$Town;", true)
  | _ => ("StreetTongues$Chairs", "now", "LStreetTongues$Affairs;", true)
def tyX2 : Nat → FieldType := fun k => match k with
  | 0 => .object "StreetTongues$Town"
  | _ => .object "StreetTongues$Affairs"
abbrev wsX20 : List Cond := u_ws RX2 TX2 2
theorem nmX2 : ∀ a, a < 2 → ∀ b, b < 2 → a ≠ b → (TX2 a).2.1 ≠ (TX2 b).2.1 := by decide +kernel
theorem tyX2_ok : ∀ k, k < 2 → parseFieldDescriptor (TX2 k).2.2.1 = some (tyX2 k) := by decide +kernel
abbrev cX2_init : ByteArray := prog_4_method_1_code
def yX2_init : MethodName := ⟨RX2, "<init>", "(LStreetTongues$Town;LStreetTongues$Affairs;)V"⟩
abbrev cX2_wordOver : ByteArray := prog_4_method_2_code
def yX2_wordOver : MethodName := ⟨RX2, "wordOver", "(IZI)I"⟩
abbrev cX2_sayingOver : ByteArray := prog_4_method_3_code
def yX2_sayingOver : MethodName := ⟨RX2, "sayingOver", "(IZI)I"⟩
abbrev cX2_everywhere : ByteArray := prog_4_method_4_code
def yX2_everywhere : MethodName := ⟨RX2, "everywhere", "()I"⟩
abbrev cX2_staysEverywhere : ByteArray := prog_4_method_5_code
def yX2_staysEverywhere : MethodName := ⟨RX2, "staysEverywhere", "(I)Z"⟩
def RX3 : String := "StreetTongues$Guess"
def TX3 : u_T := fun k => match k with
  | 0 => ("StreetTongues$Guess", "town", "LStreetTongues$Town;", true)
  | 1 => ("StreetTongues$Guess", "said", "[I", true)
  | 2 => ("StreetTongues$Guess", "came", "[I", true)
  | 3 => ("StreetTongues$Guess", "rows", "[I", true)
  | 4 => ("StreetTongues$Guess", "parts", "[I", true)
  | _ => ("StreetTongues$Guess", "count", "I", false)
def tyX3 : Nat → FieldType := fun k => match k with
  | 0 => .object "StreetTongues$Town"
  | 1 => .array .int
  | 2 => .array .int
  | 3 => .array .int
  | 4 => .array .int
  | _ => .int
abbrev wsX30 : List Cond := u_ws RX3 TX3 6
theorem nmX3 : ∀ a, a < 6 → ∀ b, b < 6 → a ≠ b → (TX3 a).2.1 ≠ (TX3 b).2.1 := by decide +kernel
theorem tyX3_ok : ∀ k, k < 6 → parseFieldDescriptor (TX3 k).2.2.1 = some (tyX3 k) := by decide +kernel
abbrev cX3_init : ByteArray := prog_5_method_1_code
def yX3_init : MethodName := ⟨RX3, "<init>", "(LStreetTongues$Town;)V"⟩
abbrev cX3_clear : ByteArray := prog_5_method_2_code
def yX3_clear : MethodName := ⟨RX3, "clear", "()V"⟩
abbrev cX3_append : ByteArray := prog_5_method_3_code
def yX3_append : MethodName := ⟨RX3, "append", "(II)V"⟩
abbrev cX3_findRows : ByteArray := prog_5_method_4_code
def yX3_findRows : MethodName := ⟨RX3, "findRows", "()I"⟩
abbrev cX3_isRow : ByteArray := prog_5_method_5_code
def yX3_isRow : MethodName := ⟨RX3, "isRow", "(III)Z"⟩
abbrev cX3_fits : ByteArray := prog_5_method_6_code
def yX3_fits : MethodName := ⟨RX3, "fits", "(III)Z"⟩
abbrev cX3_bestWord : ByteArray := prog_5_method_7_code
def yX3_bestWord : MethodName := ⟨RX3, "bestWord", "()I"⟩
abbrev cX3_greatestPart : ByteArray := prog_5_method_8_code
def yX3_greatestPart : MethodName := ⟨RX3, "greatestPart", "(II)I"⟩
def RX4 : String := "StreetTongues$Meanings"
def TX4 : u_T := fun k => match k with
  | 0 => ("StreetTongues$Meanings", "chairs", "LStreetTongues$Chairs;", true)
  | 1 => ("StreetTongues$Meanings", "cost", "[I", true)
  | 2 => ("StreetTongues$Meanings", "origins", "[I", true)
  | _ => ("StreetTongues$Meanings", "earlier", "[I", true)
def tyX4 : Nat → FieldType := fun k => match k with
  | 0 => .object "StreetTongues$Chairs"
  | 1 => .array .int
  | 2 => .array .int
  | _ => .array .int
abbrev wsX40 : List Cond := u_ws RX4 TX4 4
theorem nmX4 : ∀ a, a < 4 → ∀ b, b < 4 → a ≠ b → (TX4 a).2.1 ≠ (TX4 b).2.1 := by decide +kernel
theorem tyX4_ok : ∀ k, k < 4 → parseFieldDescriptor (TX4 k).2.2.1 = some (tyX4 k) := by decide +kernel
abbrev cX4_init : ByteArray := prog_6_method_1_code
def yX4_init : MethodName := ⟨RX4, "<init>", "(LStreetTongues$Chairs;)V"⟩
abbrev cX4_leastThrough : ByteArray := prog_6_method_2_code
def yX4_leastThrough : MethodName := ⟨RX4, "leastThrough", "(IIIIZ)I"⟩
abbrev cX4_shortestRing : ByteArray := prog_6_method_3_code
def yX4_shortestRing : MethodName := ⟨RX4, "shortestRing", "(III)I"⟩
abbrev cX4_known : ByteArray := prog_6_method_4_code
def yX4_known : MethodName := ⟨RX4, "known", "(II)I"⟩
abbrev cX4_spread : ByteArray := prog_6_method_5_code
def yX4_spread : MethodName := ⟨RX4, "spread", "(Z)V"⟩
abbrev cX4_spreadBy : ByteArray := prog_6_method_6_code
def yX4_spreadBy : MethodName := ⟨RX4, "spreadBy", "(IZI)Z"⟩
abbrev cX4_findOrigins : ByteArray := prog_6_method_7_code
def yX4_findOrigins : MethodName := ⟨RX4, "findOrigins", "(III)V"⟩
abbrev cX4_wordsInto : ByteArray := prog_6_method_8_code
def yX4_wordsInto : MethodName := ⟨RX4, "wordsInto", "(IZI)I"⟩
abbrev cX4_countOrigins : ByteArray := prog_6_method_9_code
def yX4_countOrigins : MethodName := ⟨RX4, "countOrigins", "()I"⟩
def RX5 : String := "StreetTongues$Past"
def TX5 : u_T := fun k => match k with
  | 0 => ("StreetTongues$Past", "steps", "[I", true)
  | 1 => ("StreetTongues$Past", "images", "[I", true)
  | 2 => ("StreetTongues$Past", "imageLots", "[I", true)
  | 3 => ("StreetTongues$Past", "imageSet", "I", false)
  | 4 => ("StreetTongues$Past", "newest", "I", false)
  | _ => ("StreetTongues$Past", "count", "I", false)
def tyX5 : Nat → FieldType := fun k => match k with
  | 0 => .array .int
  | 1 => .array .int
  | 2 => .array .int
  | 3 => .int
  | 4 => .int
  | _ => .int
abbrev wsX50 : List Cond := u_ws RX5 TX5 6
theorem nmX5 : ∀ a, a < 6 → ∀ b, b < 6 → a ≠ b → (TX5 a).2.1 ≠ (TX5 b).2.1 := by decide +kernel
theorem tyX5_ok : ∀ k, k < 6 → parseFieldDescriptor (TX5 k).2.2.1 = some (tyX5 k) := by decide +kernel
abbrev cX5_init : ByteArray := prog_7_method_1_code
def yX5_init : MethodName := ⟨RX5, "<init>", "()V"⟩
abbrev cX5_forgetAll : ByteArray := prog_7_method_2_code
def yX5_forgetAll : MethodName := ⟨RX5, "forgetAll", "()V"⟩
abbrev cX5_remember : ByteArray := prog_7_method_3_code
def yX5_remember : MethodName := ⟨RX5, "remember", "(LStreetTongues$Affairs;)V"⟩
abbrev cX5_takeBack : ByteArray := prog_7_method_4_code
def yX5_takeBack : MethodName := ⟨RX5, "takeBack", "(LStreetTongues$Affairs;)V"⟩
abbrev cX5_hasImage : ByteArray := prog_7_method_5_code
def yX5_hasImage : MethodName := ⟨RX5, "hasImage", "(I)Z"⟩
abbrev cX5_keepImage : ByteArray := prog_7_method_6_code
def yX5_keepImage : MethodName := ⟨RX5, "keepImage", "(ILStreetTongues$Affairs;I)V"⟩
abbrev cX5_showImage : ByteArray := prog_7_method_7_code
def yX5_showImage : MethodName := ⟨RX5, "showImage", "(ILStreetTongues$Affairs;)I"⟩
def RX6 : String := "StreetTongues$Plan"
def TX6 : u_T := fun k => match k with
  | 0 => ("StreetTongues$Plan", "town", "LStreetTongues$Town;", true)
  | 1 => ("StreetTongues$Plan", "now", "LStreetTongues$Affairs;", true)
  | 2 => ("StreetTongues$Plan", "pence", "[I", true)
  | 3 => ("StreetTongues$Plan", "steps", "[I", true)
  | 4 => ("StreetTongues$Plan", "queue", "[I", true)
  | 5 => ("StreetTongues$Plan", "queued", "I", false)
  | 6 => ("StreetTongues$Plan", "newPair", "I", false)
  | _ => ("StreetTongues$Plan", "newTotal", "I", false)
def tyX6 : Nat → FieldType := fun k => match k with
  | 0 => .object "StreetTongues$Town"
  | 1 => .object "StreetTongues$Affairs"
  | 2 => .array .int
  | 3 => .array .int
  | 4 => .array .int
  | 5 => .int
  | 6 => .int
  | _ => .int
abbrev wsX60 : List Cond := u_ws RX6 TX6 8
theorem nmX6 : ∀ a, a < 8 → ∀ b, b < 8 → a ≠ b → (TX6 a).2.1 ≠ (TX6 b).2.1 := by decide +kernel
theorem tyX6_ok : ∀ k, k < 8 → parseFieldDescriptor (TX6 k).2.2.1 = some (tyX6 k) := by decide +kernel
abbrev cX6_init : ByteArray := prog_8_method_1_code
def yX6_init : MethodName := ⟨RX6, "<init>", "(LStreetTongues$Town;LStreetTongues$Affairs;)V"⟩
abbrev cX6_findNewCorner : ByteArray := prog_8_method_2_code
def yX6_findNewCorner : MethodName := ⟨RX6, "findNewCorner", "()V"⟩
abbrev cX6_measureAll : ByteArray := prog_8_method_3_code
def yX6_measureAll : MethodName := ⟨RX6, "measureAll", "()V"⟩
abbrev cX6_measureBy : ByteArray := prog_8_method_4_code
def yX6_measureBy : MethodName := ⟨RX6, "measureBy", "(I)V"⟩
abbrev cX6_penceOf : ByteArray := prog_8_method_5_code
def yX6_penceOf : MethodName := ⟨RX6, "penceOf", "(II)I"⟩
abbrev cX6_totalWith : ByteArray := prog_8_method_6_code
def yX6_totalWith : MethodName := ⟨RX6, "totalWith", "(II)I"⟩
abbrev cX6_leastCut : ByteArray := prog_8_method_7_code
def yX6_leastCut : MethodName := ⟨RX6, "leastCut", "(II)I"⟩
abbrev cX6_isLesserCut : ByteArray := prog_8_method_8_code
def yX6_isLesserCut : MethodName := ⟨RX6, "isLesserCut", "(II)Z"⟩
abbrev cX6_cornersOutOf : ByteArray := prog_8_method_9_code
def yX6_cornersOutOf : MethodName := ⟨RX6, "cornersOutOf", "(I)I"⟩
abbrev cX6_shortestWalk : ByteArray := prog_8_method_10_code
def yX6_shortestWalk : MethodName := ⟨RX6, "shortestWalk", "(I)I"⟩
abbrev cX6_visit : ByteArray := prog_8_method_11_code
def yX6_visit : MethodName := ⟨RX6, "visit", "(III)V"⟩
def RX7 : String := "StreetTongues$Reader"
def TX7 : u_T := fun k => match k with
  | 0 => ("StreetTongues$Reader", "text", "[I", true)
  | 1 => ("StreetTongues$Reader", "draft", "LStreetTongues$Town;", true)
  | 2 => ("StreetTongues$Reader", "length", "I", false)
  | 3 => ("StreetTongues$Reader", "at", "I", false)
  | 4 => ("StreetTongues$Reader", "numberAt", "I", false)
  | 5 => ("StreetTongues$Reader", "fault", "I", false)
  | _ => ("StreetTongues$Reader", "faultAt", "I", false)
def tyX7 : Nat → FieldType := fun k => match k with
  | 0 => .array .int
  | 1 => .object "StreetTongues$Town"
  | 2 => .int
  | 3 => .int
  | 4 => .int
  | 5 => .int
  | _ => .int
abbrev wsX70 : List Cond := u_ws RX7 TX7 7
theorem nmX7 : ∀ a, a < 7 → ∀ b, b < 7 → a ≠ b → (TX7 a).2.1 ≠ (TX7 b).2.1 := by decide +kernel
theorem tyX7_ok : ∀ k, k < 7 → parseFieldDescriptor (TX7 k).2.2.1 = some (tyX7 k) := by decide +kernel
abbrev cX7_init : ByteArray := prog_9_method_1_code
def yX7_init : MethodName := ⟨RX7, "<init>", "()V"⟩
abbrev cX7_isFull : ByteArray := prog_9_method_2_code
def yX7_isFull : MethodName := ⟨RX7, "isFull", "()Z"⟩
abbrev cX7_append : ByteArray := prog_9_method_3_code
def yX7_append : MethodName := ⟨RX7, "append", "(I)V"⟩
abbrev cX7_read : ByteArray := prog_9_method_4_code
def yX7_read : MethodName := ⟨RX7, "read", "()V"⟩
abbrev cX7_letter : ByteArray := prog_9_method_5_code
def yX7_letter : MethodName := ⟨RX7, "letter", "()I"⟩
abbrev cX7_skipBlanks : ByteArray := prog_9_method_6_code
def yX7_skipBlanks : MethodName := ⟨RX7, "skipBlanks", "()V"⟩
abbrev cX7_blameAt : ByteArray := prog_9_method_7_code
def yX7_blameAt : MethodName := ⟨RX7, "blameAt", "(II)V"⟩
abbrev cX7_readClause : ByteArray := prog_9_method_8_code
def yX7_readClause : MethodName := ⟨RX7, "readClause", "()V"⟩
abbrev cX7_readWords : ByteArray := prog_9_method_9_code
def yX7_readWords : MethodName := ⟨RX7, "readWords", "()V"⟩
abbrev cX7_readStreet : ByteArray := prog_9_method_10_code
def yX7_readStreet : MethodName := ⟨RX7, "readStreet", "()V"⟩
abbrev cX7_readCorner : ByteArray := prog_9_method_11_code
def yX7_readCorner : MethodName := ⟨RX7, "readCorner", "()V"⟩
abbrev cX7_readNumber : ByteArray := prog_9_method_12_code
def yX7_readNumber : MethodName := ⟨RX7, "readNumber", "(II)I"⟩
abbrev cX7_readEnd : ByteArray := prog_9_method_13_code
def yX7_readEnd : MethodName := ⟨RX7, "readEnd", "()V"⟩
abbrev cX7_isFigure : ByteArray := prog_9_method_14_code
def yX7_isFigure : MethodName := ⟨RX7, "isFigure", "(I)Z"⟩
def RX8 : String := "StreetTongues$Town"
def TX8 : u_T := fun k => match k with
  | 0 => ("StreetTongues$Town", "stands", "Z", false)
  | 1 => ("StreetTongues$Town", "words", "I", false)
  | 2 => ("StreetTongues$Town", "streets", "I", false)
  | 3 => ("StreetTongues$Town", "corners", "I", false)
  | 4 => ("StreetTongues$Town", "insult", "[I", true)
  | 5 => ("StreetTongues$Town", "yes", "[I", true)
  | 6 => ("StreetTongues$Town", "endA", "[I", true)
  | 7 => ("StreetTongues$Town", "endB", "[I", true)
  | 8 => ("StreetTongues$Town", "sort", "[I", true)
  | 9 => ("StreetTongues$Town", "wordK", "[I", true)
  | 10 => ("StreetTongues$Town", "wordL", "[I", true)
  | _ => ("StreetTongues$Town", "price", "[I", true)
def tyX8 : Nat → FieldType := fun k => match k with
  | 0 => .boolean
  | 1 => .int
  | 2 => .int
  | 3 => .int
  | 4 => .array .int
  | 5 => .array .int
  | 6 => .array .int
  | 7 => .array .int
  | 8 => .array .int
  | 9 => .array .int
  | 10 => .array .int
  | _ => .array .int
abbrev wsX80 : List Cond := u_ws RX8 TX8 12
theorem nmX8 : ∀ a, a < 12 → ∀ b, b < 12 → a ≠ b → (TX8 a).2.1 ≠ (TX8 b).2.1 := by decide +kernel
theorem tyX8_ok : ∀ k, k < 12 → parseFieldDescriptor (TX8 k).2.2.1 = some (tyX8 k) := by decide +kernel
abbrev cX8_init : ByteArray := prog_10_method_1_code
def yX8_init : MethodName := ⟨RX8, "<init>", "()V"⟩
abbrev cX8_clear : ByteArray := prog_10_method_2_code
def yX8_clear : MethodName := ⟨RX8, "clear", "()V"⟩
abbrev cX8_copyFrom : ByteArray := prog_10_method_3_code
def yX8_copyFrom : MethodName := ⟨RX8, "copyFrom", "(LStreetTongues$Town;)V"⟩
abbrev cX8_hasStreet : ByteArray := prog_10_method_4_code
def yX8_hasStreet : MethodName := ⟨RX8, "hasStreet", "(I)Z"⟩
abbrev cX8_hasTwoStreets : ByteArray := prog_10_method_5_code
def yX8_hasTwoStreets : MethodName := ⟨RX8, "hasTwoStreets", "(II)Z"⟩
abbrev cX8_hasCorner : ByteArray := prog_10_method_6_code
def yX8_hasCorner : MethodName := ⟨RX8, "hasCorner", "(I)Z"⟩
abbrev cX8_hasWord : ByteArray := prog_10_method_7_code
def yX8_hasWord : MethodName := ⟨RX8, "hasWord", "(I)Z"⟩
abbrev cX8_hasSaying : ByteArray := prog_10_method_8_code
def yX8_hasSaying : MethodName := ⟨RX8, "hasSaying", "(I)Z"⟩
abbrev cX8_areJoined : ByteArray := prog_10_method_9_code
def yX8_areJoined : MethodName := ⟨RX8, "areJoined", "(II)Z"⟩
abbrev cX8_otherEnd : ByteArray := prog_10_method_10_code
def yX8_otherEnd : MethodName := ⟨RX8, "otherEnd", "(II)I"⟩
def RX9 : String := "StreetTongues$Ways"
def TX9 : u_T := fun k => match k with
  | 0 => ("StreetTongues$Ways", "chairs", "LStreetTongues$Chairs;", true)
  | 1 => ("StreetTongues$Ways", "cost", "[I", true)
  | 2 => ("StreetTongues$Ways", "chain", "[I", true)
  | 3 => ("StreetTongues$Ways", "start", "I", false)
  | 4 => ("StreetTongues$Ways", "length", "I", false)
  | _ => ("StreetTongues$Ways", "pence", "I", false)
def tyX9 : Nat → FieldType := fun k => match k with
  | 0 => .object "StreetTongues$Chairs"
  | 1 => .array .int
  | 2 => .array .int
  | 3 => .int
  | 4 => .int
  | _ => .int
abbrev wsX90 : List Cond := u_ws RX9 TX9 6
theorem nmX9 : ∀ a, a < 6 → ∀ b, b < 6 → a ≠ b → (TX9 a).2.1 ≠ (TX9 b).2.1 := by decide +kernel
theorem tyX9_ok : ∀ k, k < 6 → parseFieldDescriptor (TX9 k).2.2.1 = some (tyX9 k) := by decide +kernel
abbrev cX9_init : ByteArray := prog_11_method_1_code
def yX9_init : MethodName := ⟨RX9, "<init>", "(LStreetTongues$Chairs;)V"⟩
abbrev cX9_find : ByteArray := prog_11_method_2_code
def yX9_find : MethodName := ⟨RX9, "find", "(II)Z"⟩
abbrev cX9_measure : ByteArray := prog_11_method_3_code
def yX9_measure : MethodName := ⟨RX9, "measure", "(I)V"⟩
abbrev cX9_lower : ByteArray := prog_11_method_4_code
def yX9_lower : MethodName := ⟨RX9, "lower", "(III)Z"⟩
abbrev cX9_price : ByteArray := prog_11_method_5_code
def yX9_price : MethodName := ⟨RX9, "price", "(I)I"⟩
abbrev cX9_firstCorner : ByteArray := prog_11_method_6_code
def yX9_firstCorner : MethodName := ⟨RX9, "firstCorner", "(I)I"⟩
abbrev cX9_wordOnWay : ByteArray := prog_11_method_7_code
def yX9_wordOnWay : MethodName := ⟨RX9, "wordOnWay", "(I)I"⟩
abbrev cX9_sayingOnWay : ByteArray := prog_11_method_8_code
def yX9_sayingOnWay : MethodName := ⟨RX9, "sayingOnWay", "(I)I"⟩
def RX10 : String := "StreetTongues"
def TX10 : u_T := fun k => match k with
  | 0 => ("StreetTongues", "town", "LStreetTongues$Town;", true)
  | 1 => ("StreetTongues", "reader", "LStreetTongues$Reader;", true)
  | 2 => ("StreetTongues", "now", "LStreetTongues$Affairs;", true)
  | 3 => ("StreetTongues", "past", "LStreetTongues$Past;", true)
  | 4 => ("StreetTongues", "chairs", "LStreetTongues$Chairs;", true)
  | 5 => ("StreetTongues", "ways", "LStreetTongues$Ways;", true)
  | 6 => ("StreetTongues", "meanings", "LStreetTongues$Meanings;", true)
  | 7 => ("StreetTongues", "plan", "LStreetTongues$Plan;", true)
  | 8 => ("StreetTongues", "guess", "LStreetTongues$Guess;", true)
  | 9 => ("StreetTongues", "book", "LStreetTongues$Book;", true)
  | _ => ("StreetTongues", "lot", "I", false)
def tyX10 : Nat → FieldType := fun k => match k with
  | 0 => .object "StreetTongues$Town"
  | 1 => .object "StreetTongues$Reader"
  | 2 => .object "StreetTongues$Affairs"
  | 3 => .object "StreetTongues$Past"
  | 4 => .object "StreetTongues$Chairs"
  | 5 => .object "StreetTongues$Ways"
  | 6 => .object "StreetTongues$Meanings"
  | 7 => .object "StreetTongues$Plan"
  | 8 => .object "StreetTongues$Guess"
  | 9 => .object "StreetTongues$Book"
  | _ => .int
abbrev wsX100 : List Cond := u_ws RX10 TX10 11
theorem nmX10 : ∀ a, a < 11 → ∀ b, b < 11 → a ≠ b → (TX10 a).2.1 ≠ (TX10 b).2.1 := by decide +kernel
theorem tyX10_ok : ∀ k, k < 11 → parseFieldDescriptor (TX10 k).2.2.1 = some (tyX10 k) := by decide +kernel
abbrev cX10_init : ByteArray := prog_1_method_1_code
def yX10_init : MethodName := ⟨RX10, "<init>", "()V"⟩
abbrev cX10_feed : ByteArray := prog_1_method_2_code
def yX10_feed : MethodName := ⟨RX10, "feed", "(I)I"⟩
abbrev cX10_town : ByteArray := prog_1_method_3_code
def yX10_town : MethodName := ⟨RX10, "town", "()I"⟩
abbrev cX10_fault : ByteArray := prog_1_method_4_code
def yX10_fault : MethodName := ⟨RX10, "fault", "()I"⟩
abbrev cX10_told : ByteArray := prog_1_method_5_code
def yX10_told : MethodName := ⟨RX10, "told", "(I)I"⟩
abbrev cX10_street : ByteArray := prog_1_method_6_code
def yX10_street : MethodName := ⟨RX10, "street", "(II)I"⟩
abbrev cX10_corner : ByteArray := prog_1_method_7_code
def yX10_corner : MethodName := ⟨RX10, "corner", "(II)I"⟩
abbrev cX10_logged : ByteArray := prog_1_method_8_code
def yX10_logged : MethodName := ⟨RX10, "logged", "(II)I"⟩
abbrev cX10_say : ByteArray := prog_1_method_9_code
def yX10_say : MethodName := ⟨RX10, "say", "(IZI)I"⟩
abbrev cX10_send : ByteArray := prog_1_method_10_code
def yX10_send : MethodName := ⟨RX10, "send", "(III)I"⟩
abbrev cX10_shut : ByteArray := prog_1_method_11_code
def yX10_shut : MethodName := ⟨RX10, "shut", "(IZ)I"⟩
abbrev cX10_mend : ByteArray := prog_1_method_12_code
def yX10_mend : MethodName := ⟨RX10, "mend", "(I)I"⟩
abbrev cX10_quarrel : ByteArray := prog_1_method_13_code
def yX10_quarrel : MethodName := ⟨RX10, "quarrel", "(IIZ)I"⟩
abbrev cX10_drift : ByteArray := prog_1_method_14_code
def yX10_drift : MethodName := ⟨RX10, "drift", "(I)I"⟩
abbrev cX10_undo : ByteArray := prog_1_method_15_code
def yX10_undo : MethodName := ⟨RX10, "undo", "()I"⟩
abbrev cX10_over : ByteArray := prog_1_method_16_code
def yX10_over : MethodName := ⟨RX10, "over", "(IZI)I"⟩
abbrev cX10_becomes : ByteArray := prog_1_method_17_code
def yX10_becomes : MethodName := ⟨RX10, "becomes", "(III)I"⟩
abbrev cX10_way : ByteArray := prog_1_method_18_code
def yX10_way : MethodName := ⟨RX10, "way", "(III)I"⟩
abbrev cX10_through : ByteArray := prog_1_method_19_code
def yX10_through : MethodName := ⟨RX10, "through", "(IIIII)I"⟩
abbrev cX10_code : ByteArray := prog_1_method_20_code
def yX10_code : MethodName := ⟨RX10, "code", "(III)I"⟩
abbrev cX10_origin : ByteArray := prog_1_method_21_code
def yX10_origin : MethodName := ⟨RX10, "origin", "(IIII)I"⟩
abbrev cX10_ring : ByteArray := prog_1_method_22_code
def yX10_ring : MethodName := ⟨RX10, "ring", "(III)I"⟩
abbrev cX10_more : ByteArray := prog_1_method_23_code
def yX10_more : MethodName := ⟨RX10, "more", "(I)I"⟩
abbrev cX10_cut : ByteArray := prog_1_method_24_code
def yX10_cut : MethodName := ⟨RX10, "cut", "(III)I"⟩
abbrev cX10_walk : ByteArray := prog_1_method_25_code
def yX10_walk : MethodName := ⟨RX10, "walk", "(I)I"⟩
abbrev cX10_holds : ByteArray := prog_1_method_26_code
def yX10_holds : MethodName := ⟨RX10, "holds", "(II)I"⟩
abbrev cX10_see : ByteArray := prog_1_method_27_code
def yX10_see : MethodName := ⟨RX10, "see", "(II)I"⟩
abbrev cX10_slips : ByteArray := prog_1_method_28_code
def yX10_slips : MethodName := ⟨RX10, "slips", "(I)I"⟩
abbrev cX10_tryNext : ByteArray := prog_1_method_29_code
def yX10_tryNext : MethodName := ⟨RX10, "tryNext", "()I"⟩
abbrev cX10_write : ByteArray := prog_1_method_30_code
def yX10_write : MethodName := ⟨RX10, "write", "(II)I"⟩
abbrev cX10_tear : ByteArray := prog_1_method_31_code
def yX10_tear : MethodName := ⟨RX10, "tear", "()I"⟩
abbrev cX10_judge : ByteArray := prog_1_method_32_code
def yX10_judge : MethodName := ⟨RX10, "judge", "()I"⟩
abbrev cX10_seed : ByteArray := prog_1_method_33_code
def yX10_seed : MethodName := ⟨RX10, "seed", "(I)I"⟩
abbrev cX10_keep : ByteArray := prog_1_method_34_code
def yX10_keep : MethodName := ⟨RX10, "keep", "(I)I"⟩
abbrev cX10_goBack : ByteArray := prog_1_method_35_code
def yX10_goBack : MethodName := ⟨RX10, "goBack", "(I)I"⟩
abbrev cX10_deliver : ByteArray := prog_1_method_36_code
def yX10_deliver : MethodName := ⟨RX10, "deliver", "(III)I"⟩
abbrev cX10_passDay : ByteArray := prog_1_method_37_code
def yX10_passDay : MethodName := ⟨RX10, "passDay", "()V"⟩
abbrev cX10_draw : ByteArray := prog_1_method_38_code
def yX10_draw : MethodName := ⟨RX10, "draw", "(I)I"⟩
abbrev cX10_putOver : ByteArray := prog_1_method_39_code
def yX10_putOver : MethodName := ⟨RX10, "putOver", "(IIIIZI)I"⟩
abbrev cX10_holdsWord : ByteArray := prog_1_method_40_code
def yX10_holdsWord : MethodName := ⟨RX10, "holdsWord", "(II)Z"⟩
def RX11 : String := "StreetTonguesModel"
def TX11 : u_T := fun k => match k with
  | 0 => ("StreetTonguesModel", "words", "I", false)
  | 1 => ("StreetTonguesModel", "streets", "I", false)
  | 2 => ("StreetTonguesModel", "insult", "[I", true)
  | 3 => ("StreetTonguesModel", "yes", "[I", true)
  | 4 => ("StreetTonguesModel", "corners", "I", false)
  | 5 => ("StreetTonguesModel", "one", "[I", true)
  | 6 => ("StreetTonguesModel", "other", "[I", true)
  | 7 => ("StreetTonguesModel", "sortTold", "[I", true)
  | 8 => ("StreetTonguesModel", "wordK", "[I", true)
  | 9 => ("StreetTonguesModel", "wordL", "[I", true)
  | 10 => ("StreetTonguesModel", "price", "[I", true)
  | 11 => ("StreetTonguesModel", "now", "[I", true)
  | 12 => ("StreetTonguesModel", "seed", "I", false)
  | 13 => ("StreetTonguesModel", "text", "[I", true)
  | 14 => ("StreetTonguesModel", "texted", "I", false)
  | 15 => ("StreetTonguesModel", "faultPlace", "I", false)
  | 16 => ("StreetTonguesModel", "at0", "I", false)
  | 17 => ("StreetTonguesModel", "number", "I", false)
  | 18 => ("StreetTonguesModel", "numberAt", "I", false)
  | 19 => ("StreetTonguesModel", "readWords", "I", false)
  | 20 => ("StreetTonguesModel", "readStreets", "I", false)
  | 21 => ("StreetTonguesModel", "readInsult", "[I", true)
  | 22 => ("StreetTonguesModel", "readYes", "[I", true)
  | 23 => ("StreetTonguesModel", "readCorners", "I", false)
  | 24 => ("StreetTonguesModel", "readOne", "[I", true)
  | 25 => ("StreetTonguesModel", "readOther", "[I", true)
  | 26 => ("StreetTonguesModel", "readSort", "[I", true)
  | 27 => ("StreetTonguesModel", "readK", "[I", true)
  | 28 => ("StreetTonguesModel", "readL", "[I", true)
  | 29 => ("StreetTonguesModel", "readPrice", "[I", true)
  | 30 => ("StreetTonguesModel", "counts", "[I", true)
  | 31 => ("StreetTonguesModel", "away", "[I", true)
  | 32 => ("StreetTonguesModel", "undos", "I", false)
  | 33 => ("StreetTonguesModel", "past", "[I", true)
  | 34 => ("StreetTonguesModel", "costs", "[I", true)
  | 35 => ("StreetTonguesModel", "could", "[I", true)
  | 36 => ("StreetTonguesModel", "couldNext", "[I", true)
  | 37 => ("StreetTonguesModel", "fares", "[I", true)
  | 38 => ("StreetTonguesModel", "gone", "[I", true)
  | 39 => ("StreetTonguesModel", "seen", "I", false)
  | 40 => ("StreetTonguesModel", "seenOf", "[I", true)
  | 41 => ("StreetTonguesModel", "seenIs", "[I", true)
  | 42 => ("StreetTonguesModel", "booked", "I", false)
  | 43 => ("StreetTonguesModel", "bookOf", "[I", true)
  | 44 => ("StreetTonguesModel", "bookIs", "[I", true)
  | 45 => ("StreetTonguesModel", "images", "[I", true)
  | _ => ("StreetTonguesModel", "isKept", "[Z", true)
def tyX11 : Nat → FieldType := fun k => match k with
  | 0 => .int
  | 1 => .int
  | 2 => .array .int
  | 3 => .array .int
  | 4 => .int
  | 5 => .array .int
  | 6 => .array .int
  | 7 => .array .int
  | 8 => .array .int
  | 9 => .array .int
  | 10 => .array .int
  | 11 => .array .int
  | 12 => .int
  | 13 => .array .int
  | 14 => .int
  | 15 => .int
  | 16 => .int
  | 17 => .int
  | 18 => .int
  | 19 => .int
  | 20 => .int
  | 21 => .array .int
  | 22 => .array .int
  | 23 => .int
  | 24 => .array .int
  | 25 => .array .int
  | 26 => .array .int
  | 27 => .array .int
  | 28 => .array .int
  | 29 => .array .int
  | 30 => .array .int
  | 31 => .array .int
  | 32 => .int
  | 33 => .array .int
  | 34 => .array .int
  | 35 => .array .int
  | 36 => .array .int
  | 37 => .array .int
  | 38 => .array .int
  | 39 => .int
  | 40 => .array .int
  | 41 => .array .int
  | 42 => .int
  | 43 => .array .int
  | 44 => .array .int
  | 45 => .array .int
  | _ => .array .boolean
abbrev wsX110 : List Cond := u_ws RX11 TX11 47
theorem nmX11 : ∀ a, a < 47 → ∀ b, b < 47 → a ≠ b → (TX11 a).2.1 ≠ (TX11 b).2.1 := by decide +kernel
theorem tyX11_ok : ∀ k, k < 47 → parseFieldDescriptor (TX11 k).2.2.1 = some (tyX11 k) := by decide +kernel
abbrev cX11_init : ByteArray := prog_13_method_1_code
def yX11_init : MethodName := ⟨RX11, "<init>", "()V"⟩
abbrev cX11_in : ByteArray := prog_13_method_3_code
def yX11_in : MethodName := ⟨RX11, "in", "(JJJ)Z"⟩
abbrev cX11_has : ByteArray := prog_13_method_4_code
def yX11_has : MethodName := ⟨RX11, "has", "(II)Z"⟩
abbrev cX11_bits : ByteArray := prog_13_method_5_code
def yX11_bits : MethodName := ⟨RX11, "bits", "(I)I"⟩
abbrev cX11_isWord : ByteArray := prog_13_method_6_code
def yX11_isWord : MethodName := ⟨RX11, "isWord", "(I)Z"⟩
abbrev cX11_isStreet : ByteArray := prog_13_method_7_code
def yX11_isStreet : MethodName := ⟨RX11, "isStreet", "(I)Z"⟩
abbrev cX11_areTwo : ByteArray := prog_13_method_8_code
def yX11_areTwo : MethodName := ⟨RX11, "areTwo", "(II)Z"⟩
abbrev cX11_isCorner : ByteArray := prog_13_method_9_code
def yX11_isCorner : MethodName := ⟨RX11, "isCorner", "(I)Z"⟩
abbrev cX11_feed : ByteArray := prog_13_method_10_code
def yX11_feed : MethodName := ⟨RX11, "feed", "(I)I"⟩
abbrev cX11_here : ByteArray := prog_13_method_11_code
def yX11_here : MethodName := ⟨RX11, "here", "()I"⟩
abbrev cX11_fails : ByteArray := prog_13_method_12_code
def yX11_fails : MethodName := ⟨RX11, "fails", "(II)I"⟩
abbrev cX11_takeNumber : ByteArray := prog_13_method_13_code
def yX11_takeNumber : MethodName := ⟨RX11, "takeNumber", "(II)I"⟩
abbrev cX11_into : ByteArray := prog_13_method_14_code
def yX11_into : MethodName := ⟨RX11, "into", "([IIII)I"⟩
abbrev cX11_takeWords : ByteArray := prog_13_method_15_code
def yX11_takeWords : MethodName := ⟨RX11, "takeWords", "()I"⟩
abbrev cX11_takeStreet : ByteArray := prog_13_method_16_code
def yX11_takeStreet : MethodName := ⟨RX11, "takeStreet", "()I"⟩
abbrev cX11_isJoined : ByteArray := prog_13_method_17_code
def yX11_isJoined : MethodName := ⟨RX11, "isJoined", "(II)Z"⟩
abbrev cX11_takeCorner : ByteArray := prog_13_method_18_code
def yX11_takeCorner : MethodName := ⟨RX11, "takeCorner", "()I"⟩
abbrev cX11_takeClause : ByteArray := prog_13_method_19_code
def yX11_takeClause : MethodName := ⟨RX11, "takeClause", "()I"⟩
abbrev cX11_copyRow : ByteArray := prog_13_method_20_code
def yX11_copyRow : MethodName := ⟨RX11, "copyRow", "([I[II)V"⟩
abbrev cX11_takeRead : ByteArray := prog_13_method_21_code
def yX11_takeRead : MethodName := ⟨RX11, "takeRead", "()V"⟩
abbrev cX11_town : ByteArray := prog_13_method_22_code
def yX11_town : MethodName := ⟨RX11, "town", "()I"⟩
abbrev cX11_fault : ByteArray := prog_13_method_23_code
def yX11_fault : MethodName := ⟨RX11, "fault", "()I"⟩
abbrev cX11_slipBy : ByteArray := prog_13_method_24_code
def yX11_slipBy : MethodName := ⟨RX11, "slipBy", "(IIII)I"⟩
abbrev cX11_overAt : ByteArray := prog_13_method_25_code
def yX11_overAt : MethodName := ⟨RX11, "overAt", "(IZI)I"⟩
abbrev cX11_isOpen : ByteArray := prog_13_method_26_code
def yX11_isOpen : MethodName := ⟨RX11, "isOpen", "(I)Z"⟩
abbrev cX11_isSaying : ByteArray := prog_13_method_27_code
def yX11_isSaying : MethodName := ⟨RX11, "isSaying", "(I)Z"⟩
abbrev cX11_sayingOver : ByteArray := prog_13_method_28_code
def yX11_sayingOver : MethodName := ⟨RX11, "sayingOver", "(IZI)I"⟩
abbrev cX11_hasWord : ByteArray := prog_13_method_29_code
def yX11_hasWord : MethodName := ⟨RX11, "hasWord", "(II)Z"⟩
abbrev cX11_pay : ByteArray := prog_13_method_30_code
def yX11_pay : MethodName := ⟨RX11, "pay", "(I)V"⟩
abbrev cX11_setFeud : ByteArray := prog_13_method_31_code
def yX11_setFeud : MethodName := ⟨RX11, "setFeud", "(IIZ)V"⟩
abbrev cX11_log : ByteArray := prog_13_method_32_code
def yX11_log : MethodName := ⟨RX11, "log", "(IIII)V"⟩
abbrev cX11_hear : ByteArray := prog_13_method_33_code
def yX11_hear : MethodName := ⟨RX11, "hear", "(IIII)V"⟩
abbrev cX11_feuds : ByteArray := prog_13_method_34_code
def yX11_feuds : MethodName := ⟨RX11, "feuds", "()I"⟩
abbrev cX11_everywhere : ByteArray := prog_13_method_35_code
def yX11_everywhere : MethodName := ⟨RX11, "everywhere", "()I"⟩
abbrev cX11_blame : ByteArray := prog_13_method_36_code
def yX11_blame : MethodName := ⟨RX11, "blame", "()I"⟩
abbrev cX11_told : ByteArray := prog_13_method_37_code
def yX11_told : MethodName := ⟨RX11, "told", "(I)I"⟩
abbrev cX11_street : ByteArray := prog_13_method_38_code
def yX11_street : MethodName := ⟨RX11, "street", "(II)I"⟩
abbrev cX11_corner : ByteArray := prog_13_method_39_code
def yX11_corner : MethodName := ⟨RX11, "corner", "(II)I"⟩
abbrev cX11_logged : ByteArray := prog_13_method_40_code
def yX11_logged : MethodName := ⟨RX11, "logged", "(II)I"⟩
abbrev cX11_keyOf : ByteArray := prog_13_method_41_code
def yX11_keyOf : MethodName := ⟨RX11, "keyOf", "(I)I"⟩
abbrev cX11_findAway : ByteArray := prog_13_method_42_code
def yX11_findAway : MethodName := ⟨RX11, "findAway", "(I)V"⟩
abbrev cX11_nextCorner : ByteArray := prog_13_method_43_code
def yX11_nextCorner : MethodName := ⟨RX11, "nextCorner", "(I)I"⟩
abbrev cX11_sentBy : ByteArray := prog_13_method_44_code
def yX11_sentBy : MethodName := ⟨RX11, "sentBy", "(III)I"⟩
abbrev cX11_remember : ByteArray := prog_13_method_45_code
def yX11_remember : MethodName := ⟨RX11, "remember", "()V"⟩
abbrev cX11_say : ByteArray := prog_13_method_46_code
def yX11_say : MethodName := ⟨RX11, "say", "(IZI)I"⟩
abbrev cX11_sendNow : ByteArray := prog_13_method_47_code
def yX11_sendNow : MethodName := ⟨RX11, "sendNow", "(III)I"⟩
abbrev cX11_send : ByteArray := prog_13_method_48_code
def yX11_send : MethodName := ⟨RX11, "send", "(III)I"⟩
abbrev cX11_turn : ByteArray := prog_13_method_49_code
def yX11_turn : MethodName := ⟨RX11, "turn", "(I)V"⟩
abbrev cX11_shut : ByteArray := prog_13_method_50_code
def yX11_shut : MethodName := ⟨RX11, "shut", "(IZ)I"⟩
abbrev cX11_mend : ByteArray := prog_13_method_51_code
def yX11_mend : MethodName := ⟨RX11, "mend", "(I)I"⟩
abbrev cX11_quarrel : ByteArray := prog_13_method_52_code
def yX11_quarrel : MethodName := ⟨RX11, "quarrel", "(IIZ)I"⟩
abbrev cX11_draw : ByteArray := prog_13_method_53_code
def yX11_draw : MethodName := ⟨RX11, "draw", "(I)I"⟩
abbrev cX11_chance : ByteArray := prog_13_method_54_code
def yX11_chance : MethodName := ⟨RX11, "chance", "()V"⟩
abbrev cX11_drift : ByteArray := prog_13_method_55_code
def yX11_drift : MethodName := ⟨RX11, "drift", "(I)I"⟩
abbrev cX11_undo : ByteArray := prog_13_method_56_code
def yX11_undo : MethodName := ⟨RX11, "undo", "()I"⟩
abbrev cX11_over : ByteArray := prog_13_method_57_code
def yX11_over : MethodName := ⟨RX11, "over", "(IZI)I"⟩
abbrev cX11_becomes : ByteArray := prog_13_method_58_code
def yX11_becomes : MethodName := ⟨RX11, "becomes", "(III)I"⟩
abbrev cX11_way : ByteArray := prog_13_method_59_code
def yX11_way : MethodName := ⟨RX11, "way", "(III)I"⟩
abbrev cX11_stepOver : ByteArray := prog_13_method_60_code
def yX11_stepOver : MethodName := ⟨RX11, "stepOver", "(IZIZ)V"⟩
abbrev cX11_spread : ByteArray := prog_13_method_61_code
def yX11_spread : MethodName := ⟨RX11, "spread", "(Z)V"⟩
abbrev cX11_clearCosts : ByteArray := prog_13_method_62_code
def yX11_clearCosts : MethodName := ⟨RX11, "clearCosts", "()V"⟩
abbrev cX11_through : ByteArray := prog_13_method_63_code
def yX11_through : MethodName := ⟨RX11, "through", "(IIIII)I"⟩
abbrev cX11_code : ByteArray := prog_13_method_64_code
def yX11_code : MethodName := ⟨RX11, "code", "(III)I"⟩
abbrev cX11_stepBack : ByteArray := prog_13_method_65_code
def yX11_stepBack : MethodName := ⟨RX11, "stepBack", "()V"⟩
abbrev cX11_origin : ByteArray := prog_13_method_66_code
def yX11_origin : MethodName := ⟨RX11, "origin", "(IIII)I"⟩
abbrev cX11_ring : ByteArray := prog_13_method_67_code
def yX11_ring : MethodName := ⟨RX11, "ring", "(III)I"⟩
abbrev cX11_findFares : ByteArray := prog_13_method_68_code
def yX11_findFares : MethodName := ⟨RX11, "findFares", "(II)V"⟩
abbrev cX11_allFares : ByteArray := prog_13_method_69_code
def yX11_allFares : MethodName := ⟨RX11, "allFares", "()I"⟩
abbrev cX11_haveCorner : ByteArray := prog_13_method_70_code
def yX11_haveCorner : MethodName := ⟨RX11, "haveCorner", "(II)Z"⟩
abbrev cX11_more : ByteArray := prog_13_method_71_code
def yX11_more : MethodName := ⟨RX11, "more", "(I)I"⟩
abbrev cX11_getsTo : ByteArray := prog_13_method_72_code
def yX11_getsTo : MethodName := ⟨RX11, "getsTo", "(II)I"⟩
abbrev cX11_cut : ByteArray := prog_13_method_73_code
def yX11_cut : MethodName := ⟨RX11, "cut", "(III)I"⟩
abbrev cX11_walk : ByteArray := prog_13_method_74_code
def yX11_walk : MethodName := ⟨RX11, "walk", "(I)I"⟩
abbrev cX11_holds : ByteArray := prog_13_method_75_code
def yX11_holds : MethodName := ⟨RX11, "holds", "(II)I"⟩
abbrev cX11_see : ByteArray := prog_13_method_76_code
def yX11_see : MethodName := ⟨RX11, "see", "(II)I"⟩
abbrev cX11_couldSlip : ByteArray := prog_13_method_77_code
def yX11_couldSlip : MethodName := ⟨RX11, "couldSlip", "(I)Z"⟩
abbrev cX11_slips : ByteArray := prog_13_method_78_code
def yX11_slips : MethodName := ⟨RX11, "slips", "(I)I"⟩
abbrev cX11_greatestPart : ByteArray := prog_13_method_79_code
def yX11_greatestPart : MethodName := ⟨RX11, "greatestPart", "(I)I"⟩
abbrev cX11_tryNext : ByteArray := prog_13_method_80_code
def yX11_tryNext : MethodName := ⟨RX11, "tryNext", "()I"⟩
abbrev cX11_write : ByteArray := prog_13_method_81_code
def yX11_write : MethodName := ⟨RX11, "write", "(II)I"⟩
abbrev cX11_tear : ByteArray := prog_13_method_82_code
def yX11_tear : MethodName := ⟨RX11, "tear", "()I"⟩
abbrev cX11_judge : ByteArray := prog_13_method_83_code
def yX11_judge : MethodName := ⟨RX11, "judge", "()I"⟩
abbrev cX11_seed : ByteArray := prog_13_method_84_code
def yX11_seed : MethodName := ⟨RX11, "seed", "(I)I"⟩
abbrev cX11_keep : ByteArray := prog_13_method_85_code
def yX11_keep : MethodName := ⟨RX11, "keep", "(I)I"⟩
abbrev cX11_goBack : ByteArray := prog_13_method_86_code
def yX11_goBack : MethodName := ⟨RX11, "goBack", "(I)I"⟩
def RJ6 : String := "java/lang/Integer"
def TJ6 : u_T := fun k => match k with
  | _ => ("", "", "", false)
def tyJ6 : Nat → FieldType := fun k => match k with
  | _ => .int
abbrev wsJ60 : List Cond := u_ws RJ6 TJ6 0
abbrev cJ6_bitCount_0f7a4 : ByteArray := prog_14_method_49_code
def yJ6_bitCount_0f7a4 : MethodName := ⟨RJ6, "bitCount", "(I)I"⟩
def RJ9 : String := "java/lang/Math"
def TJ9 : u_T := fun k => match k with
  | _ => ("", "", "", false)
def tyJ9 : Nat → FieldType := fun k => match k with
  | _ => .int
abbrev wsJ90 : List Cond := u_ws RJ9 TJ9 0
abbrev cJ9_max_7cf53 : ByteArray := prog_15_method_65_code
def yJ9_max_7cf53 : MethodName := ⟨RJ9, "max", "(II)I"⟩
abbrev cJ9_min_7cf53 : ByteArray := prog_15_method_69_code
def yJ9_min_7cf53 : MethodName := ⟨RJ9, "min", "(II)I"⟩
def RJ10 : String := "java/lang/System"
def TJ10 : u_T := fun k => match k with
  | _ => ("", "", "", false)
def tyJ10 : Nat → FieldType := fun k => match k with
  | _ => .int
abbrev wsJ100 : List Cond := u_ws RJ10 TJ10 0
def RJ7 : String := "java/util/Arrays"
def TJ7 : u_T := fun k => match k with
  | _ => ("", "", "", false)
def tyJ7 : Nat → FieldType := fun k => match k with
  | _ => .int
abbrev wsJ70 : List Cond := u_ws RJ7 TJ7 0
abbrev cJ7_fill_53178 : ByteArray := prog_17_method_103_code
def yJ7_fill_53178 : MethodName := ⟨RJ7, "fill", "([II)V"⟩
def RL : String := "StreetTonguesLaw"
abbrev cL_law : ByteArray := code
def yL_law : MethodName := ⟨RL, "law", "([I)Z"⟩
theorem inX0 : ∀ w ∈ wsX00, w ∈ lw_tbl := by decide +kernel
theorem inX1 : ∀ w ∈ wsX10, w ∈ lw_tbl := by decide +kernel
theorem inX2 : ∀ w ∈ wsX20, w ∈ lw_tbl := by decide +kernel
theorem inX3 : ∀ w ∈ wsX30, w ∈ lw_tbl := by decide +kernel
theorem inX4 : ∀ w ∈ wsX40, w ∈ lw_tbl := by decide +kernel
theorem inX5 : ∀ w ∈ wsX50, w ∈ lw_tbl := by decide +kernel
theorem inX6 : ∀ w ∈ wsX60, w ∈ lw_tbl := by decide +kernel
theorem inX7 : ∀ w ∈ wsX70, w ∈ lw_tbl := by decide +kernel
theorem inX8 : ∀ w ∈ wsX80, w ∈ lw_tbl := by decide +kernel
theorem inX9 : ∀ w ∈ wsX90, w ∈ lw_tbl := by decide +kernel
theorem inX10 : ∀ w ∈ wsX100, w ∈ lw_tbl := by decide +kernel
theorem inX11 : ∀ w ∈ wsX110, w ∈ lw_tbl := by decide +kernel
abbrev vwCl : List vw_C := [(RX0, TX0, 1), (RX1, TX1, 3), (RX2, TX2, 2), (RX3, TX3, 6), (RX4, TX4, 4), (RX5, TX5, 6), (RX6, TX6, 8), (RX7, TX7, 7), (RX8, TX8, 12), (RX9, TX9, 6), (RX10, TX10, 11), (RX11, TX11, 47)]
