section
-- ===== PART A: goes FIRST, ahead of the names: the tables' words, and 'selects' of the private methods out of them =====
/-- a private method of a class that the tables say can be made, by its rows of tables_1 -/
def lw_okq (q : MethodName × Nat) : Prop := (q.1.cls ≠ "java/lang/invoke/MethodHandle" ∧ q.1.cls ≠ "java/lang/invoke/VarHandle") ∧ Cond.instantiable q.1.cls q.2 ∈ tables_1 ∧ Cond.privateMethod q.1 ∈ tables_1 ∧ Cond.instanceMethod q.1 ∈ tables_1
theorem lw_p0 : lw_okq (⟨"PaperAger$Law", "work", "(II[I)I"⟩, 7) := ⟨⟨by decide +kernel, by decide +kernel⟩, List.mem_of_getElem? (i := 85) (by decide +kernel), List.mem_of_getElem? (i := 492) (by decide +kernel), List.mem_of_getElem? (i := 493) (by decide +kernel)⟩
theorem lw_p1 : lw_okq (⟨"PaperAger$Archive", "drawDeaths", "()I"⟩, 11) := ⟨⟨by decide +kernel, by decide +kernel⟩, List.mem_of_getElem? (i := 31) (by decide +kernel), List.mem_of_getElem? (i := 544) (by decide +kernel), List.mem_of_getElem? (i := 545) (by decide +kernel)⟩
theorem lw_p2 : lw_okq (⟨"PaperAger$Archive", "drawTenThousandth", "()I"⟩, 11) := ⟨⟨by decide +kernel, by decide +kernel⟩, List.mem_of_getElem? (i := 31) (by decide +kernel), List.mem_of_getElem? (i := 548) (by decide +kernel), List.mem_of_getElem? (i := 549) (by decide +kernel)⟩
theorem lw_p3 : lw_okq (⟨"PaperAger$Archive", "passLeases", "()V"⟩, 11) := ⟨⟨by decide +kernel, by decide +kernel⟩, List.mem_of_getElem? (i := 31) (by decide +kernel), List.mem_of_getElem? (i := 554) (by decide +kernel), List.mem_of_getElem? (i := 555) (by decide +kernel)⟩
theorem lw_p4 : lw_okq (⟨"PaperAger$LawReader", "begin", "()V"⟩, 9) := ⟨⟨by decide +kernel, by decide +kernel⟩, List.mem_of_getElem? (i := 256) (by decide +kernel), List.mem_of_getElem? (i := 591) (by decide +kernel), List.mem_of_getElem? (i := 592) (by decide +kernel)⟩
theorem lw_p5 : lw_okq (⟨"PaperAger$Token", "takeWord", "(LPaperAger$Tape;)V"⟩, 4) := ⟨⟨by decide +kernel, by decide +kernel⟩, List.mem_of_getElem? (i := 264) (by decide +kernel), List.mem_of_getElem? (i := 619) (by decide +kernel), List.mem_of_getElem? (i := 620) (by decide +kernel)⟩
theorem lw_p6 : lw_okq (⟨"PaperAger$Token", "takeNumber", "(LPaperAger$Tape;)V"⟩, 4) := ⟨⟨by decide +kernel, by decide +kernel⟩, List.mem_of_getElem? (i := 264) (by decide +kernel), List.mem_of_getElem? (i := 675) (by decide +kernel), List.mem_of_getElem? (i := 676) (by decide +kernel)⟩
theorem lw_p7 : lw_okq (⟨"PaperAger$Token", "takeSign", "(I)V"⟩, 4) := ⟨⟨by decide +kernel, by decide +kernel⟩, List.mem_of_getElem? (i := 264) (by decide +kernel), List.mem_of_getElem? (i := 679) (by decide +kernel), List.mem_of_getElem? (i := 680) (by decide +kernel)⟩
theorem lw_p8 : lw_okq (⟨"PaperAger$LawReader", "takeLine", "(I)V"⟩, 9) := ⟨⟨by decide +kernel, by decide +kernel⟩, List.mem_of_getElem? (i := 256) (by decide +kernel), List.mem_of_getElem? (i := 739) (by decide +kernel), List.mem_of_getElem? (i := 740) (by decide +kernel)⟩
theorem lw_p9 : lw_okq (⟨"PaperAger$LawReader", "refuse", "(I)V"⟩, 9) := ⟨⟨by decide +kernel, by decide +kernel⟩, List.mem_of_getElem? (i := 256) (by decide +kernel), List.mem_of_getElem? (i := 743) (by decide +kernel), List.mem_of_getElem? (i := 744) (by decide +kernel)⟩
theorem lw_p10 : lw_okq (⟨"PaperAger$LawReader", "takeUnit", "(I)V"⟩, 9) := ⟨⟨by decide +kernel, by decide +kernel⟩, List.mem_of_getElem? (i := 256) (by decide +kernel), List.mem_of_getElem? (i := 756) (by decide +kernel), List.mem_of_getElem? (i := 757) (by decide +kernel)⟩
theorem lw_p11 : lw_okq (⟨"PaperAger$LawReader", "takeDivisor", "(I)V"⟩, 9) := ⟨⟨by decide +kernel, by decide +kernel⟩, List.mem_of_getElem? (i := 256) (by decide +kernel), List.mem_of_getElem? (i := 772) (by decide +kernel), List.mem_of_getElem? (i := 773) (by decide +kernel)⟩
theorem lw_p12 : lw_okq (⟨"PaperAger$LawReader", "takeTest", "(I)V"⟩, 9) := ⟨⟨by decide +kernel, by decide +kernel⟩, List.mem_of_getElem? (i := 256) (by decide +kernel), List.mem_of_getElem? (i := 776) (by decide +kernel), List.mem_of_getElem? (i := 777) (by decide +kernel)⟩
theorem lw_p13 : lw_okq (⟨"PaperAger$LawReader", "countWaiting", "(I)I"⟩, 9) := ⟨⟨by decide +kernel, by decide +kernel⟩, List.mem_of_getElem? (i := 256) (by decide +kernel), List.mem_of_getElem? (i := 780) (by decide +kernel), List.mem_of_getElem? (i := 781) (by decide +kernel)⟩
theorem lw_p14 : lw_okq (⟨"PaperAger$LawReader", "putSign", "(I)V"⟩, 9) := ⟨⟨by decide +kernel, by decide +kernel⟩, List.mem_of_getElem? (i := 256) (by decide +kernel), List.mem_of_getElem? (i := 784) (by decide +kernel), List.mem_of_getElem? (i := 785) (by decide +kernel)⟩
theorem lw_p15 : lw_okq (⟨"PaperAger$LawReader", "takeOperator", "(I)V"⟩, 9) := ⟨⟨by decide +kernel, by decide +kernel⟩, List.mem_of_getElem? (i := 256) (by decide +kernel), List.mem_of_getElem? (i := 788) (by decide +kernel), List.mem_of_getElem? (i := 789) (by decide +kernel)⟩
def lw_privs_1 : List (MethodName × Nat) := [(⟨"PaperAger$Law", "work", "(II[I)I"⟩, 7), (⟨"PaperAger$Archive", "drawDeaths", "()I"⟩, 11), (⟨"PaperAger$Archive", "drawTenThousandth", "()I"⟩, 11), (⟨"PaperAger$Archive", "passLeases", "()V"⟩, 11), (⟨"PaperAger$LawReader", "begin", "()V"⟩, 9), (⟨"PaperAger$Token", "takeWord", "(LPaperAger$Tape;)V"⟩, 4), (⟨"PaperAger$Token", "takeNumber", "(LPaperAger$Tape;)V"⟩, 4), (⟨"PaperAger$Token", "takeSign", "(I)V"⟩, 4), (⟨"PaperAger$LawReader", "takeLine", "(I)V"⟩, 9), (⟨"PaperAger$LawReader", "refuse", "(I)V"⟩, 9), (⟨"PaperAger$LawReader", "takeUnit", "(I)V"⟩, 9), (⟨"PaperAger$LawReader", "takeDivisor", "(I)V"⟩, 9), (⟨"PaperAger$LawReader", "takeTest", "(I)V"⟩, 9), (⟨"PaperAger$LawReader", "countWaiting", "(I)I"⟩, 9), (⟨"PaperAger$LawReader", "putSign", "(I)V"⟩, 9), (⟨"PaperAger$LawReader", "takeOperator", "(I)V"⟩, 9)]
theorem lw_r1 : ∀ q ∈ lw_privs_1, lw_okq q := List.forall_mem_cons.mpr ⟨lw_p0, List.forall_mem_cons.mpr ⟨lw_p1, List.forall_mem_cons.mpr ⟨lw_p2, List.forall_mem_cons.mpr ⟨lw_p3, List.forall_mem_cons.mpr ⟨lw_p4, List.forall_mem_cons.mpr ⟨lw_p5, List.forall_mem_cons.mpr ⟨lw_p6, List.forall_mem_cons.mpr ⟨lw_p7, List.forall_mem_cons.mpr ⟨lw_p8, List.forall_mem_cons.mpr ⟨lw_p9, List.forall_mem_cons.mpr ⟨lw_p10, List.forall_mem_cons.mpr ⟨lw_p11, List.forall_mem_cons.mpr ⟨lw_p12, List.forall_mem_cons.mpr ⟨lw_p13, List.forall_mem_cons.mpr ⟨lw_p14, List.forall_mem_cons.mpr ⟨lw_p15, fun _ h => absurd h List.not_mem_nil⟩⟩⟩⟩⟩⟩⟩⟩⟩⟩⟩⟩⟩⟩⟩⟩
theorem lw_p16 : lw_okq (⟨"PaperAger$LawReader", "putBinding", "(I)V"⟩, 9) := ⟨⟨by decide +kernel, by decide +kernel⟩, List.mem_of_getElem? (i := 256) (by decide +kernel), List.mem_of_getElem? (i := 795) (by decide +kernel), List.mem_of_getElem? (i := 796) (by decide +kernel)⟩
theorem lw_p17 : lw_okq (⟨"PaperAger$LawReader", "releaseFrom", "(I)V"⟩, 9) := ⟨⟨by decide +kernel, by decide +kernel⟩, List.mem_of_getElem? (i := 256) (by decide +kernel), List.mem_of_getElem? (i := 802) (by decide +kernel), List.mem_of_getElem? (i := 803) (by decide +kernel)⟩
theorem lw_p18 : lw_okq (⟨"PaperAger$LawReader", "takeEndOfAge", "()V"⟩, 9) := ⟨⟨by decide +kernel, by decide +kernel⟩, List.mem_of_getElem? (i := 256) (by decide +kernel), List.mem_of_getElem? (i := 809) (by decide +kernel), List.mem_of_getElem? (i := 810) (by decide +kernel)⟩
theorem lw_p19 : lw_okq (⟨"PaperAger$LawReader", "takeEndOfLine", "()V"⟩, 9) := ⟨⟨by decide +kernel, by decide +kernel⟩, List.mem_of_getElem? (i := 256) (by decide +kernel), List.mem_of_getElem? (i := 817) (by decide +kernel), List.mem_of_getElem? (i := 818) (by decide +kernel)⟩
theorem lw_p20 : lw_okq (⟨"PaperAger$LawReader", "takeJoint", "(I)V"⟩, 9) := ⟨⟨by decide +kernel, by decide +kernel⟩, List.mem_of_getElem? (i := 256) (by decide +kernel), List.mem_of_getElem? (i := 825) (by decide +kernel), List.mem_of_getElem? (i := 826) (by decide +kernel)⟩
theorem lw_p21 : lw_okq (⟨"PaperAger$Thought", "claimsStand", "(LPaperAger$Archive;LPaperAger$Paper;)Z"⟩, 5) := ⟨⟨by decide +kernel, by decide +kernel⟩, List.mem_of_getElem? (i := 340) (by decide +kernel), List.mem_of_getElem? (i := 893) (by decide +kernel), List.mem_of_getElem? (i := 894) (by decide +kernel)⟩
theorem lw_p22 : lw_okq (⟨"PaperAger$Thought", "imagine", "(LPaperAger$Archive;LPaperAger$Paper;II)LPaperAger$Paper;"⟩, 5) := ⟨⟨by decide +kernel, by decide +kernel⟩, List.mem_of_getElem? (i := 340) (by decide +kernel), List.mem_of_getElem? (i := 899) (by decide +kernel), List.mem_of_getElem? (i := 900) (by decide +kernel)⟩
theorem lw_p23 : lw_okq (⟨"PaperAger$Thought", "suffices", "(LPaperAger$Archive;I)Z"⟩, 5) := ⟨⟨by decide +kernel, by decide +kernel⟩, List.mem_of_getElem? (i := 340) (by decide +kernel), List.mem_of_getElem? (i := 918) (by decide +kernel), List.mem_of_getElem? (i := 919) (by decide +kernel)⟩
theorem lw_p24 : lw_okq (⟨"PaperAger$Thought", "countThumb", "(II)V"⟩, 5) := ⟨⟨by decide +kernel, by decide +kernel⟩, List.mem_of_getElem? (i := 340) (by decide +kernel), List.mem_of_getElem? (i := 939) (by decide +kernel), List.mem_of_getElem? (i := 940) (by decide +kernel)⟩
theorem lw_p25 : lw_okq (⟨"PaperAger$Archive", "isLeap", "(III)Z"⟩, 11) := ⟨⟨by decide +kernel, by decide +kernel⟩, List.mem_of_getElem? (i := 31) (by decide +kernel), List.mem_of_getElem? (i := 951) (by decide +kernel), List.mem_of_getElem? (i := 952) (by decide +kernel)⟩
theorem lw_p26 : lw_okq (⟨"PaperAgerModel", "isIn", "(III)Z"⟩, 55) := ⟨⟨by decide +kernel, by decide +kernel⟩, List.mem_of_getElem? (i := 1031) (by decide +kernel), List.mem_of_getElem? (i := 1212) (by decide +kernel), List.mem_of_getElem? (i := 1213) (by decide +kernel)⟩
theorem lw_p27 : lw_okq (⟨"PaperAgerModel", "isReader", "(I)Z"⟩, 55) := ⟨⟨by decide +kernel, by decide +kernel⟩, List.mem_of_getElem? (i := 1031) (by decide +kernel), List.mem_of_getElem? (i := 1220) (by decide +kernel), List.mem_of_getElem? (i := 1221) (by decide +kernel)⟩
theorem lw_p28 : lw_okq (⟨"PaperAgerModel", "isShelf", "(I)Z"⟩, 55) := ⟨⟨by decide +kernel, by decide +kernel⟩, List.mem_of_getElem? (i := 1031) (by decide +kernel), List.mem_of_getElem? (i := 1228) (by decide +kernel), List.mem_of_getElem? (i := 1229) (by decide +kernel)⟩
theorem lw_p29 : lw_okq (⟨"PaperAgerModel", "isUnread", "(I)V"⟩, 55) := ⟨⟨by decide +kernel, by decide +kernel⟩, List.mem_of_getElem? (i := 1031) (by decide +kernel), List.mem_of_getElem? (i := 1232) (by decide +kernel), List.mem_of_getElem? (i := 1233) (by decide +kernel)⟩
theorem lw_p30 : lw_okq (⟨"PaperAgerModel", "isPaper", "(I)Z"⟩, 55) := ⟨⟨by decide +kernel, by decide +kernel⟩, List.mem_of_getElem? (i := 1031) (by decide +kernel), List.mem_of_getElem? (i := 1240) (by decide +kernel), List.mem_of_getElem? (i := 1241) (by decide +kernel)⟩
theorem lw_p31 : lw_okq (⟨"PaperAgerModel", "doesLive", "(II)Z"⟩, 55) := ⟨⟨by decide +kernel, by decide +kernel⟩, List.mem_of_getElem? (i := 1031) (by decide +kernel), List.mem_of_getElem? (i := 1256) (by decide +kernel), List.mem_of_getElem? (i := 1257) (by decide +kernel)⟩
def lw_privs_2 : List (MethodName × Nat) := [(⟨"PaperAger$LawReader", "putBinding", "(I)V"⟩, 9), (⟨"PaperAger$LawReader", "releaseFrom", "(I)V"⟩, 9), (⟨"PaperAger$LawReader", "takeEndOfAge", "()V"⟩, 9), (⟨"PaperAger$LawReader", "takeEndOfLine", "()V"⟩, 9), (⟨"PaperAger$LawReader", "takeJoint", "(I)V"⟩, 9), (⟨"PaperAger$Thought", "claimsStand", "(LPaperAger$Archive;LPaperAger$Paper;)Z"⟩, 5), (⟨"PaperAger$Thought", "imagine", "(LPaperAger$Archive;LPaperAger$Paper;II)LPaperAger$Paper;"⟩, 5), (⟨"PaperAger$Thought", "suffices", "(LPaperAger$Archive;I)Z"⟩, 5), (⟨"PaperAger$Thought", "countThumb", "(II)V"⟩, 5), (⟨"PaperAger$Archive", "isLeap", "(III)Z"⟩, 11), (⟨"PaperAgerModel", "isIn", "(III)Z"⟩, 55), (⟨"PaperAgerModel", "isReader", "(I)Z"⟩, 55), (⟨"PaperAgerModel", "isShelf", "(I)Z"⟩, 55), (⟨"PaperAgerModel", "isUnread", "(I)V"⟩, 55), (⟨"PaperAgerModel", "isPaper", "(I)Z"⟩, 55), (⟨"PaperAgerModel", "doesLive", "(II)Z"⟩, 55)]
theorem lw_r2 : ∀ q ∈ lw_privs_2, lw_okq q := List.forall_mem_cons.mpr ⟨lw_p16, List.forall_mem_cons.mpr ⟨lw_p17, List.forall_mem_cons.mpr ⟨lw_p18, List.forall_mem_cons.mpr ⟨lw_p19, List.forall_mem_cons.mpr ⟨lw_p20, List.forall_mem_cons.mpr ⟨lw_p21, List.forall_mem_cons.mpr ⟨lw_p22, List.forall_mem_cons.mpr ⟨lw_p23, List.forall_mem_cons.mpr ⟨lw_p24, List.forall_mem_cons.mpr ⟨lw_p25, List.forall_mem_cons.mpr ⟨lw_p26, List.forall_mem_cons.mpr ⟨lw_p27, List.forall_mem_cons.mpr ⟨lw_p28, List.forall_mem_cons.mpr ⟨lw_p29, List.forall_mem_cons.mpr ⟨lw_p30, List.forall_mem_cons.mpr ⟨lw_p31, fun _ h => absurd h List.not_mem_nil⟩⟩⟩⟩⟩⟩⟩⟩⟩⟩⟩⟩⟩⟩⟩⟩
theorem lw_p32 : lw_okq (⟨"PaperAgerModel", "types", "(I)V"⟩, 55) := ⟨⟨by decide +kernel, by decide +kernel⟩, List.mem_of_getElem? (i := 1031) (by decide +kernel), List.mem_of_getElem? (i := 1264) (by decide +kernel), List.mem_of_getElem? (i := 1265) (by decide +kernel)⟩
theorem lw_p33 : lw_okq (⟨"PaperAgerModel", "reads", "()V"⟩, 55) := ⟨⟨by decide +kernel, by decide +kernel⟩, List.mem_of_getElem? (i := 1031) (by decide +kernel), List.mem_of_getElem? (i := 1276) (by decide +kernel), List.mem_of_getElem? (i := 1277) (by decide +kernel)⟩
theorem lw_p34 : lw_okq (⟨"PaperAgerModel", "raw", "(I)I"⟩, 55) := ⟨⟨by decide +kernel, by decide +kernel⟩, List.mem_of_getElem? (i := 1031) (by decide +kernel), List.mem_of_getElem? (i := 1280) (by decide +kernel), List.mem_of_getElem? (i := 1281) (by decide +kernel)⟩
theorem lw_p35 : lw_okq (⟨"PaperAgerModel", "isLetter", "(I)Z"⟩, 55) := ⟨⟨by decide +kernel, by decide +kernel⟩, List.mem_of_getElem? (i := 1031) (by decide +kernel), List.mem_of_getElem? (i := 1284) (by decide +kernel), List.mem_of_getElem? (i := 1285) (by decide +kernel)⟩
theorem lw_p36 : lw_okq (⟨"PaperAgerModel", "wordAt", "(II)I"⟩, 55) := ⟨⟨by decide +kernel, by decide +kernel⟩, List.mem_of_getElem? (i := 1031) (by decide +kernel), List.mem_of_getElem? (i := 1288) (by decide +kernel), List.mem_of_getElem? (i := 1289) (by decide +kernel)⟩
theorem lw_p37 : lw_okq (⟨"PaperAgerModel", "isDigit", "(I)Z"⟩, 55) := ⟨⟨by decide +kernel, by decide +kernel⟩, List.mem_of_getElem? (i := 1031) (by decide +kernel), List.mem_of_getElem? (i := 1292) (by decide +kernel), List.mem_of_getElem? (i := 1293) (by decide +kernel)⟩
theorem lw_p38 : lw_okq (⟨"PaperAgerModel", "isMarkSign", "(I)Z"⟩, 55) := ⟨⟨by decide +kernel, by decide +kernel⟩, List.mem_of_getElem? (i := 1031) (by decide +kernel), List.mem_of_getElem? (i := 1296) (by decide +kernel), List.mem_of_getElem? (i := 1297) (by decide +kernel)⟩
theorem lw_p39 : lw_okq (⟨"PaperAgerModel", "readText", "()I"⟩, 55) := ⟨⟨by decide +kernel, by decide +kernel⟩, List.mem_of_getElem? (i := 1031) (by decide +kernel), List.mem_of_getElem? (i := 1300) (by decide +kernel), List.mem_of_getElem? (i := 1301) (by decide +kernel)⟩
theorem lw_p40 : lw_okq (⟨"PaperAgerModel", "isWord", "(I)Z"⟩, 55) := ⟨⟨by decide +kernel, by decide +kernel⟩, List.mem_of_getElem? (i := 1031) (by decide +kernel), List.mem_of_getElem? (i := 1304) (by decide +kernel), List.mem_of_getElem? (i := 1305) (by decide +kernel)⟩
theorem lw_p41 : lw_okq (⟨"PaperAgerModel", "errs", "(I)I"⟩, 55) := ⟨⟨by decide +kernel, by decide +kernel⟩, List.mem_of_getElem? (i := 1031) (by decide +kernel), List.mem_of_getElem? (i := 1308) (by decide +kernel), List.mem_of_getElem? (i := 1309) (by decide +kernel)⟩
theorem lw_p42 : lw_okq (⟨"PaperAgerModel", "readSum", "()I"⟩, 55) := ⟨⟨by decide +kernel, by decide +kernel⟩, List.mem_of_getElem? (i := 1031) (by decide +kernel), List.mem_of_getElem? (i := 1312) (by decide +kernel), List.mem_of_getElem? (i := 1313) (by decide +kernel)⟩
theorem lw_p43 : lw_okq (⟨"PaperAgerModel", "readProduct", "()I"⟩, 55) := ⟨⟨by decide +kernel, by decide +kernel⟩, List.mem_of_getElem? (i := 1031) (by decide +kernel), List.mem_of_getElem? (i := 1316) (by decide +kernel), List.mem_of_getElem? (i := 1317) (by decide +kernel)⟩
theorem lw_p44 : lw_okq (⟨"PaperAgerModel", "readUnit", "()I"⟩, 55) := ⟨⟨by decide +kernel, by decide +kernel⟩, List.mem_of_getElem? (i := 1031) (by decide +kernel), List.mem_of_getElem? (i := 1320) (by decide +kernel), List.mem_of_getElem? (i := 1321) (by decide +kernel)⟩
theorem lw_p45 : lw_okq (⟨"PaperAgerModel", "emits", "(II)V"⟩, 55) := ⟨⟨by decide +kernel, by decide +kernel⟩, List.mem_of_getElem? (i := 1031) (by decide +kernel), List.mem_of_getElem? (i := 1324) (by decide +kernel), List.mem_of_getElem? (i := 1325) (by decide +kernel)⟩
theorem lw_p46 : lw_okq (⟨"PaperAgerModel", "isSign", "(I)Z"⟩, 55) := ⟨⟨by decide +kernel, by decide +kernel⟩, List.mem_of_getElem? (i := 1031) (by decide +kernel), List.mem_of_getElem? (i := 1328) (by decide +kernel), List.mem_of_getElem? (i := 1329) (by decide +kernel)⟩
theorem lw_p47 : lw_okq (⟨"PaperAgerModel", "readAny", "()I"⟩, 55) := ⟨⟨by decide +kernel, by decide +kernel⟩, List.mem_of_getElem? (i := 1031) (by decide +kernel), List.mem_of_getElem? (i := 1332) (by decide +kernel), List.mem_of_getElem? (i := 1333) (by decide +kernel)⟩
def lw_privs_3 : List (MethodName × Nat) := [(⟨"PaperAgerModel", "types", "(I)V"⟩, 55), (⟨"PaperAgerModel", "reads", "()V"⟩, 55), (⟨"PaperAgerModel", "raw", "(I)I"⟩, 55), (⟨"PaperAgerModel", "isLetter", "(I)Z"⟩, 55), (⟨"PaperAgerModel", "wordAt", "(II)I"⟩, 55), (⟨"PaperAgerModel", "isDigit", "(I)Z"⟩, 55), (⟨"PaperAgerModel", "isMarkSign", "(I)Z"⟩, 55), (⟨"PaperAgerModel", "readText", "()I"⟩, 55), (⟨"PaperAgerModel", "isWord", "(I)Z"⟩, 55), (⟨"PaperAgerModel", "errs", "(I)I"⟩, 55), (⟨"PaperAgerModel", "readSum", "()I"⟩, 55), (⟨"PaperAgerModel", "readProduct", "()I"⟩, 55), (⟨"PaperAgerModel", "readUnit", "()I"⟩, 55), (⟨"PaperAgerModel", "emits", "(II)V"⟩, 55), (⟨"PaperAgerModel", "isSign", "(I)Z"⟩, 55), (⟨"PaperAgerModel", "readAny", "()I"⟩, 55)]
theorem lw_r3 : ∀ q ∈ lw_privs_3, lw_okq q := List.forall_mem_cons.mpr ⟨lw_p32, List.forall_mem_cons.mpr ⟨lw_p33, List.forall_mem_cons.mpr ⟨lw_p34, List.forall_mem_cons.mpr ⟨lw_p35, List.forall_mem_cons.mpr ⟨lw_p36, List.forall_mem_cons.mpr ⟨lw_p37, List.forall_mem_cons.mpr ⟨lw_p38, List.forall_mem_cons.mpr ⟨lw_p39, List.forall_mem_cons.mpr ⟨lw_p40, List.forall_mem_cons.mpr ⟨lw_p41, List.forall_mem_cons.mpr ⟨lw_p42, List.forall_mem_cons.mpr ⟨lw_p43, List.forall_mem_cons.mpr ⟨lw_p44, List.forall_mem_cons.mpr ⟨lw_p45, List.forall_mem_cons.mpr ⟨lw_p46, List.forall_mem_cons.mpr ⟨lw_p47, fun _ h => absurd h List.not_mem_nil⟩⟩⟩⟩⟩⟩⟩⟩⟩⟩⟩⟩⟩⟩⟩⟩
theorem lw_p48 : lw_okq (⟨"PaperAgerModel", "waits", "(I)V"⟩, 55) := ⟨⟨by decide +kernel, by decide +kernel⟩, List.mem_of_getElem? (i := 1031) (by decide +kernel), List.mem_of_getElem? (i := 1336) (by decide +kernel), List.mem_of_getElem? (i := 1337) (by decide +kernel)⟩
theorem lw_p49 : lw_okq (⟨"PaperAgerModel", "readCompared", "()I"⟩, 55) := ⟨⟨by decide +kernel, by decide +kernel⟩, List.mem_of_getElem? (i := 1031) (by decide +kernel), List.mem_of_getElem? (i := 1340) (by decide +kernel), List.mem_of_getElem? (i := 1341) (by decide +kernel)⟩
theorem lw_p50 : lw_okq (⟨"PaperAgerModel", "settles", "(I)V"⟩, 55) := ⟨⟨by decide +kernel, by decide +kernel⟩, List.mem_of_getElem? (i := 1031) (by decide +kernel), List.mem_of_getElem? (i := 1344) (by decide +kernel), List.mem_of_getElem? (i := 1345) (by decide +kernel)⟩
theorem lw_p51 : lw_okq (⟨"PaperAgerModel", "ageOf", "(III)I"⟩, 55) := ⟨⟨by decide +kernel, by decide +kernel⟩, List.mem_of_getElem? (i := 1031) (by decide +kernel), List.mem_of_getElem? (i := 1356) (by decide +kernel), List.mem_of_getElem? (i := 1357) (by decide +kernel)⟩
theorem lw_p52 : lw_okq (⟨"PaperAgerModel", "yearsOf", "(II)I"⟩, 55) := ⟨⟨by decide +kernel, by decide +kernel⟩, List.mem_of_getElem? (i := 1031) (by decide +kernel), List.mem_of_getElem? (i := 1360) (by decide +kernel), List.mem_of_getElem? (i := 1361) (by decide +kernel)⟩
theorem lw_p53 : lw_okq (⟨"PaperAgerModel", "isSo", "(I)Z"⟩, 55) := ⟨⟨by decide +kernel, by decide +kernel⟩, List.mem_of_getElem? (i := 1031) (by decide +kernel), List.mem_of_getElem? (i := 1364) (by decide +kernel), List.mem_of_getElem? (i := 1365) (by decide +kernel)⟩
theorem lw_p54 : lw_okq (⟨"PaperAgerModel", "runs", "(II)I"⟩, 55) := ⟨⟨by decide +kernel, by decide +kernel⟩, List.mem_of_getElem? (i := 1031) (by decide +kernel), List.mem_of_getElem? (i := 1368) (by decide +kernel), List.mem_of_getElem? (i := 1369) (by decide +kernel)⟩
theorem lw_p55 : lw_okq (⟨"PaperAgerModel", "twoOf", "(III)I"⟩, 55) := ⟨⟨by decide +kernel, by decide +kernel⟩, List.mem_of_getElem? (i := 1031) (by decide +kernel), List.mem_of_getElem? (i := 1372) (by decide +kernel), List.mem_of_getElem? (i := 1373) (by decide +kernel)⟩
theorem lw_p56 : lw_okq (⟨"PaperAgerModel", "keepsAhead", "(I)V"⟩, 55) := ⟨⟨by decide +kernel, by decide +kernel⟩, List.mem_of_getElem? (i := 1031) (by decide +kernel), List.mem_of_getElem? (i := 1384) (by decide +kernel), List.mem_of_getElem? (i := 1385) (by decide +kernel)⟩
theorem lw_p57 : lw_okq (⟨"PaperAgerModel", "isRead", "(III)V"⟩, 55) := ⟨⟨by decide +kernel, by decide +kernel⟩, List.mem_of_getElem? (i := 1031) (by decide +kernel), List.mem_of_getElem? (i := 1388) (by decide +kernel), List.mem_of_getElem? (i := 1389) (by decide +kernel)⟩
theorem lw_p58 : lw_okq (⟨"PaperAgerModel", "ends", "()V"⟩, 55) := ⟨⟨by decide +kernel, by decide +kernel⟩, List.mem_of_getElem? (i := 1031) (by decide +kernel), List.mem_of_getElem? (i := 1396) (by decide +kernel), List.mem_of_getElem? (i := 1397) (by decide +kernel)⟩
theorem lw_p59 : lw_okq (⟨"PaperAgerModel", "draw", "(I)I"⟩, 55) := ⟨⟨by decide +kernel, by decide +kernel⟩, List.mem_of_getElem? (i := 1031) (by decide +kernel), List.mem_of_getElem? (i := 1400) (by decide +kernel), List.mem_of_getElem? (i := 1401) (by decide +kernel)⟩
theorem lw_p60 : lw_okq (⟨"PaperAgerModel", "nextOne", "()I"⟩, 55) := ⟨⟨by decide +kernel, by decide +kernel⟩, List.mem_of_getElem? (i := 1031) (by decide +kernel), List.mem_of_getElem? (i := 1406) (by decide +kernel), List.mem_of_getElem? (i := 1407) (by decide +kernel)⟩
theorem lw_p61 : lw_okq (⟨"PaperAgerModel", "leasesOf", "(I)I"⟩, 55) := ⟨⟨by decide +kernel, by decide +kernel⟩, List.mem_of_getElem? (i := 1031) (by decide +kernel), List.mem_of_getElem? (i := 1410) (by decide +kernel), List.mem_of_getElem? (i := 1411) (by decide +kernel)⟩
theorem lw_p62 : lw_okq (⟨"PaperAgerModel", "staysFor", "(I)I"⟩, 55) := ⟨⟨by decide +kernel, by decide +kernel⟩, List.mem_of_getElem? (i := 1031) (by decide +kernel), List.mem_of_getElem? (i := 1418) (by decide +kernel), List.mem_of_getElem? (i := 1419) (by decide +kernel)⟩
theorem lw_p63 : lw_okq (⟨"PaperAgerModel", "claimed", "()I"⟩, 55) := ⟨⟨by decide +kernel, by decide +kernel⟩, List.mem_of_getElem? (i := 1031) (by decide +kernel), List.mem_of_getElem? (i := 1439) (by decide +kernel), List.mem_of_getElem? (i := 1440) (by decide +kernel)⟩
def lw_privs_4 : List (MethodName × Nat) := [(⟨"PaperAgerModel", "waits", "(I)V"⟩, 55), (⟨"PaperAgerModel", "readCompared", "()I"⟩, 55), (⟨"PaperAgerModel", "settles", "(I)V"⟩, 55), (⟨"PaperAgerModel", "ageOf", "(III)I"⟩, 55), (⟨"PaperAgerModel", "yearsOf", "(II)I"⟩, 55), (⟨"PaperAgerModel", "isSo", "(I)Z"⟩, 55), (⟨"PaperAgerModel", "runs", "(II)I"⟩, 55), (⟨"PaperAgerModel", "twoOf", "(III)I"⟩, 55), (⟨"PaperAgerModel", "keepsAhead", "(I)V"⟩, 55), (⟨"PaperAgerModel", "isRead", "(III)V"⟩, 55), (⟨"PaperAgerModel", "ends", "()V"⟩, 55), (⟨"PaperAgerModel", "draw", "(I)I"⟩, 55), (⟨"PaperAgerModel", "nextOne", "()I"⟩, 55), (⟨"PaperAgerModel", "leasesOf", "(I)I"⟩, 55), (⟨"PaperAgerModel", "staysFor", "(I)I"⟩, 55), (⟨"PaperAgerModel", "claimed", "()I"⟩, 55)]
theorem lw_r4 : ∀ q ∈ lw_privs_4, lw_okq q := List.forall_mem_cons.mpr ⟨lw_p48, List.forall_mem_cons.mpr ⟨lw_p49, List.forall_mem_cons.mpr ⟨lw_p50, List.forall_mem_cons.mpr ⟨lw_p51, List.forall_mem_cons.mpr ⟨lw_p52, List.forall_mem_cons.mpr ⟨lw_p53, List.forall_mem_cons.mpr ⟨lw_p54, List.forall_mem_cons.mpr ⟨lw_p55, List.forall_mem_cons.mpr ⟨lw_p56, List.forall_mem_cons.mpr ⟨lw_p57, List.forall_mem_cons.mpr ⟨lw_p58, List.forall_mem_cons.mpr ⟨lw_p59, List.forall_mem_cons.mpr ⟨lw_p60, List.forall_mem_cons.mpr ⟨lw_p61, List.forall_mem_cons.mpr ⟨lw_p62, List.forall_mem_cons.mpr ⟨lw_p63, fun _ h => absurd h List.not_mem_nil⟩⟩⟩⟩⟩⟩⟩⟩⟩⟩⟩⟩⟩⟩⟩⟩
theorem lw_p64 : lw_okq (⟨"PaperAgerModel", "findsStanding", "(I)I"⟩, 55) := ⟨⟨by decide +kernel, by decide +kernel⟩, List.mem_of_getElem? (i := 1031) (by decide +kernel), List.mem_of_getElem? (i := 1443) (by decide +kernel), List.mem_of_getElem? (i := 1444) (by decide +kernel)⟩
theorem lw_p65 : lw_okq (⟨"PaperAgerModel", "thinksOf", "(I)V"⟩, 55) := ⟨⟨by decide +kernel, by decide +kernel⟩, List.mem_of_getElem? (i := 1031) (by decide +kernel), List.mem_of_getElem? (i := 1447) (by decide +kernel), List.mem_of_getElem? (i := 1448) (by decide +kernel)⟩
theorem lw_p66 : lw_okq (⟨"PaperAgerModel", "doStand", "(I)Z"⟩, 55) := ⟨⟨by decide +kernel, by decide +kernel⟩, List.mem_of_getElem? (i := 1031) (by decide +kernel), List.mem_of_getElem? (i := 1451) (by decide +kernel), List.mem_of_getElem? (i := 1452) (by decide +kernel)⟩
theorem lw_p67 : lw_okq (⟨"PaperAgerModel", "livingNow", "()I"⟩, 55) := ⟨⟨by decide +kernel, by decide +kernel⟩, List.mem_of_getElem? (i := 1031) (by decide +kernel), List.mem_of_getElem? (i := 1455) (by decide +kernel), List.mem_of_getElem? (i := 1456) (by decide +kernel)⟩
theorem lw_p68 : lw_okq (⟨"PaperAgerModel", "ones", "(I)I"⟩, 55) := ⟨⟨by decide +kernel, by decide +kernel⟩, List.mem_of_getElem? (i := 1031) (by decide +kernel), List.mem_of_getElem? (i := 1459) (by decide +kernel), List.mem_of_getElem? (i := 1460) (by decide +kernel)⟩
theorem lw_p69 : lw_okq (⟨"PaperAgerModel", "areEnough", "(I)Z"⟩, 55) := ⟨⟨by decide +kernel, by decide +kernel⟩, List.mem_of_getElem? (i := 1031) (by decide +kernel), List.mem_of_getElem? (i := 1463) (by decide +kernel), List.mem_of_getElem? (i := 1464) (by decide +kernel)⟩
theorem lw_p70 : lw_okq (⟨"PaperAgerModel", "without", "(I)I"⟩, 55) := ⟨⟨by decide +kernel, by decide +kernel⟩, List.mem_of_getElem? (i := 1031) (by decide +kernel), List.mem_of_getElem? (i := 1475) (by decide +kernel), List.mem_of_getElem? (i := 1476) (by decide +kernel)⟩
theorem lw_p71 : lw_okq (⟨"PaperAgerModel", "papersOn", "(I)I"⟩, 55) := ⟨⟨by decide +kernel, by decide +kernel⟩, List.mem_of_getElem? (i := 1031) (by decide +kernel), List.mem_of_getElem? (i := 1487) (by decide +kernel), List.mem_of_getElem? (i := 1488) (by decide +kernel)⟩
theorem lw_p72 : lw_okq (⟨"PaperAgerModel", "agesOn", "(I)I"⟩, 55) := ⟨⟨by decide +kernel, by decide +kernel⟩, List.mem_of_getElem? (i := 1031) (by decide +kernel), List.mem_of_getElem? (i := 1491) (by decide +kernel), List.mem_of_getElem? (i := 1492) (by decide +kernel)⟩
theorem lw_p73 : lw_okq (⟨"PaperAgerModel", "kept", "(I)I"⟩, 55) := ⟨⟨by decide +kernel, by decide +kernel⟩, List.mem_of_getElem? (i := 1031) (by decide +kernel), List.mem_of_getElem? (i := 1503) (by decide +kernel), List.mem_of_getElem? (i := 1504) (by decide +kernel)⟩
theorem lw_p74 : lw_okq (⟨"PaperAgerModel", "keepsPapers", "()V"⟩, 55) := ⟨⟨by decide +kernel, by decide +kernel⟩, List.mem_of_getElem? (i := 1031) (by decide +kernel), List.mem_of_getElem? (i := 1507) (by decide +kernel), List.mem_of_getElem? (i := 1508) (by decide +kernel)⟩
theorem lw_p75 : lw_okq (⟨"PaperAgerModel", "keepsLaw", "()V"⟩, 55) := ⟨⟨by decide +kernel, by decide +kernel⟩, List.mem_of_getElem? (i := 1031) (by decide +kernel), List.mem_of_getElem? (i := 1511) (by decide +kernel), List.mem_of_getElem? (i := 1512) (by decide +kernel)⟩
def lw_privs_5 : List (MethodName × Nat) := [(⟨"PaperAgerModel", "findsStanding", "(I)I"⟩, 55), (⟨"PaperAgerModel", "thinksOf", "(I)V"⟩, 55), (⟨"PaperAgerModel", "doStand", "(I)Z"⟩, 55), (⟨"PaperAgerModel", "livingNow", "()I"⟩, 55), (⟨"PaperAgerModel", "ones", "(I)I"⟩, 55), (⟨"PaperAgerModel", "areEnough", "(I)Z"⟩, 55), (⟨"PaperAgerModel", "without", "(I)I"⟩, 55), (⟨"PaperAgerModel", "papersOn", "(I)I"⟩, 55), (⟨"PaperAgerModel", "agesOn", "(I)I"⟩, 55), (⟨"PaperAgerModel", "kept", "(I)I"⟩, 55), (⟨"PaperAgerModel", "keepsPapers", "()V"⟩, 55), (⟨"PaperAgerModel", "keepsLaw", "()V"⟩, 55)]
theorem lw_r5 : ∀ q ∈ lw_privs_5, lw_okq q := List.forall_mem_cons.mpr ⟨lw_p64, List.forall_mem_cons.mpr ⟨lw_p65, List.forall_mem_cons.mpr ⟨lw_p66, List.forall_mem_cons.mpr ⟨lw_p67, List.forall_mem_cons.mpr ⟨lw_p68, List.forall_mem_cons.mpr ⟨lw_p69, List.forall_mem_cons.mpr ⟨lw_p70, List.forall_mem_cons.mpr ⟨lw_p71, List.forall_mem_cons.mpr ⟨lw_p72, List.forall_mem_cons.mpr ⟨lw_p73, List.forall_mem_cons.mpr ⟨lw_p74, List.forall_mem_cons.mpr ⟨lw_p75, fun _ h => absurd h List.not_mem_nil⟩⟩⟩⟩⟩⟩⟩⟩⟩⟩⟩⟩
def lw_privs : List (MethodName × Nat) := lw_privs_1 ++ (lw_privs_2 ++ (lw_privs_3 ++ (lw_privs_4 ++ (lw_privs_5))))
def lw_tbl : List Cond := k2_sels lw_privs ++ tables_1
theorem lw_privs_ok : ∀ q ∈ lw_privs, lw_okq q := by
  show ∀ q ∈ lw_privs_1 ++ (lw_privs_2 ++ (lw_privs_3 ++ (lw_privs_4 ++ (lw_privs_5)))), lw_okq q
  exact List.forall_mem_append.mpr ⟨lw_r1, List.forall_mem_append.mpr ⟨lw_r2, List.forall_mem_append.mpr ⟨lw_r3, List.forall_mem_append.mpr ⟨lw_r4, lw_r5⟩⟩⟩⟩
-- ===== end of PART A; then your names; then what follows =====
end
section
def RX0 : String := "PaperAger$Archive"
def TX0 : u_T := fun k => match k with
  | 0 => ("PaperAger$Archive", "readers", "[LPaperAger$Reader;", true)
  | 1 => ("PaperAger$Archive", "papers", "[LPaperAger$Paper;", true)
  | 2 => ("PaperAger$Archive", "book", "LPaperAger$Book;", true)
  | 3 => ("PaperAger$Archive", "claims", "LPaperAger$Claims;", true)
  | 4 => ("PaperAger$Archive", "law", "LPaperAger$Law;", true)
  | 5 => ("PaperAger$Archive", "facts", "[I", true)
  | 6 => ("PaperAger$Archive", "readerCount", "I", false)
  | 7 => ("PaperAger$Archive", "paperCount", "I", false)
  | 8 => ("PaperAger$Archive", "day", "I", false)
  | 9 => ("PaperAger$Archive", "state", "I", false)
  | _ => ("PaperAger$Archive", "died", "I", false)
def tyX0 : Nat → FieldType := fun k => match k with
  | 0 => .array (.object "PaperAger$Reader")
  | 1 => .array (.object "PaperAger$Paper")
  | 2 => .object "PaperAger$Book"
  | 3 => .object "PaperAger$Claims"
  | 4 => .object "PaperAger$Law"
  | 5 => .array .int
  | 6 => .int
  | 7 => .int
  | 8 => .int
  | 9 => .int
  | _ => .int
theorem nmX0 : ∀ a, a < 11 → ∀ b, b < 11 → a ≠ b → (TX0 a).2.1 ≠ (TX0 b).2.1 := by decide +kernel
theorem tyX0_ok : ∀ k, k < 11 → parseFieldDescriptor (TX0 k).2.2.1 = some (tyX0 k) := by decide +kernel
abbrev cX0_init : ByteArray := prog_2_method_1_code
def yX0_init : MethodName := ⟨RX0, "<init>", "()V"⟩
abbrev cX0_readerAt : ByteArray := prog_2_method_2_code
def yX0_readerAt : MethodName := ⟨RX0, "readerAt", "(I)LPaperAger$Reader;"⟩
abbrev cX0_paperAt : ByteArray := prog_2_method_3_code
def yX0_paperAt : MethodName := ⟨RX0, "paperAt", "(I)LPaperAger$Paper;"⟩
abbrev cX0_ageOf : ByteArray := prog_2_method_4_code
def yX0_ageOf : MethodName := ⟨RX0, "ageOf", "(LPaperAger$Paper;I)I"⟩
abbrev cX0_stayOf : ByteArray := prog_2_method_5_code
def yX0_stayOf : MethodName := ⟨RX0, "stayOf", "(LPaperAger$Paper;)I"⟩
abbrev cX0_changeShelves : ByteArray := prog_2_method_6_code
def yX0_changeShelves : MethodName := ⟨RX0, "changeShelves", "(II)V"⟩
abbrev cX0_burn : ByteArray := prog_2_method_7_code
def yX0_burn : MethodName := ⟨RX0, "burn", "(I)I"⟩
abbrev cX0_papersOn : ByteArray := prog_2_method_8_code
def yX0_papersOn : MethodName := ⟨RX0, "papersOn", "(I)I"⟩
abbrev cX0_agesOn : ByteArray := prog_2_method_9_code
def yX0_agesOn : MethodName := ⟨RX0, "agesOn", "(I)I"⟩
abbrev cX0_endDay : ByteArray := prog_2_method_10_code
def yX0_endDay : MethodName := ⟨RX0, "endDay", "()I"⟩
abbrev cX0_drawDeaths : ByteArray := prog_2_method_11_code
def yX0_drawDeaths : MethodName := ⟨RX0, "drawDeaths", "()I"⟩
abbrev cX0_drawTenThousandth : ByteArray := prog_2_method_12_code
def yX0_drawTenThousandth : MethodName := ⟨RX0, "drawTenThousandth", "()I"⟩
abbrev cX0_passLeases : ByteArray := prog_2_method_13_code
def yX0_passLeases : MethodName := ⟨RX0, "passLeases", "()V"⟩
abbrev cX0_nextForLease : ByteArray := prog_2_method_14_code
def yX0_nextForLease : MethodName := ⟨RX0, "nextForLease", "()I"⟩
abbrev cX0_leasesOf : ByteArray := prog_2_method_15_code
def yX0_leasesOf : MethodName := ⟨RX0, "leasesOf", "(I)I"⟩
abbrev cX0_countLeaps : ByteArray := prog_2_method_16_code
def yX0_countLeaps : MethodName := ⟨RX0, "countLeaps", "(II)I"⟩
abbrev cX0_firstLeap : ByteArray := prog_2_method_17_code
def yX0_firstLeap : MethodName := ⟨RX0, "firstLeap", "(II)I"⟩
abbrev cX0_isLeap : ByteArray := prog_2_method_18_code
def yX0_isLeap : MethodName := ⟨RX0, "isLeap", "(III)Z"⟩
abbrev cX0_copyFrom : ByteArray := prog_2_method_19_code
def yX0_copyFrom : MethodName := ⟨RX0, "copyFrom", "(LPaperAger$Archive;)V"⟩
def RX1 : String := "PaperAger$Book"
def TX1 : u_T := fun k => match k with
  | 0 => ("PaperAger$Book", "entries", "[I", true)
  | _ => ("PaperAger$Book", "lines", "I", false)
def tyX1 : Nat → FieldType := fun k => match k with
  | 0 => .array .int
  | _ => .int
theorem nmX1 : ∀ a, a < 2 → ∀ b, b < 2 → a ≠ b → (TX1 a).2.1 ≠ (TX1 b).2.1 := by decide +kernel
theorem tyX1_ok : ∀ k, k < 2 → parseFieldDescriptor (TX1 k).2.2.1 = some (tyX1 k) := by decide +kernel
abbrev cX1_init : ByteArray := prog_3_method_1_code
def yX1_init : MethodName := ⟨RX1, "<init>", "()V"⟩
abbrev cX1_hasRoom : ByteArray := prog_3_method_2_code
def yX1_hasRoom : MethodName := ⟨RX1, "hasRoom", "()Z"⟩
abbrev cX1_write : ByteArray := prog_3_method_3_code
def yX1_write : MethodName := ⟨RX1, "write", "(IIIII)V"⟩
abbrev cX1_dropLast : ByteArray := prog_3_method_4_code
def yX1_dropLast : MethodName := ⟨RX1, "dropLast", "()V"⟩
abbrev cX1_entry : ByteArray := prog_3_method_5_code
def yX1_entry : MethodName := ⟨RX1, "entry", "(II)I"⟩
abbrev cX1_leapOf : ByteArray := prog_3_method_6_code
def yX1_leapOf : MethodName := ⟨RX1, "leapOf", "(I)I"⟩
abbrev cX1_copyFrom : ByteArray := prog_3_method_7_code
def yX1_copyFrom : MethodName := ⟨RX1, "copyFrom", "(LPaperAger$Book;)V"⟩
def RX2 : String := "PaperAger$Claims"
def TX2 : u_T := fun k => match k with
  | 0 => ("PaperAger$Claims", "papers", "[I", true)
  | 1 => ("PaperAger$Claims", "days", "[I", true)
  | 2 => ("PaperAger$Claims", "least", "[I", true)
  | 3 => ("PaperAger$Claims", "most", "[I", true)
  | _ => ("PaperAger$Claims", "count", "I", false)
def tyX2 : Nat → FieldType := fun k => match k with
  | 0 => .array .int
  | 1 => .array .int
  | 2 => .array .int
  | 3 => .array .int
  | _ => .int
theorem nmX2 : ∀ a, a < 5 → ∀ b, b < 5 → a ≠ b → (TX2 a).2.1 ≠ (TX2 b).2.1 := by decide +kernel
theorem tyX2_ok : ∀ k, k < 5 → parseFieldDescriptor (TX2 k).2.2.1 = some (tyX2 k) := by decide +kernel
abbrev cX2_init : ByteArray := prog_4_method_1_code
def yX2_init : MethodName := ⟨RX2, "<init>", "()V"⟩
abbrev cX2_hasRoom : ByteArray := prog_4_method_2_code
def yX2_hasRoom : MethodName := ⟨RX2, "hasRoom", "()Z"⟩
abbrev cX2_add : ByteArray := prog_4_method_3_code
def yX2_add : MethodName := ⟨RX2, "add", "(IIII)I"⟩
abbrev cX2_anyWentBy : ByteArray := prog_4_method_4_code
def yX2_anyWentBy : MethodName := ⟨RX2, "anyWentBy", "(I)Z"⟩
abbrev cX2_copyFrom : ByteArray := prog_4_method_5_code
def yX2_copyFrom : MethodName := ⟨RX2, "copyFrom", "(LPaperAger$Claims;)V"⟩
def RX3 : String := "PaperAger$Law"
def TX3 : u_T := fun k => match k with
  | 0 => ("PaperAger$Law", "code", "[I", true)
  | 1 => ("PaperAger$Law", "ageStarts", "[I", true)
  | 2 => ("PaperAger$Law", "ageEnds", "[I", true)
  | 3 => ("PaperAger$Law", "lineEnds", "[I", true)
  | 4 => ("PaperAger$Law", "waiting", "[I", true)
  | 5 => ("PaperAger$Law", "length", "I", false)
  | _ => ("PaperAger$Law", "lines", "I", false)
def tyX3 : Nat → FieldType := fun k => match k with
  | 0 => .array .int
  | 1 => .array .int
  | 2 => .array .int
  | 3 => .array .int
  | 4 => .array .int
  | 5 => .int
  | _ => .int
theorem nmX3 : ∀ a, a < 7 → ∀ b, b < 7 → a ≠ b → (TX3 a).2.1 ≠ (TX3 b).2.1 := by decide +kernel
theorem tyX3_ok : ∀ k, k < 7 → parseFieldDescriptor (TX3 k).2.2.1 = some (tyX3 k) := by decide +kernel
abbrev cX3_init : ByteArray := prog_5_method_1_code
def yX3_init : MethodName := ⟨RX3, "<init>", "()V"⟩
abbrev cX3_clear : ByteArray := prog_5_method_2_code
def yX3_clear : MethodName := ⟨RX3, "clear", "()V"⟩
abbrev cX3_isFull : ByteArray := prog_5_method_3_code
def yX3_isFull : MethodName := ⟨RX3, "isFull", "()Z"⟩
abbrev cX3_startLine : ByteArray := prog_5_method_4_code
def yX3_startLine : MethodName := ⟨RX3, "startLine", "()V"⟩
abbrev cX3_endAge : ByteArray := prog_5_method_5_code
def yX3_endAge : MethodName := ⟨RX3, "endAge", "()V"⟩
abbrev cX3_endLine : ByteArray := prog_5_method_6_code
def yX3_endLine : MethodName := ⟨RX3, "endLine", "()V"⟩
abbrev cX3_addFact : ByteArray := prog_5_method_7_code
def yX3_addFact : MethodName := ⟨RX3, "addFact", "(I)V"⟩
abbrev cX3_add : ByteArray := prog_5_method_8_code
def yX3_add : MethodName := ⟨RX3, "add", "(I)V"⟩
abbrev cX3_ageBy : ByteArray := prog_5_method_9_code
def yX3_ageBy : MethodName := ⟨RX3, "ageBy", "([I)I"⟩
abbrev cX3_held : ByteArray := prog_5_method_10_code
def yX3_held : MethodName := ⟨RX3, "held", "(I)I"⟩
abbrev cX3_work : ByteArray := prog_5_method_11_code
def yX3_work : MethodName := ⟨RX3, "work", "(II[I)I"⟩
abbrev cX3_operand : ByteArray := prog_5_method_12_code
def yX3_operand : MethodName := ⟨RX3, "operand", "(I[I)I"⟩
abbrev cX3_joined : ByteArray := prog_5_method_13_code
def yX3_joined : MethodName := ⟨RX3, "joined", "(III)I"⟩
abbrev cX3_copyFrom : ByteArray := prog_5_method_14_code
def yX3_copyFrom : MethodName := ⟨RX3, "copyFrom", "(LPaperAger$Law;)V"⟩
def RX4 : String := "PaperAger$LawReader"
def TX4 : u_T := fun k => match k with
  | 0 => ("PaperAger$LawReader", "draft", "LPaperAger$Law;", true)
  | 1 => ("PaperAger$LawReader", "token", "LPaperAger$Token;", true)
  | 2 => ("PaperAger$LawReader", "signs", "[I", true)
  | 3 => ("PaperAger$LawReader", "signCount", "I", false)
  | 4 => ("PaperAger$LawReader", "wanted", "I", false)
  | 5 => ("PaperAger$LawReader", "side", "I", false)
  | 6 => ("PaperAger$LawReader", "over", "Z", false)
  | 7 => ("PaperAger$LawReader", "fault", "I", false)
  | _ => ("PaperAger$LawReader", "faultPlace", "I", false)
def tyX4 : Nat → FieldType := fun k => match k with
  | 0 => .object "PaperAger$Law"
  | 1 => .object "PaperAger$Token"
  | 2 => .array .int
  | 3 => .int
  | 4 => .int
  | 5 => .int
  | 6 => .boolean
  | 7 => .int
  | _ => .int
theorem nmX4 : ∀ a, a < 9 → ∀ b, b < 9 → a ≠ b → (TX4 a).2.1 ≠ (TX4 b).2.1 := by decide +kernel
theorem tyX4_ok : ∀ k, k < 9 → parseFieldDescriptor (TX4 k).2.2.1 = some (tyX4 k) := by decide +kernel
abbrev cX4_init : ByteArray := prog_6_method_1_code
def yX4_init : MethodName := ⟨RX4, "<init>", "()V"⟩
abbrev cX4_readAll : ByteArray := prog_6_method_2_code
def yX4_readAll : MethodName := ⟨RX4, "readAll", "(LPaperAger$Tape;)Z"⟩
abbrev cX4_begin : ByteArray := prog_6_method_3_code
def yX4_begin : MethodName := ⟨RX4, "begin", "()V"⟩
abbrev cX4_refuse : ByteArray := prog_6_method_4_code
def yX4_refuse : MethodName := ⟨RX4, "refuse", "(I)V"⟩
abbrev cX4_takeLine : ByteArray := prog_6_method_5_code
def yX4_takeLine : MethodName := ⟨RX4, "takeLine", "(I)V"⟩
abbrev cX4_takeUnit : ByteArray := prog_6_method_6_code
def yX4_takeUnit : MethodName := ⟨RX4, "takeUnit", "(I)V"⟩
abbrev cX4_takeDivisor : ByteArray := prog_6_method_7_code
def yX4_takeDivisor : MethodName := ⟨RX4, "takeDivisor", "(I)V"⟩
abbrev cX4_takeTest : ByteArray := prog_6_method_8_code
def yX4_takeTest : MethodName := ⟨RX4, "takeTest", "(I)V"⟩
abbrev cX4_takeOperator : ByteArray := prog_6_method_9_code
def yX4_takeOperator : MethodName := ⟨RX4, "takeOperator", "(I)V"⟩
abbrev cX4_takeEndOfAge : ByteArray := prog_6_method_10_code
def yX4_takeEndOfAge : MethodName := ⟨RX4, "takeEndOfAge", "()V"⟩
abbrev cX4_takeEndOfLine : ByteArray := prog_6_method_11_code
def yX4_takeEndOfLine : MethodName := ⟨RX4, "takeEndOfLine", "()V"⟩
abbrev cX4_takeJoint : ByteArray := prog_6_method_12_code
def yX4_takeJoint : MethodName := ⟨RX4, "takeJoint", "(I)V"⟩
abbrev cX4_countWaiting : ByteArray := prog_6_method_13_code
def yX4_countWaiting : MethodName := ⟨RX4, "countWaiting", "(I)I"⟩
abbrev cX4_putBinding : ByteArray := prog_6_method_14_code
def yX4_putBinding : MethodName := ⟨RX4, "putBinding", "(I)V"⟩
abbrev cX4_putSign : ByteArray := prog_6_method_15_code
def yX4_putSign : MethodName := ⟨RX4, "putSign", "(I)V"⟩
abbrev cX4_releaseFrom : ByteArray := prog_6_method_16_code
def yX4_releaseFrom : MethodName := ⟨RX4, "releaseFrom", "(I)V"⟩
def RX5 : String := "PaperAger$Paper"
def TX5 : u_T := fun k => match k with
  | 0 => ("PaperAger$Paper", "number", "I", false)
  | 1 => ("PaperAger$Paper", "shelf", "I", false)
  | 2 => ("PaperAger$Paper", "written", "I", false)
  | 3 => ("PaperAger$Paper", "reader", "I", false)
  | 4 => ("PaperAger$Paper", "then", "I", false)
  | 5 => ("PaperAger$Paper", "times", "I", false)
  | 6 => ("PaperAger$Paper", "latest", "I", false)
  | _ => ("PaperAger$Paper", "lease", "I", false)
def tyX5 : Nat → FieldType := fun k => match k with
  | 0 => .int
  | 1 => .int
  | 2 => .int
  | 3 => .int
  | 4 => .int
  | 5 => .int
  | 6 => .int
  | _ => .int
theorem nmX5 : ∀ a, a < 8 → ∀ b, b < 8 → a ≠ b → (TX5 a).2.1 ≠ (TX5 b).2.1 := by decide +kernel
theorem tyX5_ok : ∀ k, k < 8 → parseFieldDescriptor (TX5 k).2.2.1 = some (tyX5 k) := by decide +kernel
abbrev cX5_init : ByteArray := prog_7_method_1_code
def yX5_init : MethodName := ⟨RX5, "<init>", "()V"⟩
abbrev cX5_become : ByteArray := prog_7_method_2_code
def yX5_become : MethodName := ⟨RX5, "become", "(III)V"⟩
abbrev cX5_becomeUnread : ByteArray := prog_7_method_3_code
def yX5_becomeUnread : MethodName := ⟨RX5, "becomeUnread", "(I)V"⟩
abbrev cX5_takeReading : ByteArray := prog_7_method_4_code
def yX5_takeReading : MethodName := ⟨RX5, "takeReading", "(III)V"⟩
abbrev cX5_copyFrom : ByteArray := prog_7_method_5_code
def yX5_copyFrom : MethodName := ⟨RX5, "copyFrom", "(LPaperAger$Paper;)V"⟩
def RX6 : String := "PaperAger$Reader"
def TX6 : u_T := fun k => match k with
  | 0 => ("PaperAger$Reader", "born", "I", false)
  | 1 => ("PaperAger$Reader", "dies", "I", false)
  | 2 => ("PaperAger$Reader", "glasses", "I", false)
  | 3 => ("PaperAger$Reader", "kind", "I", false)
  | _ => ("PaperAger$Reader", "frail", "I", false)
def tyX6 : Nat → FieldType := fun k => match k with
  | 0 => .int
  | 1 => .int
  | 2 => .int
  | 3 => .int
  | _ => .int
theorem nmX6 : ∀ a, a < 5 → ∀ b, b < 5 → a ≠ b → (TX6 a).2.1 ≠ (TX6 b).2.1 := by decide +kernel
theorem tyX6_ok : ∀ k, k < 5 → parseFieldDescriptor (TX6 k).2.2.1 = some (tyX6 k) := by decide +kernel
abbrev cX6_init : ByteArray := prog_8_method_1_code
def yX6_init : MethodName := ⟨RX6, "<init>", "()V"⟩
abbrev cX6_become : ByteArray := prog_8_method_2_code
def yX6_become : MethodName := ⟨RX6, "become", "(IIII)V"⟩
abbrev cX6_tell : ByteArray := prog_8_method_3_code
def yX6_tell : MethodName := ⟨RX6, "tell", "(III)Z"⟩
abbrev cX6_livesOn : ByteArray := prog_8_method_4_code
def yX6_livesOn : MethodName := ⟨RX6, "livesOn", "(I)Z"⟩
abbrev cX6_yearsOn : ByteArray := prog_8_method_5_code
def yX6_yearsOn : MethodName := ⟨RX6, "yearsOn", "(I)I"⟩
abbrev cX6_copyFrom : ByteArray := prog_8_method_6_code
def yX6_copyFrom : MethodName := ⟨RX6, "copyFrom", "(LPaperAger$Reader;)V"⟩
def RX7 : String := "PaperAger$Tape"
def TX7 : u_T := fun k => match k with
  | 0 => ("PaperAger$Tape", "bytes", "[B", true)
  | _ => ("PaperAger$Tape", "count", "I", false)
def tyX7 : Nat → FieldType := fun k => match k with
  | 0 => .array .byte
  | _ => .int
theorem nmX7 : ∀ a, a < 2 → ∀ b, b < 2 → a ≠ b → (TX7 a).2.1 ≠ (TX7 b).2.1 := by decide +kernel
theorem tyX7_ok : ∀ k, k < 2 → parseFieldDescriptor (TX7 k).2.2.1 = some (tyX7 k) := by decide +kernel
abbrev cX7_init : ByteArray := prog_9_method_1_code
def yX7_init : MethodName := ⟨RX7, "<init>", "()V"⟩
abbrev cX7_hasRoom : ByteArray := prog_9_method_2_code
def yX7_hasRoom : MethodName := ⟨RX7, "hasRoom", "(I)Z"⟩
abbrev cX7_put : ByteArray := prog_9_method_3_code
def yX7_put : MethodName := ⟨RX7, "put", "(I)V"⟩
abbrev cX7_signAt : ByteArray := prog_9_method_4_code
def yX7_signAt : MethodName := ⟨RX7, "signAt", "(I)I"⟩
def RX8 : String := "PaperAger$Thought"
def TX8 : u_T := fun k => match k with
  | 0 => ("PaperAger$Thought", "ways", "[I", true)
  | 1 => ("PaperAger$Thought", "imagined", "LPaperAger$Paper;", true)
  | 2 => ("PaperAger$Thought", "thumbCount", "I", false)
  | 3 => ("PaperAger$Thought", "firstReader", "I", false)
  | _ => ("PaperAger$Thought", "firstDay", "I", false)
def tyX8 : Nat → FieldType := fun k => match k with
  | 0 => .array .int
  | 1 => .object "PaperAger$Paper"
  | 2 => .int
  | 3 => .int
  | _ => .int
theorem nmX8 : ∀ a, a < 5 → ∀ b, b < 5 → a ≠ b → (TX8 a).2.1 ≠ (TX8 b).2.1 := by decide +kernel
theorem tyX8_ok : ∀ k, k < 5 → parseFieldDescriptor (TX8 k).2.2.1 = some (tyX8 k) := by decide +kernel
abbrev cX8_init : ByteArray := prog_10_method_1_code
def yX8_init : MethodName := ⟨RX8, "<init>", "()V"⟩
abbrev cX8_weigh : ByteArray := prog_10_method_2_code
def yX8_weigh : MethodName := ⟨RX8, "weigh", "(LPaperAger$Archive;)V"⟩
abbrev cX8_imagine : ByteArray := prog_10_method_3_code
def yX8_imagine : MethodName := ⟨RX8, "imagine", "(LPaperAger$Archive;LPaperAger$Paper;II)LPaperAger$Paper;"⟩
abbrev cX8_claimsStand : ByteArray := prog_10_method_4_code
def yX8_claimsStand : MethodName := ⟨RX8, "claimsStand", "(LPaperAger$Archive;LPaperAger$Paper;)Z"⟩
abbrev cX8_leastSet : ByteArray := prog_10_method_5_code
def yX8_leastSet : MethodName := ⟨RX8, "leastSet", "(LPaperAger$Archive;)I"⟩
abbrev cX8_suffices : ByteArray := prog_10_method_6_code
def yX8_suffices : MethodName := ⟨RX8, "suffices", "(LPaperAger$Archive;I)Z"⟩
abbrev cX8_readerOf : ByteArray := prog_10_method_7_code
def yX8_readerOf : MethodName := ⟨RX8, "readerOf", "(LPaperAger$Archive;II)I"⟩
abbrev cX8_seekThumbs : ByteArray := prog_10_method_8_code
def yX8_seekThumbs : MethodName := ⟨RX8, "seekThumbs", "(LPaperAger$Archive;LPaperAger$Paper;I)V"⟩
abbrev cX8_countThumb : ByteArray := prog_10_method_9_code
def yX8_countThumb : MethodName := ⟨RX8, "countThumb", "(II)V"⟩
def RX9 : String := "PaperAger$Token"
def TX9 : u_T := fun k => match k with
  | 0 => ("PaperAger$Token", "place", "I", false)
  | 1 => ("PaperAger$Token", "after", "I", false)
  | 2 => ("PaperAger$Token", "kind", "I", false)
  | _ => ("PaperAger$Token", "value", "I", false)
def tyX9 : Nat → FieldType := fun k => match k with
  | 0 => .int
  | 1 => .int
  | 2 => .int
  | _ => .int
theorem nmX9 : ∀ a, a < 4 → ∀ b, b < 4 → a ≠ b → (TX9 a).2.1 ≠ (TX9 b).2.1 := by decide +kernel
theorem tyX9_ok : ∀ k, k < 4 → parseFieldDescriptor (TX9 k).2.2.1 = some (tyX9 k) := by decide +kernel
abbrev cX9_init : ByteArray := prog_11_method_1_code
def yX9_init : MethodName := ⟨RX9, "<init>", "()V"⟩
abbrev cX9_begin : ByteArray := prog_11_method_2_code
def yX9_begin : MethodName := ⟨RX9, "begin", "()V"⟩
abbrev cX9_advance : ByteArray := prog_11_method_3_code
def yX9_advance : MethodName := ⟨RX9, "advance", "(LPaperAger$Tape;)V"⟩
abbrev cX9_takeWord : ByteArray := prog_11_method_4_code
def yX9_takeWord : MethodName := ⟨RX9, "takeWord", "(LPaperAger$Tape;)V"⟩
abbrev cX9_takeNumber : ByteArray := prog_11_method_5_code
def yX9_takeNumber : MethodName := ⟨RX9, "takeNumber", "(LPaperAger$Tape;)V"⟩
abbrev cX9_takeSign : ByteArray := prog_11_method_6_code
def yX9_takeSign : MethodName := ⟨RX9, "takeSign", "(I)V"⟩
abbrev cX9_isBlank : ByteArray := prog_11_method_7_code
def yX9_isBlank : MethodName := ⟨RX9, "isBlank", "(I)Z"⟩
abbrev cX9_isLetter : ByteArray := prog_11_method_8_code
def yX9_isLetter : MethodName := ⟨RX9, "isLetter", "(I)Z"⟩
abbrev cX9_isDigit : ByteArray := prog_11_method_9_code
def yX9_isDigit : MethodName := ⟨RX9, "isDigit", "(I)Z"⟩
abbrev cX9_isFact : ByteArray := prog_11_method_10_code
def yX9_isFact : MethodName := ⟨RX9, "isFact", "(I)Z"⟩
abbrev cX9_isArithmetic : ByteArray := prog_11_method_11_code
def yX9_isArithmetic : MethodName := ⟨RX9, "isArithmetic", "(I)Z"⟩
abbrev cX9_isComparison : ByteArray := prog_11_method_12_code
def yX9_isComparison : MethodName := ⟨RX9, "isComparison", "(I)Z"⟩
abbrev cX9_bindingOf : ByteArray := prog_11_method_13_code
def yX9_bindingOf : MethodName := ⟨RX9, "bindingOf", "(I)I"⟩
def RX10 : String := "PaperAger$Trail"
def TX10 : u_T := fun k => match k with
  | 0 => ("PaperAger$Trail", "before", "[LPaperAger$Paper;", true)
  | 1 => ("PaperAger$Trail", "wrote", "[Z", true)
  | 2 => ("PaperAger$Trail", "latest", "I", false)
  | _ => ("PaperAger$Trail", "count", "I", false)
def tyX10 : Nat → FieldType := fun k => match k with
  | 0 => .array (.object "PaperAger$Paper")
  | 1 => .array .boolean
  | 2 => .int
  | _ => .int
theorem nmX10 : ∀ a, a < 4 → ∀ b, b < 4 → a ≠ b → (TX10 a).2.1 ≠ (TX10 b).2.1 := by decide +kernel
theorem tyX10_ok : ∀ k, k < 4 → parseFieldDescriptor (TX10 k).2.2.1 = some (tyX10 k) := by decide +kernel
abbrev cX10_init : ByteArray := prog_12_method_1_code
def yX10_init : MethodName := ⟨RX10, "<init>", "()V"⟩
abbrev cX10_keep : ByteArray := prog_12_method_2_code
def yX10_keep : MethodName := ⟨RX10, "keep", "(LPaperAger$Paper;Z)V"⟩
abbrev cX10_latestWrote : ByteArray := prog_12_method_3_code
def yX10_latestWrote : MethodName := ⟨RX10, "latestWrote", "()Z"⟩
abbrev cX10_takeLatest : ByteArray := prog_12_method_4_code
def yX10_takeLatest : MethodName := ⟨RX10, "takeLatest", "()LPaperAger$Paper;"⟩
abbrev cX10_forget : ByteArray := prog_12_method_5_code
def yX10_forget : MethodName := ⟨RX10, "forget", "()V"⟩
def RX11 : String := "PaperAger"
def TX11 : u_T := fun k => match k with
  | 0 => ("PaperAger", "archive", "LPaperAger$Archive;", true)
  | 1 => ("PaperAger", "kept", "LPaperAger$Archive;", true)
  | 2 => ("PaperAger", "isKept", "Z", false)
  | 3 => ("PaperAger", "tape", "LPaperAger$Tape;", true)
  | 4 => ("PaperAger", "lawReader", "LPaperAger$LawReader;", true)
  | 5 => ("PaperAger", "trail", "LPaperAger$Trail;", true)
  | _ => ("PaperAger", "thought", "LPaperAger$Thought;", true)
def tyX11 : Nat → FieldType := fun k => match k with
  | 0 => .object "PaperAger$Archive"
  | 1 => .object "PaperAger$Archive"
  | 2 => .boolean
  | 3 => .object "PaperAger$Tape"
  | 4 => .object "PaperAger$LawReader"
  | 5 => .object "PaperAger$Trail"
  | _ => .object "PaperAger$Thought"
theorem nmX11 : ∀ a, a < 7 → ∀ b, b < 7 → a ≠ b → (TX11 a).2.1 ≠ (TX11 b).2.1 := by decide +kernel
theorem tyX11_ok : ∀ k, k < 7 → parseFieldDescriptor (TX11 k).2.2.1 = some (tyX11 k) := by decide +kernel
abbrev cX11_init : ByteArray := prog_1_method_1_code
def yX11_init : MethodName := ⟨RX11, "<init>", "()V"⟩
abbrev cX11_state : ByteArray := prog_1_method_2_code
def yX11_state : MethodName := ⟨RX11, "state", "(I)I"⟩
abbrev cX11_reader : ByteArray := prog_1_method_3_code
def yX11_reader : MethodName := ⟨RX11, "reader", "(IIII)I"⟩
abbrev cX11_set : ByteArray := prog_1_method_4_code
def yX11_set : MethodName := ⟨RX11, "set", "(III)Z"⟩
abbrev cX11_paper : ByteArray := prog_1_method_5_code
def yX11_paper : MethodName := ⟨RX11, "paper", "(I)I"⟩
abbrev cX11_move : ByteArray := prog_1_method_6_code
def yX11_move : MethodName := ⟨RX11, "move", "(II)Z"⟩
abbrev cX11_swap : ByteArray := prog_1_method_7_code
def yX11_swap : MethodName := ⟨RX11, "swap", "(II)Z"⟩
abbrev cX11_fire : ByteArray := prog_1_method_8_code
def yX11_fire : MethodName := ⟨RX11, "fire", "(I)I"⟩
abbrev cX11_read : ByteArray := prog_1_method_9_code
def yX11_read : MethodName := ⟨RX11, "read", "(II)I"⟩
abbrev cX11_lease : ByteArray := prog_1_method_10_code
def yX11_lease : MethodName := ⟨RX11, "lease", "(II)Z"⟩
abbrev cX11_days : ByteArray := prog_1_method_11_code
def yX11_days : MethodName := ⟨RX11, "days", "(I)I"⟩
abbrev cX11_feed : ByteArray := prog_1_method_12_code
def yX11_feed : MethodName := ⟨RX11, "feed", "(IIIII)I"⟩
abbrev cX11_end : ByteArray := prog_1_method_13_code
def yX11_end : MethodName := ⟨RX11, "end", "(I)Z"⟩
abbrev cX11_text : ByteArray := prog_1_method_14_code
def yX11_text : MethodName := ⟨RX11, "text", "()I"⟩
abbrev cX11_fault : ByteArray := prog_1_method_15_code
def yX11_fault : MethodName := ⟨RX11, "fault", "(I)I"⟩
abbrev cX11_age : ByteArray := prog_1_method_16_code
def yX11_age : MethodName := ⟨RX11, "age", "(II)I"⟩
abbrev cX11_of : ByteArray := prog_1_method_17_code
def yX11_of : MethodName := ⟨RX11, "of", "(II)I"⟩
abbrev cX11_who : ByteArray := prog_1_method_18_code
def yX11_who : MethodName := ⟨RX11, "who", "(II)I"⟩
abbrev cX11_book : ByteArray := prog_1_method_19_code
def yX11_book : MethodName := ⟨RX11, "book", "(II)I"⟩
abbrev cX11_claim : ByteArray := prog_1_method_20_code
def yX11_claim : MethodName := ⟨RX11, "claim", "(IIII)I"⟩
abbrev cX11_fewest : ByteArray := prog_1_method_21_code
def yX11_fewest : MethodName := ⟨RX11, "fewest", "(I)I"⟩
abbrev cX11_thumbs : ByteArray := prog_1_method_22_code
def yX11_thumbs : MethodName := ⟨RX11, "thumbs", "(III)I"⟩
abbrev cX11_leaps : ByteArray := prog_1_method_23_code
def yX11_leaps : MethodName := ⟨RX11, "leaps", "(III)I"⟩
abbrev cX11_next : ByteArray := prog_1_method_24_code
def yX11_next : MethodName := ⟨RX11, "next", "()I"⟩
abbrev cX11_close : ByteArray := prog_1_method_25_code
def yX11_close : MethodName := ⟨RX11, "close", "()I"⟩
abbrev cX11_mean : ByteArray := prog_1_method_26_code
def yX11_mean : MethodName := ⟨RX11, "mean", "(I)I"⟩
abbrev cX11_undo : ByteArray := prog_1_method_27_code
def yX11_undo : MethodName := ⟨RX11, "undo", "()Z"⟩
abbrev cX11_image : ByteArray := prog_1_method_28_code
def yX11_image : MethodName := ⟨RX11, "image", "(Z)Z"⟩
abbrev cX11_look : ByteArray := prog_1_method_29_code
def yX11_look : MethodName := ⟨RX11, "look", "(I)I"⟩
abbrev cX11_within : ByteArray := prog_1_method_30_code
def yX11_within : MethodName := ⟨RX11, "within", "(III)Z"⟩
abbrev cX11_isShelf : ByteArray := prog_1_method_31_code
def yX11_isShelf : MethodName := ⟨RX11, "isShelf", "(I)Z"⟩
def RX12 : String := "PaperAgerModel"
def TX12 : u_T := fun k => match k with
  | 0 => ("PaperAgerModel", "told", "I", false)
  | 1 => ("PaperAgerModel", "state", "I", false)
  | 2 => ("PaperAgerModel", "day", "I", false)
  | 3 => ("PaperAgerModel", "readers", "I", false)
  | 4 => ("PaperAgerModel", "born", "[I", true)
  | 5 => ("PaperAgerModel", "dies", "[I", true)
  | 6 => ("PaperAgerModel", "glasses", "[I", true)
  | 7 => ("PaperAgerModel", "kindOf", "[I", true)
  | 8 => ("PaperAgerModel", "frail", "[I", true)
  | 9 => ("PaperAgerModel", "died", "I", false)
  | 10 => ("PaperAgerModel", "papers", "I", false)
  | 11 => ("PaperAgerModel", "shelfOf", "[I", true)
  | 12 => ("PaperAgerModel", "writtenOn", "[I", true)
  | 13 => ("PaperAgerModel", "readBy", "[I", true)
  | 14 => ("PaperAgerModel", "thenOf", "[I", true)
  | 15 => ("PaperAgerModel", "readMany", "[I", true)
  | 16 => ("PaperAgerModel", "readOn", "[I", true)
  | 17 => ("PaperAgerModel", "leaseOf", "[I", true)
  | 18 => ("PaperAgerModel", "lines", "I", false)
  | 19 => ("PaperAgerModel", "book", "[I", true)
  | 20 => ("PaperAgerModel", "tape", "[I", true)
  | 21 => ("PaperAgerModel", "taped", "I", false)
  | 22 => ("PaperAgerModel", "spot", "I", false)
  | 23 => ("PaperAgerModel", "from", "I", false)
  | 24 => ("PaperAgerModel", "token", "I", false)
  | 25 => ("PaperAgerModel", "value", "I", false)
  | 26 => ("PaperAgerModel", "words", "[I", true)
  | 27 => ("PaperAgerModel", "lineMany", "I", false)
  | 28 => ("PaperAgerModel", "lineWhen", "[I", true)
  | 29 => ("PaperAgerModel", "lineFrom", "[I", true)
  | 30 => ("PaperAgerModel", "lineTo", "[I", true)
  | 31 => ("PaperAgerModel", "op", "[I", true)
  | 32 => ("PaperAgerModel", "arg", "[I", true)
  | 33 => ("PaperAgerModel", "codes", "I", false)
  | 34 => ("PaperAgerModel", "open", "I", false)
  | 35 => ("PaperAgerModel", "pending", "[I", true)
  | 36 => ("PaperAgerModel", "pendings", "I", false)
  | 37 => ("PaperAgerModel", "readFault", "I", false)
  | 38 => ("PaperAgerModel", "readPlace", "I", false)
  | 39 => ("PaperAgerModel", "faultKind", "I", false)
  | 40 => ("PaperAgerModel", "faultPlace", "I", false)
  | 41 => ("PaperAgerModel", "asked", "[I", true)
  | 42 => ("PaperAgerModel", "stack", "[I", true)
  | 43 => ("PaperAgerModel", "rows", "[I", true)
  | 44 => ("PaperAgerModel", "undoable", "I", false)
  | 45 => ("PaperAgerModel", "claims", "I", false)
  | 46 => ("PaperAgerModel", "claimPaper", "[I", true)
  | 47 => ("PaperAgerModel", "claimDay", "[I", true)
  | 48 => ("PaperAgerModel", "claimFrom", "[I", true)
  | 49 => ("PaperAgerModel", "claimTo", "[I", true)
  | 50 => ("PaperAgerModel", "standsBy", "[I", true)
  | 51 => ("PaperAgerModel", "isTaking", "Z", false)
  | 52 => ("PaperAgerModel", "hasImage", "Z", false)
  | 53 => ("PaperAgerModel", "keptAt", "I", false)
  | _ => ("PaperAgerModel", "images", "[I", true)
def tyX12 : Nat → FieldType := fun k => match k with
  | 0 => .int
  | 1 => .int
  | 2 => .int
  | 3 => .int
  | 4 => .array .int
  | 5 => .array .int
  | 6 => .array .int
  | 7 => .array .int
  | 8 => .array .int
  | 9 => .int
  | 10 => .int
  | 11 => .array .int
  | 12 => .array .int
  | 13 => .array .int
  | 14 => .array .int
  | 15 => .array .int
  | 16 => .array .int
  | 17 => .array .int
  | 18 => .int
  | 19 => .array .int
  | 20 => .array .int
  | 21 => .int
  | 22 => .int
  | 23 => .int
  | 24 => .int
  | 25 => .int
  | 26 => .array .int
  | 27 => .int
  | 28 => .array .int
  | 29 => .array .int
  | 30 => .array .int
  | 31 => .array .int
  | 32 => .array .int
  | 33 => .int
  | 34 => .int
  | 35 => .array .int
  | 36 => .int
  | 37 => .int
  | 38 => .int
  | 39 => .int
  | 40 => .int
  | 41 => .array .int
  | 42 => .array .int
  | 43 => .array .int
  | 44 => .int
  | 45 => .int
  | 46 => .array .int
  | 47 => .array .int
  | 48 => .array .int
  | 49 => .array .int
  | 50 => .array .int
  | 51 => .boolean
  | 52 => .boolean
  | 53 => .int
  | _ => .array .int
theorem nmX12 : ∀ a, a < 55 → ∀ b, b < 55 → a ≠ b → (TX12 a).2.1 ≠ (TX12 b).2.1 := by decide +kernel
theorem tyX12_ok : ∀ k, k < 55 → parseFieldDescriptor (TX12 k).2.2.1 = some (tyX12 k) := by decide +kernel
abbrev cX12_init : ByteArray := prog_14_method_1_code
def yX12_init : MethodName := ⟨RX12, "<init>", "()V"⟩
abbrev cX12_isIn : ByteArray := prog_14_method_3_code
def yX12_isIn : MethodName := ⟨RX12, "isIn", "(III)Z"⟩
abbrev cX12_ones : ByteArray := prog_14_method_4_code
def yX12_ones : MethodName := ⟨RX12, "ones", "(I)I"⟩
abbrev cX12_without : ByteArray := prog_14_method_5_code
def yX12_without : MethodName := ⟨RX12, "without", "(I)I"⟩
abbrev cX12_state : ByteArray := prog_14_method_6_code
def yX12_state : MethodName := ⟨RX12, "state", "(I)I"⟩
abbrev cX12_draw : ByteArray := prog_14_method_7_code
def yX12_draw : MethodName := ⟨RX12, "draw", "(I)I"⟩
abbrev cX12_isReader : ByteArray := prog_14_method_8_code
def yX12_isReader : MethodName := ⟨RX12, "isReader", "(I)Z"⟩
abbrev cX12_doesLive : ByteArray := prog_14_method_9_code
def yX12_doesLive : MethodName := ⟨RX12, "doesLive", "(II)Z"⟩
abbrev cX12_yearsOf : ByteArray := prog_14_method_10_code
def yX12_yearsOf : MethodName := ⟨RX12, "yearsOf", "(II)I"⟩
abbrev cX12_reader : ByteArray := prog_14_method_11_code
def yX12_reader : MethodName := ⟨RX12, "reader", "(IIII)I"⟩
abbrev cX12_set : ByteArray := prog_14_method_12_code
def yX12_set : MethodName := ⟨RX12, "set", "(III)Z"⟩
abbrev cX12_isPaper : ByteArray := prog_14_method_13_code
def yX12_isPaper : MethodName := ⟨RX12, "isPaper", "(I)Z"⟩
abbrev cX12_isShelf : ByteArray := prog_14_method_14_code
def yX12_isShelf : MethodName := ⟨RX12, "isShelf", "(I)Z"⟩
abbrev cX12_paper : ByteArray := prog_14_method_15_code
def yX12_paper : MethodName := ⟨RX12, "paper", "(I)I"⟩
abbrev cX12_isUnread : ByteArray := prog_14_method_16_code
def yX12_isUnread : MethodName := ⟨RX12, "isUnread", "(I)V"⟩
abbrev cX12_move : ByteArray := prog_14_method_17_code
def yX12_move : MethodName := ⟨RX12, "move", "(II)Z"⟩
abbrev cX12_swap : ByteArray := prog_14_method_18_code
def yX12_swap : MethodName := ⟨RX12, "swap", "(II)Z"⟩
abbrev cX12_fire : ByteArray := prog_14_method_19_code
def yX12_fire : MethodName := ⟨RX12, "fire", "(I)I"⟩
abbrev cX12_lease : ByteArray := prog_14_method_20_code
def yX12_lease : MethodName := ⟨RX12, "lease", "(II)Z"⟩
abbrev cX12_types : ByteArray := prog_14_method_21_code
def yX12_types : MethodName := ⟨RX12, "types", "(I)V"⟩
abbrev cX12_feed : ByteArray := prog_14_method_22_code
def yX12_feed : MethodName := ⟨RX12, "feed", "(IIIII)I"⟩
abbrev cX12_end : ByteArray := prog_14_method_23_code
def yX12_end : MethodName := ⟨RX12, "end", "(I)Z"⟩
abbrev cX12_raw : ByteArray := prog_14_method_24_code
def yX12_raw : MethodName := ⟨RX12, "raw", "(I)I"⟩
abbrev cX12_isLetter : ByteArray := prog_14_method_25_code
def yX12_isLetter : MethodName := ⟨RX12, "isLetter", "(I)Z"⟩
abbrev cX12_isDigit : ByteArray := prog_14_method_26_code
def yX12_isDigit : MethodName := ⟨RX12, "isDigit", "(I)Z"⟩
abbrev cX12_isMarkSign : ByteArray := prog_14_method_27_code
def yX12_isMarkSign : MethodName := ⟨RX12, "isMarkSign", "(I)Z"⟩
abbrev cX12_wordAt : ByteArray := prog_14_method_28_code
def yX12_wordAt : MethodName := ⟨RX12, "wordAt", "(II)I"⟩
abbrev cX12_reads : ByteArray := prog_14_method_29_code
def yX12_reads : MethodName := ⟨RX12, "reads", "()V"⟩
abbrev cX12_errs : ByteArray := prog_14_method_30_code
def yX12_errs : MethodName := ⟨RX12, "errs", "(I)I"⟩
abbrev cX12_isWord : ByteArray := prog_14_method_31_code
def yX12_isWord : MethodName := ⟨RX12, "isWord", "(I)Z"⟩
abbrev cX12_isSign : ByteArray := prog_14_method_32_code
def yX12_isSign : MethodName := ⟨RX12, "isSign", "(I)Z"⟩
abbrev cX12_emits : ByteArray := prog_14_method_33_code
def yX12_emits : MethodName := ⟨RX12, "emits", "(II)V"⟩
abbrev cX12_readUnit : ByteArray := prog_14_method_34_code
def yX12_readUnit : MethodName := ⟨RX12, "readUnit", "()I"⟩
abbrev cX12_readProduct : ByteArray := prog_14_method_35_code
def yX12_readProduct : MethodName := ⟨RX12, "readProduct", "()I"⟩
abbrev cX12_readSum : ByteArray := prog_14_method_36_code
def yX12_readSum : MethodName := ⟨RX12, "readSum", "()I"⟩
abbrev cX12_readCompared : ByteArray := prog_14_method_37_code
def yX12_readCompared : MethodName := ⟨RX12, "readCompared", "()I"⟩
abbrev cX12_waits : ByteArray := prog_14_method_38_code
def yX12_waits : MethodName := ⟨RX12, "waits", "(I)V"⟩
abbrev cX12_settles : ByteArray := prog_14_method_39_code
def yX12_settles : MethodName := ⟨RX12, "settles", "(I)V"⟩
abbrev cX12_readAny : ByteArray := prog_14_method_40_code
def yX12_readAny : MethodName := ⟨RX12, "readAny", "()I"⟩
abbrev cX12_readText : ByteArray := prog_14_method_41_code
def yX12_readText : MethodName := ⟨RX12, "readText", "()I"⟩
abbrev cX12_text : ByteArray := prog_14_method_42_code
def yX12_text : MethodName := ⟨RX12, "text", "()I"⟩
abbrev cX12_fault : ByteArray := prog_14_method_43_code
def yX12_fault : MethodName := ⟨RX12, "fault", "(I)I"⟩
abbrev cX12_twoOf : ByteArray := prog_14_method_44_code
def yX12_twoOf : MethodName := ⟨RX12, "twoOf", "(III)I"⟩
abbrev cX12_runs : ByteArray := prog_14_method_45_code
def yX12_runs : MethodName := ⟨RX12, "runs", "(II)I"⟩
abbrev cX12_isSo : ByteArray := prog_14_method_46_code
def yX12_isSo : MethodName := ⟨RX12, "isSo", "(I)Z"⟩
abbrev cX12_ageOf : ByteArray := prog_14_method_47_code
def yX12_ageOf : MethodName := ⟨RX12, "ageOf", "(III)I"⟩
abbrev cX12_age : ByteArray := prog_14_method_48_code
def yX12_age : MethodName := ⟨RX12, "age", "(II)I"⟩
abbrev cX12_keepsAhead : ByteArray := prog_14_method_49_code
def yX12_keepsAhead : MethodName := ⟨RX12, "keepsAhead", "(I)V"⟩
abbrev cX12_undo : ByteArray := prog_14_method_50_code
def yX12_undo : MethodName := ⟨RX12, "undo", "()Z"⟩
abbrev cX12_isRead : ByteArray := prog_14_method_51_code
def yX12_isRead : MethodName := ⟨RX12, "isRead", "(III)V"⟩
abbrev cX12_read : ByteArray := prog_14_method_52_code
def yX12_read : MethodName := ⟨RX12, "read", "(II)I"⟩
abbrev cX12_leasesOf : ByteArray := prog_14_method_53_code
def yX12_leasesOf : MethodName := ⟨RX12, "leasesOf", "(I)I"⟩
abbrev cX12_nextOne : ByteArray := prog_14_method_54_code
def yX12_nextOne : MethodName := ⟨RX12, "nextOne", "()I"⟩
abbrev cX12_ends : ByteArray := prog_14_method_55_code
def yX12_ends : MethodName := ⟨RX12, "ends", "()V"⟩
abbrev cX12_days : ByteArray := prog_14_method_56_code
def yX12_days : MethodName := ⟨RX12, "days", "(I)I"⟩
abbrev cX12_staysFor : ByteArray := prog_14_method_57_code
def yX12_staysFor : MethodName := ⟨RX12, "staysFor", "(I)I"⟩
abbrev cX12_of : ByteArray := prog_14_method_58_code
def yX12_of : MethodName := ⟨RX12, "of", "(II)I"⟩
abbrev cX12_who : ByteArray := prog_14_method_59_code
def yX12_who : MethodName := ⟨RX12, "who", "(II)I"⟩
abbrev cX12_book : ByteArray := prog_14_method_60_code
def yX12_book : MethodName := ⟨RX12, "book", "(II)I"⟩
abbrev cX12_claim : ByteArray := prog_14_method_61_code
def yX12_claim : MethodName := ⟨RX12, "claim", "(IIII)I"⟩
abbrev cX12_thinksOf : ByteArray := prog_14_method_62_code
def yX12_thinksOf : MethodName := ⟨RX12, "thinksOf", "(I)V"⟩
abbrev cX12_doStand : ByteArray := prog_14_method_63_code
def yX12_doStand : MethodName := ⟨RX12, "doStand", "(I)Z"⟩
abbrev cX12_findsStanding : ByteArray := prog_14_method_64_code
def yX12_findsStanding : MethodName := ⟨RX12, "findsStanding", "(I)I"⟩
abbrev cX12_claimed : ByteArray := prog_14_method_65_code
def yX12_claimed : MethodName := ⟨RX12, "claimed", "()I"⟩
abbrev cX12_areEnough : ByteArray := prog_14_method_66_code
def yX12_areEnough : MethodName := ⟨RX12, "areEnough", "(I)Z"⟩
abbrev cX12_livingNow : ByteArray := prog_14_method_67_code
def yX12_livingNow : MethodName := ⟨RX12, "livingNow", "()I"⟩
abbrev cX12_fewest : ByteArray := prog_14_method_68_code
def yX12_fewest : MethodName := ⟨RX12, "fewest", "(I)I"⟩
abbrev cX12_thumbs : ByteArray := prog_14_method_69_code
def yX12_thumbs : MethodName := ⟨RX12, "thumbs", "(III)I"⟩
abbrev cX12_leaps : ByteArray := prog_14_method_70_code
def yX12_leaps : MethodName := ⟨RX12, "leaps", "(III)I"⟩
abbrev cX12_next : ByteArray := prog_14_method_71_code
def yX12_next : MethodName := ⟨RX12, "next", "()I"⟩
abbrev cX12_papersOn : ByteArray := prog_14_method_72_code
def yX12_papersOn : MethodName := ⟨RX12, "papersOn", "(I)I"⟩
abbrev cX12_agesOn : ByteArray := prog_14_method_73_code
def yX12_agesOn : MethodName := ⟨RX12, "agesOn", "(I)I"⟩
abbrev cX12_close : ByteArray := prog_14_method_74_code
def yX12_close : MethodName := ⟨RX12, "close", "()I"⟩
abbrev cX12_mean : ByteArray := prog_14_method_75_code
def yX12_mean : MethodName := ⟨RX12, "mean", "(I)I"⟩
abbrev cX12_kept : ByteArray := prog_14_method_76_code
def yX12_kept : MethodName := ⟨RX12, "kept", "(I)I"⟩
abbrev cX12_keepsLaw : ByteArray := prog_14_method_77_code
def yX12_keepsLaw : MethodName := ⟨RX12, "keepsLaw", "()V"⟩
abbrev cX12_keepsPapers : ByteArray := prog_14_method_78_code
def yX12_keepsPapers : MethodName := ⟨RX12, "keepsPapers", "()V"⟩
abbrev cX12_image : ByteArray := prog_14_method_79_code
def yX12_image : MethodName := ⟨RX12, "image", "(Z)Z"⟩
abbrev cX12_look : ByteArray := prog_14_method_80_code
def yX12_look : MethodName := ⟨RX12, "look", "(I)I"⟩
def RJ11 : String := "java/lang/Character"
def TJ11 : u_T := fun k => match k with
  | _ => ("", "", "", false)
def tyJ11 : Nat → FieldType := fun k => match k with
  | _ => .int
theorem nmJ11 : ∀ a, a < 0 → ∀ b, b < 0 → a ≠ b → (TJ11 a).2.1 ≠ (TJ11 b).2.1 := by decide +kernel
theorem tyJ11_ok : ∀ k, k < 0 → parseFieldDescriptor (TJ11 k).2.2.1 = some (tyJ11 k) := by decide +kernel
abbrev cJ11_isValidCodePoint_9a6ad : ByteArray := prog_15_method_11_code
def yJ11_isValidCodePoint_9a6ad : MethodName := ⟨RJ11, "isValidCodePoint", "(I)Z"⟩
abbrev cJ11_highSurrogate_5068e : ByteArray := prog_15_method_28_code
def yJ11_highSurrogate_5068e : MethodName := ⟨RJ11, "highSurrogate", "(I)C"⟩
abbrev cJ11_lowSurrogate_5068e : ByteArray := prog_15_method_29_code
def yJ11_lowSurrogate_5068e : MethodName := ⟨RJ11, "lowSurrogate", "(I)C"⟩
def RJ6 : String := "java/lang/Integer"
def TJ6 : u_T := fun k => match k with
  | _ => ("", "", "", false)
def tyJ6 : Nat → FieldType := fun k => match k with
  | _ => .int
theorem nmJ6 : ∀ a, a < 0 → ∀ b, b < 0 → a ≠ b → (TJ6 a).2.1 ≠ (TJ6 b).2.1 := by decide +kernel
theorem tyJ6_ok : ∀ k, k < 0 → parseFieldDescriptor (TJ6 k).2.2.1 = some (tyJ6 k) := by decide +kernel
abbrev cJ6_numberOfTrailingZeros_0f7a4 : ByteArray := prog_16_method_48_code
def yJ6_numberOfTrailingZeros_0f7a4 : MethodName := ⟨RJ6, "numberOfTrailingZeros", "(I)I"⟩
abbrev cJ6_bitCount_0f7a4 : ByteArray := prog_16_method_49_code
def yJ6_bitCount_0f7a4 : MethodName := ⟨RJ6, "bitCount", "(I)I"⟩
def RJ9 : String := "java/lang/Math"
def TJ9 : u_T := fun k => match k with
  | _ => ("", "", "", false)
def tyJ9 : Nat → FieldType := fun k => match k with
  | _ => .int
theorem nmJ9 : ∀ a, a < 0 → ∀ b, b < 0 → a ≠ b → (TJ9 a).2.1 ≠ (TJ9 b).2.1 := by decide +kernel
theorem tyJ9_ok : ∀ k, k < 0 → parseFieldDescriptor (TJ9 k).2.2.1 = some (tyJ9 k) := by decide +kernel
abbrev cJ9_abs_0f7a4 : ByteArray := prog_17_method_59_code
def yJ9_abs_0f7a4 : MethodName := ⟨RJ9, "abs", "(I)I"⟩
abbrev cJ9_max_7cf53 : ByteArray := prog_17_method_65_code
def yJ9_max_7cf53 : MethodName := ⟨RJ9, "max", "(II)I"⟩
abbrev cJ9_min_7cf53 : ByteArray := prog_17_method_69_code
def yJ9_min_7cf53 : MethodName := ⟨RJ9, "min", "(II)I"⟩
def RJ0 : String := "java/lang/String"
def TJ0 : u_T := fun k => match k with
  | _ => ("", "", "", false)
def tyJ0 : Nat → FieldType := fun k => match k with
  | _ => .int
theorem nmJ0 : ∀ a, a < 0 → ∀ b, b < 0 → a ≠ b → (TJ0 a).2.1 ≠ (TJ0 b).2.1 := by decide +kernel
theorem tyJ0_ok : ∀ k, k < 0 → parseFieldDescriptor (TJ0 k).2.2.1 = some (tyJ0 k) := by decide +kernel
abbrev cJ0_length_8abf5 : ByteArray := prog_18_method_54_code
def yJ0_length_8abf5 : MethodName := ⟨RJ0, "length", "()I"⟩
abbrev cJ0_charAt_5068e : ByteArray := prog_18_method_56_code
def yJ0_charAt_5068e : MethodName := ⟨RJ0, "charAt", "(I)C"⟩
abbrev cJ0_indexOf_0f7a4 : ByteArray := prog_18_method_79_code
def yJ0_indexOf_0f7a4 : MethodName := ⟨RJ0, "indexOf", "(I)I"⟩
abbrev cJ0_indexOf_7cf53 : ByteArray := prog_18_method_80_code
def yJ0_indexOf_7cf53 : MethodName := ⟨RJ0, "indexOf", "(II)I"⟩
abbrev cJ0_coder_7d493 : ByteArray := prog_18_method_152_code
def yJ0_coder_7d493 : MethodName := ⟨RJ0, "coder", "()B"⟩
abbrev cJ0_isLatin1_aae02 : ByteArray := prog_18_method_154_code
def yJ0_isLatin1_aae02 : MethodName := ⟨RJ0, "isLatin1", "()Z"⟩
abbrev cJ0_checkIndex_df160 : ByteArray := prog_18_method_155_code
def yJ0_checkIndex_df160 : MethodName := ⟨RJ0, "checkIndex", "(II)V"⟩
abbrev cJ0_checkBoundsBeginEnd_23922 : ByteArray := prog_18_method_158_code
def yJ0_checkBoundsBeginEnd_23922 : MethodName := ⟨RJ0, "checkBoundsBeginEnd", "(III)V"⟩
def RJ1 : String := "java/lang/StringLatin1"
def TJ1 : u_T := fun k => match k with
  | _ => ("", "", "", false)
def tyJ1 : Nat → FieldType := fun k => match k with
  | _ => .int
theorem nmJ1 : ∀ a, a < 0 → ∀ b, b < 0 → a ≠ b → (TJ1 a).2.1 ≠ (TJ1 b).2.1 := by decide +kernel
theorem tyJ1_ok : ∀ k, k < 0 → parseFieldDescriptor (TJ1 k).2.2.1 = some (tyJ1 k) := by decide +kernel
abbrev cJ1_charAt_3b067 : ByteArray := prog_19_method_2_code
def yJ1_charAt_3b067 : MethodName := ⟨RJ1, "charAt", "([BI)C"⟩
abbrev cJ1_canEncode_9a6ad : ByteArray := prog_19_method_4_code
def yJ1_canEncode_9a6ad : MethodName := ⟨RJ1, "canEncode", "(I)Z"⟩
abbrev cJ1_indexOf_4cfef : ByteArray := prog_19_method_22_code
def yJ1_indexOf_4cfef : MethodName := ⟨RJ1, "indexOf", "([BIII)I"⟩
abbrev cJ1_indexOfChar_4cfef : ByteArray := prog_19_method_23_code
def yJ1_indexOfChar_4cfef : MethodName := ⟨RJ1, "indexOfChar", "([BIII)I"⟩
def RJ2 : String := "java/lang/StringUTF16"
def TJ2 : u_T := fun k => match k with
  | _ => ("", "", "", false)
def tyJ2 : Nat → FieldType := fun k => match k with
  | _ => .int
theorem nmJ2 : ∀ a, a < 0 → ∀ b, b < 0 → a ≠ b → (TJ2 a).2.1 ≠ (TJ2 b).2.1 := by decide +kernel
theorem tyJ2_ok : ∀ k, k < 0 → parseFieldDescriptor (TJ2 k).2.2.1 = some (tyJ2 k) := by decide +kernel
abbrev cJ2_getChar_3b067 : ByteArray := prog_20_method_5_code
def yJ2_getChar_3b067 : MethodName := ⟨RJ2, "getChar", "([BI)C"⟩
abbrev cJ2_length_9d52b : ByteArray := prog_20_method_6_code
def yJ2_length_9d52b : MethodName := ⟨RJ2, "length", "([B)I"⟩
abbrev cJ2_indexOf_4cfef : ByteArray := prog_20_method_40_code
def yJ2_indexOf_4cfef : MethodName := ⟨RJ2, "indexOf", "([BIII)I"⟩
abbrev cJ2_indexOfChar_4cfef : ByteArray := prog_20_method_47_code
def yJ2_indexOfChar_4cfef : MethodName := ⟨RJ2, "indexOfChar", "([BIII)I"⟩
abbrev cJ2_indexOfCharUnsafe_4cfef : ByteArray := prog_20_method_48_code
def yJ2_indexOfCharUnsafe_4cfef : MethodName := ⟨RJ2, "indexOfCharUnsafe", "([BIII)I"⟩
abbrev cJ2_indexOfSupplementary_4cfef : ByteArray := prog_20_method_49_code
def yJ2_indexOfSupplementary_4cfef : MethodName := ⟨RJ2, "indexOfSupplementary", "([BIII)I"⟩
abbrev cJ2_charAt_3b067 : ByteArray := prog_20_method_83_code
def yJ2_charAt_3b067 : MethodName := ⟨RJ2, "charAt", "([BI)C"⟩
abbrev cJ2_checkIndex_2214a : ByteArray := prog_20_method_91_code
def yJ2_checkIndex_2214a : MethodName := ⟨RJ2, "checkIndex", "(I[B)V"⟩
abbrev cJ2_checkBoundsBeginEnd_d044e : ByteArray := prog_20_method_93_code
def yJ2_checkBoundsBeginEnd_d044e : MethodName := ⟨RJ2, "checkBoundsBeginEnd", "(II[B)V"⟩
def RJ10 : String := "java/lang/System"
def TJ10 : u_T := fun k => match k with
  | _ => ("", "", "", false)
def tyJ10 : Nat → FieldType := fun k => match k with
  | _ => .int
theorem nmJ10 : ∀ a, a < 0 → ∀ b, b < 0 → a ≠ b → (TJ10 a).2.1 ≠ (TJ10 b).2.1 := by decide +kernel
theorem tyJ10_ok : ∀ k, k < 0 → parseFieldDescriptor (TJ10 k).2.2.1 = some (tyJ10 k) := by decide +kernel
def RJ3 : String := "jdk/internal/util/Preconditions"
def TJ3 : u_T := fun k => match k with
  | _ => ("", "", "", false)
def tyJ3 : Nat → FieldType := fun k => match k with
  | _ => .int
theorem nmJ3 : ∀ a, a < 0 → ∀ b, b < 0 → a ≠ b → (TJ3 a).2.1 ≠ (TJ3 b).2.1 := by decide +kernel
theorem tyJ3_ok : ∀ k, k < 0 → parseFieldDescriptor (TJ3 k).2.2.1 = some (tyJ3 k) := by decide +kernel
abbrev cJ3_checkIndex_8e157 : ByteArray := prog_22_method_11_code
def yJ3_checkIndex_8e157 : MethodName := ⟨RJ3, "checkIndex", "(IILjava/util/function/BiFunction;)I"⟩
abbrev cJ3_checkFromToIndex_8c36e : ByteArray := prog_22_method_12_code
def yJ3_checkFromToIndex_8c36e : MethodName := ⟨RJ3, "checkFromToIndex", "(IIILjava/util/function/BiFunction;)I"⟩
def RL : String := "PaperAgerLaw"
abbrev cL_law : ByteArray := code
def yL_law : MethodName := ⟨RL, "law", "([I)Z"⟩
abbrev vwCl : List vw_C := [(RX0, TX0, 11), (RX1, TX1, 2), (RX2, TX2, 5), (RX3, TX3, 7), (RX4, TX4, 9), (RX5, TX5, 8), (RX6, TX6, 5), (RX7, TX7, 2), (RX8, TX8, 5), (RX9, TX9, 4), (RX10, TX10, 4), (RX11, TX11, 7), (RX12, TX12, 55)]
end
section
theorem dX0_init_0 : decode cX0_init 0 = .ok (.aload_n 0, 1) := by decide +kernel
theorem dX0_init_1 : decode cX0_init 1 = .ok (.invokespecial 3, 3) := by decide +kernel
theorem dX0_init_4 : decode cX0_init 4 = .ok (.aload_n 0, 1) := by decide +kernel
theorem dX0_init_5 : decode cX0_init 5 = .ok (.bipush 12, 2) := by decide +kernel
theorem dX0_init_7 : decode cX0_init 7 = .ok (.anewarray 9, 3) := by decide +kernel
theorem dX0_init_10 : decode cX0_init 10 = .ok (.putfield 11, 3) := by decide +kernel
theorem dX0_init_13 : decode cX0_init 13 = .ok (.aload_n 0, 1) := by decide +kernel
theorem dX0_init_14 : decode cX0_init 14 = .ok (.bipush 12, 2) := by decide +kernel
theorem dX0_init_16 : decode cX0_init 16 = .ok (.anewarray 17, 3) := by decide +kernel
theorem dX0_init_19 : decode cX0_init 19 = .ok (.putfield 19, 3) := by decide +kernel
theorem dX0_init_22 : decode cX0_init 22 = .ok (.aload_n 0, 1) := by decide +kernel
theorem dX0_init_23 : decode cX0_init 23 = .ok (.new 23, 3) := by decide +kernel
theorem dX0_init_26 : decode cX0_init 26 = .ok (.dup, 1) := by decide +kernel
theorem dX0_init_27 : decode cX0_init 27 = .ok (.invokespecial 25, 3) := by decide +kernel
theorem dX0_init_30 : decode cX0_init 30 = .ok (.putfield 26, 3) := by decide +kernel
theorem dX0_init_33 : decode cX0_init 33 = .ok (.aload_n 0, 1) := by decide +kernel
theorem dX0_init_34 : decode cX0_init 34 = .ok (.new 30, 3) := by decide +kernel
theorem dX0_init_37 : decode cX0_init 37 = .ok (.dup, 1) := by decide +kernel
theorem dX0_init_38 : decode cX0_init 38 = .ok (.invokespecial 32, 3) := by decide +kernel
theorem dX0_init_41 : decode cX0_init 41 = .ok (.putfield 33, 3) := by decide +kernel
theorem dX0_init_44 : decode cX0_init 44 = .ok (.aload_n 0, 1) := by decide +kernel
theorem dX0_init_45 : decode cX0_init 45 = .ok (.new 37, 3) := by decide +kernel
theorem dX0_init_48 : decode cX0_init 48 = .ok (.dup, 1) := by decide +kernel
theorem dX0_init_49 : decode cX0_init 49 = .ok (.invokespecial 39, 3) := by decide +kernel
theorem dX0_init_52 : decode cX0_init 52 = .ok (.putfield 40, 3) := by decide +kernel
theorem dX0_init_55 : decode cX0_init 55 = .ok (.aload_n 0, 1) := by decide +kernel
theorem dX0_init_56 : decode cX0_init 56 = .ok (.bipush 9, 2) := by decide +kernel
theorem dX0_init_58 : decode cX0_init 58 = .ok (.newarray .int, 2) := by decide +kernel
theorem dX0_init_60 : decode cX0_init 60 = .ok (.putfield 46, 3) := by decide +kernel
theorem dX0_init_63 : decode cX0_init 63 = .ok (.aload_n 0, 1) := by decide +kernel
theorem dX0_init_64 : decode cX0_init 64 = .ok (.iconst 0, 1) := by decide +kernel
theorem dX0_init_65 : decode cX0_init 65 = .ok (.putfield 50, 3) := by decide +kernel
theorem dX0_init_68 : decode cX0_init 68 = .ok (.aload_n 0, 1) := by decide +kernel
theorem dX0_init_69 : decode cX0_init 69 = .ok (.iconst 0, 1) := by decide +kernel
theorem dX0_init_70 : decode cX0_init 70 = .ok (.putfield 54, 3) := by decide +kernel
theorem dX0_init_73 : decode cX0_init 73 = .ok (.aload_n 0, 1) := by decide +kernel
theorem dX0_init_74 : decode cX0_init 74 = .ok (.iconst 0, 1) := by decide +kernel
theorem dX0_init_75 : decode cX0_init 75 = .ok (.putfield 57, 3) := by decide +kernel
theorem dX0_init_78 : decode cX0_init 78 = .ok (.aload_n 0, 1) := by decide +kernel
theorem dX0_init_79 : decode cX0_init 79 = .ok (.iconst 0, 1) := by decide +kernel
theorem dX0_init_80 : decode cX0_init 80 = .ok (.putfield 60, 3) := by decide +kernel
theorem dX0_init_83 : decode cX0_init 83 = .ok (.aload_n 0, 1) := by decide +kernel
theorem dX0_init_84 : decode cX0_init 84 = .ok (.iconst 0, 1) := by decide +kernel
theorem dX0_init_85 : decode cX0_init 85 = .ok (.putfield 63, 3) := by decide +kernel
theorem dX0_init_88 : decode cX0_init 88 = .ok (.iconst 0, 1) := by decide +kernel
theorem dX0_init_89 : decode cX0_init 89 = .ok (.istore_n 1, 1) := by decide +kernel
theorem dX0_init_90 : decode cX0_init 90 = .ok (.iload_n 1, 1) := by decide +kernel
theorem dX0_init_91 : decode cX0_init 91 = .ok (.bipush 12, 2) := by decide +kernel
theorem dX0_init_93 : decode cX0_init 93 = .ok (.if_icmp .ge 22, 3) := by decide +kernel
theorem dX0_init_96 : decode cX0_init 96 = .ok (.aload_n 0, 1) := by decide +kernel
theorem dX0_init_97 : decode cX0_init 97 = .ok (.getfield 11, 3) := by decide +kernel
theorem dX0_init_100 : decode cX0_init 100 = .ok (.iload_n 1, 1) := by decide +kernel
theorem dX0_init_101 : decode cX0_init 101 = .ok (.new 9, 3) := by decide +kernel
theorem dX0_init_104 : decode cX0_init 104 = .ok (.dup, 1) := by decide +kernel
theorem dX0_init_105 : decode cX0_init 105 = .ok (.invokespecial 66, 3) := by decide +kernel
theorem dX0_init_108 : decode cX0_init 108 = .ok (.aastore, 1) := by decide +kernel
theorem dX0_init_109 : decode cX0_init 109 = .ok (.iinc 1 1, 3) := by decide +kernel
theorem dX0_init_112 : decode cX0_init 112 = .ok (.goto (-22), 3) := by decide +kernel
theorem dX0_init_115 : decode cX0_init 115 = .ok (.iconst 0, 1) := by decide +kernel
theorem dX0_init_116 : decode cX0_init 116 = .ok (.istore_n 1, 1) := by decide +kernel
theorem dX0_init_117 : decode cX0_init 117 = .ok (.iload_n 1, 1) := by decide +kernel
theorem dX0_init_118 : decode cX0_init 118 = .ok (.bipush 12, 2) := by decide +kernel
theorem dX0_init_120 : decode cX0_init 120 = .ok (.if_icmp .ge 22, 3) := by decide +kernel
theorem dX0_init_123 : decode cX0_init 123 = .ok (.aload_n 0, 1) := by decide +kernel
theorem dX0_init_124 : decode cX0_init 124 = .ok (.getfield 19, 3) := by decide +kernel
theorem dX0_init_127 : decode cX0_init 127 = .ok (.iload_n 1, 1) := by decide +kernel
theorem dX0_init_128 : decode cX0_init 128 = .ok (.new 17, 3) := by decide +kernel
theorem dX0_init_131 : decode cX0_init 131 = .ok (.dup, 1) := by decide +kernel
theorem dX0_init_132 : decode cX0_init 132 = .ok (.invokespecial 67, 3) := by decide +kernel
theorem dX0_init_135 : decode cX0_init 135 = .ok (.aastore, 1) := by decide +kernel
theorem dX0_init_136 : decode cX0_init 136 = .ok (.iinc 1 1, 3) := by decide +kernel
theorem dX0_init_139 : decode cX0_init 139 = .ok (.goto (-22), 3) := by decide +kernel
theorem dX0_init_142 : decode cX0_init 142 = .ok (.return_, 1) := by decide +kernel
theorem dX0_readerAt_0 : decode cX0_readerAt 0 = .ok (.iload_n 1, 1) := by decide +kernel
theorem dX0_readerAt_1 : decode cX0_readerAt 1 = .ok (.iconst 0, 1) := by decide +kernel
theorem dX0_readerAt_2 : decode cX0_readerAt 2 = .ok (.aload_n 0, 1) := by decide +kernel
theorem dX0_readerAt_3 : decode cX0_readerAt 3 = .ok (.getfield 50, 3) := by decide +kernel
theorem dX0_readerAt_6 : decode cX0_readerAt 6 = .ok (.iconst 1, 1) := by decide +kernel
theorem dX0_readerAt_7 : decode cX0_readerAt 7 = .ok (.isub, 1) := by decide +kernel
theorem dX0_readerAt_8 : decode cX0_readerAt 8 = .ok (.invokestatic 68, 3) := by decide +kernel
theorem dX0_readerAt_11 : decode cX0_readerAt 11 = .ok (.ifCond .eq 12, 3) := by decide +kernel
theorem dX0_readerAt_14 : decode cX0_readerAt 14 = .ok (.aload_n 0, 1) := by decide +kernel
theorem dX0_readerAt_15 : decode cX0_readerAt 15 = .ok (.getfield 11, 3) := by decide +kernel
theorem dX0_readerAt_18 : decode cX0_readerAt 18 = .ok (.iload_n 1, 1) := by decide +kernel
theorem dX0_readerAt_19 : decode cX0_readerAt 19 = .ok (.aaload, 1) := by decide +kernel
theorem dX0_readerAt_20 : decode cX0_readerAt 20 = .ok (.goto 4, 3) := by decide +kernel
theorem dX0_readerAt_23 : decode cX0_readerAt 23 = .ok (.aconst_null, 1) := by decide +kernel
theorem dX0_readerAt_24 : decode cX0_readerAt 24 = .ok (.areturn, 1) := by decide +kernel
theorem dX0_paperAt_0 : decode cX0_paperAt 0 = .ok (.iload_n 1, 1) := by decide +kernel
theorem dX0_paperAt_1 : decode cX0_paperAt 1 = .ok (.iconst 0, 1) := by decide +kernel
theorem dX0_paperAt_2 : decode cX0_paperAt 2 = .ok (.aload_n 0, 1) := by decide +kernel
theorem dX0_paperAt_3 : decode cX0_paperAt 3 = .ok (.getfield 54, 3) := by decide +kernel
theorem dX0_paperAt_6 : decode cX0_paperAt 6 = .ok (.iconst 1, 1) := by decide +kernel
theorem dX0_paperAt_7 : decode cX0_paperAt 7 = .ok (.isub, 1) := by decide +kernel
theorem dX0_paperAt_8 : decode cX0_paperAt 8 = .ok (.invokestatic 68, 3) := by decide +kernel
theorem dX0_paperAt_11 : decode cX0_paperAt 11 = .ok (.ifCond .eq 12, 3) := by decide +kernel
theorem dX0_paperAt_14 : decode cX0_paperAt 14 = .ok (.aload_n 0, 1) := by decide +kernel
theorem dX0_paperAt_15 : decode cX0_paperAt 15 = .ok (.getfield 19, 3) := by decide +kernel
theorem dX0_paperAt_18 : decode cX0_paperAt 18 = .ok (.iload_n 1, 1) := by decide +kernel
theorem dX0_paperAt_19 : decode cX0_paperAt 19 = .ok (.aaload, 1) := by decide +kernel
theorem dX0_paperAt_20 : decode cX0_paperAt 20 = .ok (.goto 4, 3) := by decide +kernel
theorem dX0_paperAt_23 : decode cX0_paperAt 23 = .ok (.aconst_null, 1) := by decide +kernel
theorem dX0_paperAt_24 : decode cX0_paperAt 24 = .ok (.areturn, 1) := by decide +kernel
theorem dX0_ageOf_0 : decode cX0_ageOf 0 = .ok (.aload_n 0, 1) := by decide +kernel
theorem dX0_ageOf_1 : decode cX0_ageOf 1 = .ok (.aload_n 1, 1) := by decide +kernel
theorem dX0_ageOf_2 : decode cX0_ageOf 2 = .ok (.getfield 72, 3) := by decide +kernel
theorem dX0_ageOf_5 : decode cX0_ageOf 5 = .ok (.invokevirtual 75, 3) := by decide +kernel
theorem dX0_ageOf_8 : decode cX0_ageOf 8 = .ok (.astore_n 3, 1) := by decide +kernel
theorem dX0_ageOf_9 : decode cX0_ageOf 9 = .ok (.aload_n 0, 1) := by decide +kernel
theorem dX0_ageOf_10 : decode cX0_ageOf 10 = .ok (.getfield 46, 3) := by decide +kernel
theorem dX0_ageOf_13 : decode cX0_ageOf 13 = .ok (.iconst 0, 1) := by decide +kernel
theorem dX0_ageOf_14 : decode cX0_ageOf 14 = .ok (.aload_n 1, 1) := by decide +kernel
theorem dX0_ageOf_15 : decode cX0_ageOf 15 = .ok (.getfield 79, 3) := by decide +kernel
theorem dX0_ageOf_18 : decode cX0_ageOf 18 = .ok (.iastore, 1) := by decide +kernel
theorem dX0_ageOf_19 : decode cX0_ageOf 19 = .ok (.aload_n 0, 1) := by decide +kernel
theorem dX0_ageOf_20 : decode cX0_ageOf 20 = .ok (.getfield 46, 3) := by decide +kernel
theorem dX0_ageOf_23 : decode cX0_ageOf 23 = .ok (.iconst 1, 1) := by decide +kernel
theorem dX0_ageOf_24 : decode cX0_ageOf 24 = .ok (.aload_n 3, 1) := by decide +kernel
theorem dX0_ageOf_25 : decode cX0_ageOf 25 = .ok (.ifnonnull 7, 3) := by decide +kernel
theorem dX0_ageOf_28 : decode cX0_ageOf 28 = .ok (.iconst 0, 1) := by decide +kernel
theorem dX0_ageOf_29 : decode cX0_ageOf 29 = .ok (.goto 8, 3) := by decide +kernel
theorem dX0_ageOf_32 : decode cX0_ageOf 32 = .ok (.aload_n 3, 1) := by decide +kernel
theorem dX0_ageOf_33 : decode cX0_ageOf 33 = .ok (.iload_n 2, 1) := by decide +kernel
theorem dX0_ageOf_34 : decode cX0_ageOf 34 = .ok (.invokevirtual 82, 3) := by decide +kernel
theorem dX0_ageOf_37 : decode cX0_ageOf 37 = .ok (.iastore, 1) := by decide +kernel
theorem dX0_ageOf_38 : decode cX0_ageOf 38 = .ok (.aload_n 0, 1) := by decide +kernel
theorem dX0_ageOf_39 : decode cX0_ageOf 39 = .ok (.getfield 46, 3) := by decide +kernel
theorem dX0_ageOf_42 : decode cX0_ageOf 42 = .ok (.iconst 2, 1) := by decide +kernel
theorem dX0_ageOf_43 : decode cX0_ageOf 43 = .ok (.iload_n 2, 1) := by decide +kernel
theorem dX0_ageOf_44 : decode cX0_ageOf 44 = .ok (.aload_n 1, 1) := by decide +kernel
theorem dX0_ageOf_45 : decode cX0_ageOf 45 = .ok (.getfield 86, 3) := by decide +kernel
theorem dX0_ageOf_48 : decode cX0_ageOf 48 = .ok (.isub, 1) := by decide +kernel
theorem dX0_ageOf_49 : decode cX0_ageOf 49 = .ok (.iastore, 1) := by decide +kernel
theorem dX0_ageOf_50 : decode cX0_ageOf 50 = .ok (.aload_n 0, 1) := by decide +kernel
theorem dX0_ageOf_51 : decode cX0_ageOf 51 = .ok (.getfield 46, 3) := by decide +kernel
theorem dX0_ageOf_54 : decode cX0_ageOf 54 = .ok (.iconst 3, 1) := by decide +kernel
theorem dX0_ageOf_55 : decode cX0_ageOf 55 = .ok (.iload_n 2, 1) := by decide +kernel
theorem dX0_ageOf_56 : decode cX0_ageOf 56 = .ok (.aload_n 1, 1) := by decide +kernel
theorem dX0_ageOf_57 : decode cX0_ageOf 57 = .ok (.getfield 89, 3) := by decide +kernel
theorem dX0_ageOf_60 : decode cX0_ageOf 60 = .ok (.isub, 1) := by decide +kernel
theorem dX0_ageOf_61 : decode cX0_ageOf 61 = .ok (.sipush 365, 3) := by decide +kernel
theorem dX0_ageOf_64 : decode cX0_ageOf 64 = .ok (.idiv, 1) := by decide +kernel
theorem dX0_ageOf_65 : decode cX0_ageOf 65 = .ok (.iastore, 1) := by decide +kernel
theorem dX0_ageOf_66 : decode cX0_ageOf 66 = .ok (.aload_n 0, 1) := by decide +kernel
theorem dX0_ageOf_67 : decode cX0_ageOf 67 = .ok (.getfield 46, 3) := by decide +kernel
theorem dX0_ageOf_70 : decode cX0_ageOf 70 = .ok (.iconst 4, 1) := by decide +kernel
theorem dX0_ageOf_71 : decode cX0_ageOf 71 = .ok (.aload_n 1, 1) := by decide +kernel
theorem dX0_ageOf_72 : decode cX0_ageOf 72 = .ok (.getfield 92, 3) := by decide +kernel
theorem dX0_ageOf_75 : decode cX0_ageOf 75 = .ok (.iastore, 1) := by decide +kernel
theorem dX0_ageOf_76 : decode cX0_ageOf 76 = .ok (.aload_n 0, 1) := by decide +kernel
theorem dX0_ageOf_77 : decode cX0_ageOf 77 = .ok (.getfield 46, 3) := by decide +kernel
theorem dX0_ageOf_80 : decode cX0_ageOf 80 = .ok (.iconst 5, 1) := by decide +kernel
theorem dX0_ageOf_81 : decode cX0_ageOf 81 = .ok (.aload_n 1, 1) := by decide +kernel
theorem dX0_ageOf_82 : decode cX0_ageOf 82 = .ok (.getfield 95, 3) := by decide +kernel
theorem dX0_ageOf_85 : decode cX0_ageOf 85 = .ok (.iastore, 1) := by decide +kernel
theorem dX0_ageOf_86 : decode cX0_ageOf 86 = .ok (.aload_n 0, 1) := by decide +kernel
theorem dX0_ageOf_87 : decode cX0_ageOf 87 = .ok (.getfield 46, 3) := by decide +kernel
theorem dX0_ageOf_90 : decode cX0_ageOf 90 = .ok (.bipush 6, 2) := by decide +kernel
theorem dX0_ageOf_92 : decode cX0_ageOf 92 = .ok (.aload_n 3, 1) := by decide +kernel
theorem dX0_ageOf_93 : decode cX0_ageOf 93 = .ok (.ifnonnull 8, 3) := by decide +kernel
theorem dX0_ageOf_96 : decode cX0_ageOf 96 = .ok (.bipush 9, 2) := by decide +kernel
theorem dX0_ageOf_98 : decode cX0_ageOf 98 = .ok (.goto 7, 3) := by decide +kernel
theorem dX0_ageOf_101 : decode cX0_ageOf 101 = .ok (.aload_n 3, 1) := by decide +kernel
theorem dX0_ageOf_102 : decode cX0_ageOf 102 = .ok (.getfield 98, 3) := by decide +kernel
theorem dX0_ageOf_105 : decode cX0_ageOf 105 = .ok (.iastore, 1) := by decide +kernel
theorem dX0_ageOf_106 : decode cX0_ageOf 106 = .ok (.aload_n 0, 1) := by decide +kernel
theorem dX0_ageOf_107 : decode cX0_ageOf 107 = .ok (.getfield 46, 3) := by decide +kernel
theorem dX0_ageOf_110 : decode cX0_ageOf 110 = .ok (.bipush 7, 2) := by decide +kernel
theorem dX0_ageOf_112 : decode cX0_ageOf 112 = .ok (.aload_n 3, 1) := by decide +kernel
theorem dX0_ageOf_113 : decode cX0_ageOf 113 = .ok (.ifnull 15, 3) := by decide +kernel
theorem dX0_ageOf_116 : decode cX0_ageOf 116 = .ok (.aload_n 3, 1) := by decide +kernel
theorem dX0_ageOf_117 : decode cX0_ageOf 117 = .ok (.iload_n 2, 1) := by decide +kernel
theorem dX0_ageOf_118 : decode cX0_ageOf 118 = .ok (.invokevirtual 101, 3) := by decide +kernel
theorem dX0_ageOf_121 : decode cX0_ageOf 121 = .ok (.ifCond .eq 7, 3) := by decide +kernel
theorem dX0_ageOf_124 : decode cX0_ageOf 124 = .ok (.iconst 1, 1) := by decide +kernel
theorem dX0_ageOf_125 : decode cX0_ageOf 125 = .ok (.goto 4, 3) := by decide +kernel
theorem dX0_ageOf_128 : decode cX0_ageOf 128 = .ok (.iconst 0, 1) := by decide +kernel
theorem dX0_ageOf_129 : decode cX0_ageOf 129 = .ok (.iastore, 1) := by decide +kernel
theorem dX0_ageOf_130 : decode cX0_ageOf 130 = .ok (.aload_n 0, 1) := by decide +kernel
theorem dX0_ageOf_131 : decode cX0_ageOf 131 = .ok (.getfield 46, 3) := by decide +kernel
theorem dX0_ageOf_134 : decode cX0_ageOf 134 = .ok (.bipush 8, 2) := by decide +kernel
theorem dX0_ageOf_136 : decode cX0_ageOf 136 = .ok (.aload_n 1, 1) := by decide +kernel
theorem dX0_ageOf_137 : decode cX0_ageOf 137 = .ok (.getfield 105, 3) := by decide +kernel
theorem dX0_ageOf_140 : decode cX0_ageOf 140 = .ok (.iastore, 1) := by decide +kernel
theorem dX0_ageOf_141 : decode cX0_ageOf 141 = .ok (.aload_n 0, 1) := by decide +kernel
theorem dX0_ageOf_142 : decode cX0_ageOf 142 = .ok (.getfield 40, 3) := by decide +kernel
theorem dX0_ageOf_145 : decode cX0_ageOf 145 = .ok (.aload_n 0, 1) := by decide +kernel
theorem dX0_ageOf_146 : decode cX0_ageOf 146 = .ok (.getfield 46, 3) := by decide +kernel
theorem dX0_ageOf_149 : decode cX0_ageOf 149 = .ok (.invokevirtual 108, 3) := by decide +kernel
theorem dX0_ageOf_152 : decode cX0_ageOf 152 = .ok (.ireturn, 1) := by decide +kernel
theorem dX0_stayOf_0 : decode cX0_stayOf 0 = .ok (.aload_n 0, 1) := by decide +kernel
theorem dX0_stayOf_1 : decode cX0_stayOf 1 = .ok (.aload_n 1, 1) := by decide +kernel
theorem dX0_stayOf_2 : decode cX0_stayOf 2 = .ok (.aload_n 0, 1) := by decide +kernel
theorem dX0_stayOf_3 : decode cX0_stayOf 3 = .ok (.getfield 57, 3) := by decide +kernel
theorem dX0_stayOf_6 : decode cX0_stayOf 6 = .ok (.invokevirtual 112, 3) := by decide +kernel
theorem dX0_stayOf_9 : decode cX0_stayOf 9 = .ok (.istore_n 2, 1) := by decide +kernel
theorem dX0_stayOf_10 : decode cX0_stayOf 10 = .ok (.iconst 1, 1) := by decide +kernel
theorem dX0_stayOf_11 : decode cX0_stayOf 11 = .ok (.istore_n 3, 1) := by decide +kernel
theorem dX0_stayOf_12 : decode cX0_stayOf 12 = .ok (.iload_n 3, 1) := by decide +kernel
theorem dX0_stayOf_13 : decode cX0_stayOf 13 = .ok (.sipush 400, 3) := by decide +kernel
theorem dX0_stayOf_16 : decode cX0_stayOf 16 = .ok (.if_icmp .ge 24, 3) := by decide +kernel
theorem dX0_stayOf_19 : decode cX0_stayOf 19 = .ok (.aload_n 0, 1) := by decide +kernel
theorem dX0_stayOf_20 : decode cX0_stayOf 20 = .ok (.aload_n 1, 1) := by decide +kernel
theorem dX0_stayOf_21 : decode cX0_stayOf 21 = .ok (.aload_n 0, 1) := by decide +kernel
theorem dX0_stayOf_22 : decode cX0_stayOf 22 = .ok (.getfield 57, 3) := by decide +kernel
theorem dX0_stayOf_25 : decode cX0_stayOf 25 = .ok (.iload_n 3, 1) := by decide +kernel
theorem dX0_stayOf_26 : decode cX0_stayOf 26 = .ok (.iadd, 1) := by decide +kernel
theorem dX0_stayOf_27 : decode cX0_stayOf 27 = .ok (.invokevirtual 112, 3) := by decide +kernel
theorem dX0_stayOf_30 : decode cX0_stayOf 30 = .ok (.iload_n 2, 1) := by decide +kernel
theorem dX0_stayOf_31 : decode cX0_stayOf 31 = .ok (.if_icmp .ne 9, 3) := by decide +kernel
theorem dX0_stayOf_34 : decode cX0_stayOf 34 = .ok (.iinc 3 1, 3) := by decide +kernel
theorem dX0_stayOf_37 : decode cX0_stayOf 37 = .ok (.goto (-25), 3) := by decide +kernel
theorem dX0_stayOf_40 : decode cX0_stayOf 40 = .ok (.iload_n 3, 1) := by decide +kernel
theorem dX0_stayOf_41 : decode cX0_stayOf 41 = .ok (.ireturn, 1) := by decide +kernel
theorem dX0_changeShelves_0 : decode cX0_changeShelves 0 = .ok (.iconst 0, 1) := by decide +kernel
theorem dX0_changeShelves_1 : decode cX0_changeShelves 1 = .ok (.istore_n 3, 1) := by decide +kernel
theorem dX0_changeShelves_2 : decode cX0_changeShelves 2 = .ok (.iload_n 3, 1) := by decide +kernel
theorem dX0_changeShelves_3 : decode cX0_changeShelves 3 = .ok (.aload_n 0, 1) := by decide +kernel
theorem dX0_changeShelves_4 : decode cX0_changeShelves 4 = .ok (.getfield 54, 3) := by decide +kernel
theorem dX0_changeShelves_7 : decode cX0_changeShelves 7 = .ok (.if_icmp .ge 58, 3) := by decide +kernel
theorem dX0_changeShelves_10 : decode cX0_changeShelves 10 = .ok (.aload_n 0, 1) := by decide +kernel
theorem dX0_changeShelves_11 : decode cX0_changeShelves 11 = .ok (.getfield 19, 3) := by decide +kernel
theorem dX0_changeShelves_14 : decode cX0_changeShelves 14 = .ok (.iload_n 3, 1) := by decide +kernel
theorem dX0_changeShelves_15 : decode cX0_changeShelves 15 = .ok (.aaload, 1) := by decide +kernel
theorem dX0_changeShelves_16 : decode cX0_changeShelves 16 = .ok (.getfield 95, 3) := by decide +kernel
theorem dX0_changeShelves_19 : decode cX0_changeShelves 19 = .ok (.iload_n 1, 1) := by decide +kernel
theorem dX0_changeShelves_20 : decode cX0_changeShelves 20 = .ok (.if_icmp .ne 16, 3) := by decide +kernel
theorem dX0_changeShelves_23 : decode cX0_changeShelves 23 = .ok (.aload_n 0, 1) := by decide +kernel
theorem dX0_changeShelves_24 : decode cX0_changeShelves 24 = .ok (.getfield 19, 3) := by decide +kernel
theorem dX0_changeShelves_27 : decode cX0_changeShelves 27 = .ok (.iload_n 3, 1) := by decide +kernel
theorem dX0_changeShelves_28 : decode cX0_changeShelves 28 = .ok (.aaload, 1) := by decide +kernel
theorem dX0_changeShelves_29 : decode cX0_changeShelves 29 = .ok (.iload_n 2, 1) := by decide +kernel
theorem dX0_changeShelves_30 : decode cX0_changeShelves 30 = .ok (.putfield 95, 3) := by decide +kernel
theorem dX0_changeShelves_33 : decode cX0_changeShelves 33 = .ok (.goto 26, 3) := by decide +kernel
theorem dX0_changeShelves_36 : decode cX0_changeShelves 36 = .ok (.aload_n 0, 1) := by decide +kernel
theorem dX0_changeShelves_37 : decode cX0_changeShelves 37 = .ok (.getfield 19, 3) := by decide +kernel
theorem dX0_changeShelves_40 : decode cX0_changeShelves 40 = .ok (.iload_n 3, 1) := by decide +kernel
theorem dX0_changeShelves_41 : decode cX0_changeShelves 41 = .ok (.aaload, 1) := by decide +kernel
theorem dX0_changeShelves_42 : decode cX0_changeShelves 42 = .ok (.getfield 95, 3) := by decide +kernel
theorem dX0_changeShelves_45 : decode cX0_changeShelves 45 = .ok (.iload_n 2, 1) := by decide +kernel
theorem dX0_changeShelves_46 : decode cX0_changeShelves 46 = .ok (.if_icmp .ne 13, 3) := by decide +kernel
theorem dX0_changeShelves_49 : decode cX0_changeShelves 49 = .ok (.aload_n 0, 1) := by decide +kernel
theorem dX0_changeShelves_50 : decode cX0_changeShelves 50 = .ok (.getfield 19, 3) := by decide +kernel
theorem dX0_changeShelves_53 : decode cX0_changeShelves 53 = .ok (.iload_n 3, 1) := by decide +kernel
theorem dX0_changeShelves_54 : decode cX0_changeShelves 54 = .ok (.aaload, 1) := by decide +kernel
theorem dX0_changeShelves_55 : decode cX0_changeShelves 55 = .ok (.iload_n 1, 1) := by decide +kernel
theorem dX0_changeShelves_56 : decode cX0_changeShelves 56 = .ok (.putfield 95, 3) := by decide +kernel
theorem dX0_changeShelves_59 : decode cX0_changeShelves 59 = .ok (.iinc 3 1, 3) := by decide +kernel
theorem dX0_changeShelves_62 : decode cX0_changeShelves 62 = .ok (.goto (-60), 3) := by decide +kernel
theorem dX0_changeShelves_65 : decode cX0_changeShelves 65 = .ok (.return_, 1) := by decide +kernel
theorem dX0_burn_0 : decode cX0_burn 0 = .ok (.iconst 0, 1) := by decide +kernel
theorem dX0_burn_1 : decode cX0_burn 1 = .ok (.istore_n 2, 1) := by decide +kernel
theorem dX0_burn_2 : decode cX0_burn 2 = .ok (.iload_n 2, 1) := by decide +kernel
theorem dX0_burn_3 : decode cX0_burn 3 = .ok (.aload_n 0, 1) := by decide +kernel
theorem dX0_burn_4 : decode cX0_burn 4 = .ok (.getfield 54, 3) := by decide +kernel
theorem dX0_burn_7 : decode cX0_burn 7 = .ok (.if_icmp .ge 35, 3) := by decide +kernel
theorem dX0_burn_10 : decode cX0_burn 10 = .ok (.aload_n 0, 1) := by decide +kernel
theorem dX0_burn_11 : decode cX0_burn 11 = .ok (.getfield 19, 3) := by decide +kernel
theorem dX0_burn_14 : decode cX0_burn 14 = .ok (.iload_n 2, 1) := by decide +kernel
theorem dX0_burn_15 : decode cX0_burn 15 = .ok (.aaload, 1) := by decide +kernel
theorem dX0_burn_16 : decode cX0_burn 16 = .ok (.getfield 95, 3) := by decide +kernel
theorem dX0_burn_19 : decode cX0_burn 19 = .ok (.iload_n 1, 1) := by decide +kernel
theorem dX0_burn_20 : decode cX0_burn 20 = .ok (.if_icmp .ne 16, 3) := by decide +kernel
theorem dX0_burn_23 : decode cX0_burn 23 = .ok (.aload_n 0, 1) := by decide +kernel
theorem dX0_burn_24 : decode cX0_burn 24 = .ok (.getfield 19, 3) := by decide +kernel
theorem dX0_burn_27 : decode cX0_burn 27 = .ok (.iload_n 2, 1) := by decide +kernel
theorem dX0_burn_28 : decode cX0_burn 28 = .ok (.aaload, 1) := by decide +kernel
theorem dX0_burn_29 : decode cX0_burn 29 = .ok (.aload_n 0, 1) := by decide +kernel
theorem dX0_burn_30 : decode cX0_burn 30 = .ok (.getfield 57, 3) := by decide +kernel
theorem dX0_burn_33 : decode cX0_burn 33 = .ok (.invokevirtual 116, 3) := by decide +kernel
theorem dX0_burn_36 : decode cX0_burn 36 = .ok (.iinc 2 1, 3) := by decide +kernel
theorem dX0_burn_39 : decode cX0_burn 39 = .ok (.goto (-37), 3) := by decide +kernel
theorem dX0_burn_42 : decode cX0_burn 42 = .ok (.aload_n 0, 1) := by decide +kernel
theorem dX0_burn_43 : decode cX0_burn 43 = .ok (.iload_n 1, 1) := by decide +kernel
theorem dX0_burn_44 : decode cX0_burn 44 = .ok (.invokevirtual 120, 3) := by decide +kernel
theorem dX0_burn_47 : decode cX0_burn 47 = .ok (.ireturn, 1) := by decide +kernel
theorem dX0_papersOn_0 : decode cX0_papersOn 0 = .ok (.iconst 0, 1) := by decide +kernel
theorem dX0_papersOn_1 : decode cX0_papersOn 1 = .ok (.istore_n 2, 1) := by decide +kernel
theorem dX0_papersOn_2 : decode cX0_papersOn 2 = .ok (.iconst 0, 1) := by decide +kernel
theorem dX0_papersOn_3 : decode cX0_papersOn 3 = .ok (.istore_n 3, 1) := by decide +kernel
theorem dX0_papersOn_4 : decode cX0_papersOn 4 = .ok (.iload_n 3, 1) := by decide +kernel
theorem dX0_papersOn_5 : decode cX0_papersOn 5 = .ok (.aload_n 0, 1) := by decide +kernel
theorem dX0_papersOn_6 : decode cX0_papersOn 6 = .ok (.getfield 54, 3) := by decide +kernel
theorem dX0_papersOn_9 : decode cX0_papersOn 9 = .ok (.if_icmp .ge 25, 3) := by decide +kernel
theorem dX0_papersOn_12 : decode cX0_papersOn 12 = .ok (.aload_n 0, 1) := by decide +kernel
theorem dX0_papersOn_13 : decode cX0_papersOn 13 = .ok (.getfield 19, 3) := by decide +kernel
theorem dX0_papersOn_16 : decode cX0_papersOn 16 = .ok (.iload_n 3, 1) := by decide +kernel
theorem dX0_papersOn_17 : decode cX0_papersOn 17 = .ok (.aaload, 1) := by decide +kernel
theorem dX0_papersOn_18 : decode cX0_papersOn 18 = .ok (.getfield 95, 3) := by decide +kernel
theorem dX0_papersOn_21 : decode cX0_papersOn 21 = .ok (.iload_n 1, 1) := by decide +kernel
theorem dX0_papersOn_22 : decode cX0_papersOn 22 = .ok (.if_icmp .ne 6, 3) := by decide +kernel
theorem dX0_papersOn_25 : decode cX0_papersOn 25 = .ok (.iinc 2 1, 3) := by decide +kernel
theorem dX0_papersOn_28 : decode cX0_papersOn 28 = .ok (.iinc 3 1, 3) := by decide +kernel
theorem dX0_papersOn_31 : decode cX0_papersOn 31 = .ok (.goto (-27), 3) := by decide +kernel
theorem dX0_papersOn_34 : decode cX0_papersOn 34 = .ok (.iload_n 2, 1) := by decide +kernel
theorem dX0_papersOn_35 : decode cX0_papersOn 35 = .ok (.ireturn, 1) := by decide +kernel
theorem dX0_agesOn_0 : decode cX0_agesOn 0 = .ok (.iconst 0, 1) := by decide +kernel
theorem dX0_agesOn_1 : decode cX0_agesOn 1 = .ok (.istore_n 2, 1) := by decide +kernel
theorem dX0_agesOn_2 : decode cX0_agesOn 2 = .ok (.iconst 0, 1) := by decide +kernel
theorem dX0_agesOn_3 : decode cX0_agesOn 3 = .ok (.istore_n 3, 1) := by decide +kernel
theorem dX0_agesOn_4 : decode cX0_agesOn 4 = .ok (.iload_n 3, 1) := by decide +kernel
theorem dX0_agesOn_5 : decode cX0_agesOn 5 = .ok (.aload_n 0, 1) := by decide +kernel
theorem dX0_agesOn_6 : decode cX0_agesOn 6 = .ok (.getfield 54, 3) := by decide +kernel
theorem dX0_agesOn_9 : decode cX0_agesOn 9 = .ok (.if_icmp .ge 39, 3) := by decide +kernel
theorem dX0_agesOn_12 : decode cX0_agesOn 12 = .ok (.aload_n 0, 1) := by decide +kernel
theorem dX0_agesOn_13 : decode cX0_agesOn 13 = .ok (.getfield 19, 3) := by decide +kernel
theorem dX0_agesOn_16 : decode cX0_agesOn 16 = .ok (.iload_n 3, 1) := by decide +kernel
theorem dX0_agesOn_17 : decode cX0_agesOn 17 = .ok (.aaload, 1) := by decide +kernel
theorem dX0_agesOn_18 : decode cX0_agesOn 18 = .ok (.getfield 95, 3) := by decide +kernel
theorem dX0_agesOn_21 : decode cX0_agesOn 21 = .ok (.iload_n 1, 1) := by decide +kernel
theorem dX0_agesOn_22 : decode cX0_agesOn 22 = .ok (.if_icmp .ne 20, 3) := by decide +kernel
theorem dX0_agesOn_25 : decode cX0_agesOn 25 = .ok (.iload_n 2, 1) := by decide +kernel
theorem dX0_agesOn_26 : decode cX0_agesOn 26 = .ok (.aload_n 0, 1) := by decide +kernel
theorem dX0_agesOn_27 : decode cX0_agesOn 27 = .ok (.aload_n 0, 1) := by decide +kernel
theorem dX0_agesOn_28 : decode cX0_agesOn 28 = .ok (.getfield 19, 3) := by decide +kernel
theorem dX0_agesOn_31 : decode cX0_agesOn 31 = .ok (.iload_n 3, 1) := by decide +kernel
theorem dX0_agesOn_32 : decode cX0_agesOn 32 = .ok (.aaload, 1) := by decide +kernel
theorem dX0_agesOn_33 : decode cX0_agesOn 33 = .ok (.aload_n 0, 1) := by decide +kernel
theorem dX0_agesOn_34 : decode cX0_agesOn 34 = .ok (.getfield 57, 3) := by decide +kernel
theorem dX0_agesOn_37 : decode cX0_agesOn 37 = .ok (.invokevirtual 112, 3) := by decide +kernel
theorem dX0_agesOn_40 : decode cX0_agesOn 40 = .ok (.iadd, 1) := by decide +kernel
theorem dX0_agesOn_41 : decode cX0_agesOn 41 = .ok (.istore_n 2, 1) := by decide +kernel
theorem dX0_agesOn_42 : decode cX0_agesOn 42 = .ok (.iinc 3 1, 3) := by decide +kernel
theorem dX0_agesOn_45 : decode cX0_agesOn 45 = .ok (.goto (-41), 3) := by decide +kernel
theorem dX0_agesOn_48 : decode cX0_agesOn 48 = .ok (.iload_n 2, 1) := by decide +kernel
theorem dX0_agesOn_49 : decode cX0_agesOn 49 = .ok (.ireturn, 1) := by decide +kernel
theorem dX0_endDay_0 : decode cX0_endDay 0 = .ok (.aload_n 0, 1) := by decide +kernel
theorem dX0_endDay_1 : decode cX0_endDay 1 = .ok (.dup, 1) := by decide +kernel
theorem dX0_endDay_2 : decode cX0_endDay 2 = .ok (.getfield 57, 3) := by decide +kernel
theorem dX0_endDay_5 : decode cX0_endDay 5 = .ok (.iconst 1, 1) := by decide +kernel
theorem dX0_endDay_6 : decode cX0_endDay 6 = .ok (.iadd, 1) := by decide +kernel
theorem dX0_endDay_7 : decode cX0_endDay 7 = .ok (.putfield 57, 3) := by decide +kernel
theorem dX0_endDay_10 : decode cX0_endDay 10 = .ok (.aload_n 0, 1) := by decide +kernel
theorem dX0_endDay_11 : decode cX0_endDay 11 = .ok (.invokevirtual 123, 3) := by decide +kernel
theorem dX0_endDay_14 : decode cX0_endDay 14 = .ok (.istore_n 1, 1) := by decide +kernel
theorem dX0_endDay_15 : decode cX0_endDay 15 = .ok (.aload_n 0, 1) := by decide +kernel
theorem dX0_endDay_16 : decode cX0_endDay 16 = .ok (.dup, 1) := by decide +kernel
theorem dX0_endDay_17 : decode cX0_endDay 17 = .ok (.getfield 63, 3) := by decide +kernel
theorem dX0_endDay_20 : decode cX0_endDay 20 = .ok (.iload_n 1, 1) := by decide +kernel
theorem dX0_endDay_21 : decode cX0_endDay 21 = .ok (.iadd, 1) := by decide +kernel
theorem dX0_endDay_22 : decode cX0_endDay 22 = .ok (.putfield 63, 3) := by decide +kernel
theorem dX0_endDay_25 : decode cX0_endDay 25 = .ok (.aload_n 0, 1) := by decide +kernel
theorem dX0_endDay_26 : decode cX0_endDay 26 = .ok (.invokevirtual 127, 3) := by decide +kernel
theorem dX0_endDay_29 : decode cX0_endDay 29 = .ok (.iload_n 1, 1) := by decide +kernel
theorem dX0_endDay_30 : decode cX0_endDay 30 = .ok (.ireturn, 1) := by decide +kernel
theorem dX0_drawDeaths_0 : decode cX0_drawDeaths 0 = .ok (.iconst 0, 1) := by decide +kernel
theorem dX0_drawDeaths_1 : decode cX0_drawDeaths 1 = .ok (.istore_n 1, 1) := by decide +kernel
theorem dX0_drawDeaths_2 : decode cX0_drawDeaths 2 = .ok (.iconst 0, 1) := by decide +kernel
theorem dX0_drawDeaths_3 : decode cX0_drawDeaths 3 = .ok (.istore_n 2, 1) := by decide +kernel
theorem dX0_drawDeaths_4 : decode cX0_drawDeaths 4 = .ok (.iload_n 2, 1) := by decide +kernel
theorem dX0_drawDeaths_5 : decode cX0_drawDeaths 5 = .ok (.aload_n 0, 1) := by decide +kernel
theorem dX0_drawDeaths_6 : decode cX0_drawDeaths 6 = .ok (.getfield 50, 3) := by decide +kernel
theorem dX0_drawDeaths_9 : decode cX0_drawDeaths 9 = .ok (.if_icmp .ge 56, 3) := by decide +kernel
theorem dX0_drawDeaths_12 : decode cX0_drawDeaths 12 = .ok (.aload_n 0, 1) := by decide +kernel
theorem dX0_drawDeaths_13 : decode cX0_drawDeaths 13 = .ok (.getfield 11, 3) := by decide +kernel
theorem dX0_drawDeaths_16 : decode cX0_drawDeaths 16 = .ok (.iload_n 2, 1) := by decide +kernel
theorem dX0_drawDeaths_17 : decode cX0_drawDeaths 17 = .ok (.aaload, 1) := by decide +kernel
theorem dX0_drawDeaths_18 : decode cX0_drawDeaths 18 = .ok (.astore_n 3, 1) := by decide +kernel
theorem dX0_drawDeaths_19 : decode cX0_drawDeaths 19 = .ok (.aload_n 3, 1) := by decide +kernel
theorem dX0_drawDeaths_20 : decode cX0_drawDeaths 20 = .ok (.aload_n 0, 1) := by decide +kernel
theorem dX0_drawDeaths_21 : decode cX0_drawDeaths 21 = .ok (.getfield 57, 3) := by decide +kernel
theorem dX0_drawDeaths_24 : decode cX0_drawDeaths 24 = .ok (.invokevirtual 101, 3) := by decide +kernel
theorem dX0_drawDeaths_27 : decode cX0_drawDeaths 27 = .ok (.ifCond .eq 32, 3) := by decide +kernel
theorem dX0_drawDeaths_30 : decode cX0_drawDeaths 30 = .ok (.aload_n 3, 1) := by decide +kernel
theorem dX0_drawDeaths_31 : decode cX0_drawDeaths 31 = .ok (.getfield 130, 3) := by decide +kernel
theorem dX0_drawDeaths_34 : decode cX0_drawDeaths 34 = .ok (.ifCond .le 25, 3) := by decide +kernel
theorem dX0_drawDeaths_37 : decode cX0_drawDeaths 37 = .ok (.aload_n 0, 1) := by decide +kernel
theorem dX0_drawDeaths_38 : decode cX0_drawDeaths 38 = .ok (.invokevirtual 133, 3) := by decide +kernel
theorem dX0_drawDeaths_41 : decode cX0_drawDeaths 41 = .ok (.aload_n 3, 1) := by decide +kernel
theorem dX0_drawDeaths_42 : decode cX0_drawDeaths 42 = .ok (.getfield 130, 3) := by decide +kernel
theorem dX0_drawDeaths_45 : decode cX0_drawDeaths 45 = .ok (.if_icmp .ge 14, 3) := by decide +kernel
theorem dX0_drawDeaths_48 : decode cX0_drawDeaths 48 = .ok (.aload_n 3, 1) := by decide +kernel
theorem dX0_drawDeaths_49 : decode cX0_drawDeaths 49 = .ok (.aload_n 0, 1) := by decide +kernel
theorem dX0_drawDeaths_50 : decode cX0_drawDeaths 50 = .ok (.getfield 57, 3) := by decide +kernel
theorem dX0_drawDeaths_53 : decode cX0_drawDeaths 53 = .ok (.putfield 136, 3) := by decide +kernel
theorem dX0_drawDeaths_56 : decode cX0_drawDeaths 56 = .ok (.iinc 1 1, 3) := by decide +kernel
theorem dX0_drawDeaths_59 : decode cX0_drawDeaths 59 = .ok (.iinc 2 1, 3) := by decide +kernel
theorem dX0_drawDeaths_62 : decode cX0_drawDeaths 62 = .ok (.goto (-58), 3) := by decide +kernel
theorem dX0_drawDeaths_65 : decode cX0_drawDeaths 65 = .ok (.iload_n 1, 1) := by decide +kernel
theorem dX0_drawDeaths_66 : decode cX0_drawDeaths 66 = .ok (.ireturn, 1) := by decide +kernel
theorem dX0_drawTenThousandth_0 : decode cX0_drawTenThousandth 0 = .ok (.aload_n 0, 1) := by decide +kernel
theorem dX0_drawTenThousandth_1 : decode cX0_drawTenThousandth 1 = .ok (.ldc 139, 2) := by decide +kernel
theorem dX0_drawTenThousandth_3 : decode cX0_drawTenThousandth 3 = .ok (.aload_n 0, 1) := by decide +kernel
theorem dX0_drawTenThousandth_4 : decode cX0_drawTenThousandth 4 = .ok (.getfield 60, 3) := by decide +kernel
theorem dX0_drawTenThousandth_7 : decode cX0_drawTenThousandth 7 = .ok (.imul, 1) := by decide +kernel
theorem dX0_drawTenThousandth_8 : decode cX0_drawTenThousandth 8 = .ok (.ldc 140, 2) := by decide +kernel
theorem dX0_drawTenThousandth_10 : decode cX0_drawTenThousandth 10 = .ok (.iadd, 1) := by decide +kernel
theorem dX0_drawTenThousandth_11 : decode cX0_drawTenThousandth 11 = .ok (.putfield 60, 3) := by decide +kernel
theorem dX0_drawTenThousandth_14 : decode cX0_drawTenThousandth 14 = .ok (.aload_n 0, 1) := by decide +kernel
theorem dX0_drawTenThousandth_15 : decode cX0_drawTenThousandth 15 = .ok (.getfield 60, 3) := by decide +kernel
theorem dX0_drawTenThousandth_18 : decode cX0_drawTenThousandth 18 = .ok (.bipush 8, 2) := by decide +kernel
theorem dX0_drawTenThousandth_20 : decode cX0_drawTenThousandth 20 = .ok (.iushr, 1) := by decide +kernel
theorem dX0_drawTenThousandth_21 : decode cX0_drawTenThousandth 21 = .ok (.sipush 10000, 3) := by decide +kernel
theorem dX0_drawTenThousandth_24 : decode cX0_drawTenThousandth 24 = .ok (.irem, 1) := by decide +kernel
theorem dX0_drawTenThousandth_25 : decode cX0_drawTenThousandth 25 = .ok (.ireturn, 1) := by decide +kernel
theorem dX0_passLeases_0 : decode cX0_passLeases 0 = .ok (.iconst 0, 1) := by decide +kernel
theorem dX0_passLeases_1 : decode cX0_passLeases 1 = .ok (.istore_n 1, 1) := by decide +kernel
theorem dX0_passLeases_2 : decode cX0_passLeases 2 = .ok (.iload_n 1, 1) := by decide +kernel
theorem dX0_passLeases_3 : decode cX0_passLeases 3 = .ok (.aload_n 0, 1) := by decide +kernel
theorem dX0_passLeases_4 : decode cX0_passLeases 4 = .ok (.getfield 54, 3) := by decide +kernel
theorem dX0_passLeases_7 : decode cX0_passLeases 7 = .ok (.if_icmp .ge 51, 3) := by decide +kernel
theorem dX0_passLeases_10 : decode cX0_passLeases 10 = .ok (.aload_n 0, 1) := by decide +kernel
theorem dX0_passLeases_11 : decode cX0_passLeases 11 = .ok (.aload_n 0, 1) := by decide +kernel
theorem dX0_passLeases_12 : decode cX0_passLeases 12 = .ok (.getfield 19, 3) := by decide +kernel
theorem dX0_passLeases_15 : decode cX0_passLeases 15 = .ok (.iload_n 1, 1) := by decide +kernel
theorem dX0_passLeases_16 : decode cX0_passLeases 16 = .ok (.aaload, 1) := by decide +kernel
theorem dX0_passLeases_17 : decode cX0_passLeases 17 = .ok (.getfield 141, 3) := by decide +kernel
theorem dX0_passLeases_20 : decode cX0_passLeases 20 = .ok (.invokevirtual 75, 3) := by decide +kernel
theorem dX0_passLeases_23 : decode cX0_passLeases 23 = .ok (.astore_n 2, 1) := by decide +kernel
theorem dX0_passLeases_24 : decode cX0_passLeases 24 = .ok (.aload_n 2, 1) := by decide +kernel
theorem dX0_passLeases_25 : decode cX0_passLeases 25 = .ok (.ifnull 27, 3) := by decide +kernel
theorem dX0_passLeases_28 : decode cX0_passLeases 28 = .ok (.aload_n 2, 1) := by decide +kernel
theorem dX0_passLeases_29 : decode cX0_passLeases 29 = .ok (.aload_n 0, 1) := by decide +kernel
theorem dX0_passLeases_30 : decode cX0_passLeases 30 = .ok (.getfield 57, 3) := by decide +kernel
theorem dX0_passLeases_33 : decode cX0_passLeases 33 = .ok (.invokevirtual 101, 3) := by decide +kernel
theorem dX0_passLeases_36 : decode cX0_passLeases 36 = .ok (.ifCond .ne 16, 3) := by decide +kernel
theorem dX0_passLeases_39 : decode cX0_passLeases 39 = .ok (.aload_n 0, 1) := by decide +kernel
theorem dX0_passLeases_40 : decode cX0_passLeases 40 = .ok (.getfield 19, 3) := by decide +kernel
theorem dX0_passLeases_43 : decode cX0_passLeases 43 = .ok (.iload_n 1, 1) := by decide +kernel
theorem dX0_passLeases_44 : decode cX0_passLeases 44 = .ok (.aaload, 1) := by decide +kernel
theorem dX0_passLeases_45 : decode cX0_passLeases 45 = .ok (.aload_n 0, 1) := by decide +kernel
theorem dX0_passLeases_46 : decode cX0_passLeases 46 = .ok (.invokevirtual 144, 3) := by decide +kernel
theorem dX0_passLeases_49 : decode cX0_passLeases 49 = .ok (.putfield 141, 3) := by decide +kernel
theorem dX0_passLeases_52 : decode cX0_passLeases 52 = .ok (.iinc 1 1, 3) := by decide +kernel
theorem dX0_passLeases_55 : decode cX0_passLeases 55 = .ok (.goto (-53), 3) := by decide +kernel
theorem dX0_passLeases_58 : decode cX0_passLeases 58 = .ok (.return_, 1) := by decide +kernel
theorem dX0_nextForLease_0 : decode cX0_nextForLease 0 = .ok (.iconst (-1), 1) := by decide +kernel
theorem dX0_nextForLease_1 : decode cX0_nextForLease 1 = .ok (.istore_n 1, 1) := by decide +kernel
theorem dX0_nextForLease_2 : decode cX0_nextForLease 2 = .ok (.iconst (-1), 1) := by decide +kernel
theorem dX0_nextForLease_3 : decode cX0_nextForLease 3 = .ok (.istore_n 2, 1) := by decide +kernel
theorem dX0_nextForLease_4 : decode cX0_nextForLease 4 = .ok (.iconst 0, 1) := by decide +kernel
theorem dX0_nextForLease_5 : decode cX0_nextForLease 5 = .ok (.istore_n 3, 1) := by decide +kernel
theorem dX0_nextForLease_6 : decode cX0_nextForLease 6 = .ok (.iload_n 3, 1) := by decide +kernel
theorem dX0_nextForLease_7 : decode cX0_nextForLease 7 = .ok (.aload_n 0, 1) := by decide +kernel
theorem dX0_nextForLease_8 : decode cX0_nextForLease 8 = .ok (.getfield 50, 3) := by decide +kernel
theorem dX0_nextForLease_11 : decode cX0_nextForLease 11 = .ok (.if_icmp .ge 62, 3) := by decide +kernel
theorem dX0_nextForLease_14 : decode cX0_nextForLease 14 = .ok (.aload_n 0, 1) := by decide +kernel
theorem dX0_nextForLease_15 : decode cX0_nextForLease 15 = .ok (.getfield 11, 3) := by decide +kernel
theorem dX0_nextForLease_18 : decode cX0_nextForLease 18 = .ok (.iload_n 3, 1) := by decide +kernel
theorem dX0_nextForLease_19 : decode cX0_nextForLease 19 = .ok (.aaload, 1) := by decide +kernel
theorem dX0_nextForLease_20 : decode cX0_nextForLease 20 = .ok (.astore 4, 2) := by decide +kernel
theorem dX0_nextForLease_22 : decode cX0_nextForLease 22 = .ok (.aload 4, 2) := by decide +kernel
theorem dX0_nextForLease_24 : decode cX0_nextForLease 24 = .ok (.aload_n 0, 1) := by decide +kernel
theorem dX0_nextForLease_25 : decode cX0_nextForLease 25 = .ok (.getfield 57, 3) := by decide +kernel
theorem dX0_nextForLease_28 : decode cX0_nextForLease 28 = .ok (.invokevirtual 101, 3) := by decide +kernel
theorem dX0_nextForLease_31 : decode cX0_nextForLease 31 = .ok (.ifCond .eq 36, 3) := by decide +kernel
theorem dX0_nextForLease_34 : decode cX0_nextForLease 34 = .ok (.aload 4, 2) := by decide +kernel
theorem dX0_nextForLease_36 : decode cX0_nextForLease 36 = .ok (.aload_n 0, 1) := by decide +kernel
theorem dX0_nextForLease_37 : decode cX0_nextForLease 37 = .ok (.getfield 57, 3) := by decide +kernel
theorem dX0_nextForLease_40 : decode cX0_nextForLease 40 = .ok (.invokevirtual 82, 3) := by decide +kernel
theorem dX0_nextForLease_43 : decode cX0_nextForLease 43 = .ok (.iload_n 2, 1) := by decide +kernel
theorem dX0_nextForLease_44 : decode cX0_nextForLease 44 = .ok (.if_icmp .le 23, 3) := by decide +kernel
theorem dX0_nextForLease_47 : decode cX0_nextForLease 47 = .ok (.aload_n 0, 1) := by decide +kernel
theorem dX0_nextForLease_48 : decode cX0_nextForLease 48 = .ok (.iload_n 3, 1) := by decide +kernel
theorem dX0_nextForLease_49 : decode cX0_nextForLease 49 = .ok (.invokevirtual 147, 3) := by decide +kernel
theorem dX0_nextForLease_52 : decode cX0_nextForLease 52 = .ok (.ifCond .ne 15, 3) := by decide +kernel
theorem dX0_nextForLease_55 : decode cX0_nextForLease 55 = .ok (.aload 4, 2) := by decide +kernel
theorem dX0_nextForLease_57 : decode cX0_nextForLease 57 = .ok (.aload_n 0, 1) := by decide +kernel
theorem dX0_nextForLease_58 : decode cX0_nextForLease 58 = .ok (.getfield 57, 3) := by decide +kernel
theorem dX0_nextForLease_61 : decode cX0_nextForLease 61 = .ok (.invokevirtual 82, 3) := by decide +kernel
theorem dX0_nextForLease_64 : decode cX0_nextForLease 64 = .ok (.istore_n 2, 1) := by decide +kernel
theorem dX0_nextForLease_65 : decode cX0_nextForLease 65 = .ok (.iload_n 3, 1) := by decide +kernel
theorem dX0_nextForLease_66 : decode cX0_nextForLease 66 = .ok (.istore_n 1, 1) := by decide +kernel
theorem dX0_nextForLease_67 : decode cX0_nextForLease 67 = .ok (.iinc 3 1, 3) := by decide +kernel
theorem dX0_nextForLease_70 : decode cX0_nextForLease 70 = .ok (.goto (-64), 3) := by decide +kernel
theorem dX0_nextForLease_73 : decode cX0_nextForLease 73 = .ok (.iload_n 1, 1) := by decide +kernel
theorem dX0_nextForLease_74 : decode cX0_nextForLease 74 = .ok (.ireturn, 1) := by decide +kernel
theorem dX0_leasesOf_0 : decode cX0_leasesOf 0 = .ok (.iconst 0, 1) := by decide +kernel
theorem dX0_leasesOf_1 : decode cX0_leasesOf 1 = .ok (.istore_n 2, 1) := by decide +kernel
theorem dX0_leasesOf_2 : decode cX0_leasesOf 2 = .ok (.iconst 0, 1) := by decide +kernel
theorem dX0_leasesOf_3 : decode cX0_leasesOf 3 = .ok (.istore_n 3, 1) := by decide +kernel
theorem dX0_leasesOf_4 : decode cX0_leasesOf 4 = .ok (.iload_n 3, 1) := by decide +kernel
theorem dX0_leasesOf_5 : decode cX0_leasesOf 5 = .ok (.aload_n 0, 1) := by decide +kernel
theorem dX0_leasesOf_6 : decode cX0_leasesOf 6 = .ok (.getfield 54, 3) := by decide +kernel
theorem dX0_leasesOf_9 : decode cX0_leasesOf 9 = .ok (.if_icmp .ge 25, 3) := by decide +kernel
theorem dX0_leasesOf_12 : decode cX0_leasesOf 12 = .ok (.aload_n 0, 1) := by decide +kernel
theorem dX0_leasesOf_13 : decode cX0_leasesOf 13 = .ok (.getfield 19, 3) := by decide +kernel
theorem dX0_leasesOf_16 : decode cX0_leasesOf 16 = .ok (.iload_n 3, 1) := by decide +kernel
theorem dX0_leasesOf_17 : decode cX0_leasesOf 17 = .ok (.aaload, 1) := by decide +kernel
theorem dX0_leasesOf_18 : decode cX0_leasesOf 18 = .ok (.getfield 141, 3) := by decide +kernel
theorem dX0_leasesOf_21 : decode cX0_leasesOf 21 = .ok (.iload_n 1, 1) := by decide +kernel
theorem dX0_leasesOf_22 : decode cX0_leasesOf 22 = .ok (.if_icmp .ne 6, 3) := by decide +kernel
theorem dX0_leasesOf_25 : decode cX0_leasesOf 25 = .ok (.iinc 2 1, 3) := by decide +kernel
theorem dX0_leasesOf_28 : decode cX0_leasesOf 28 = .ok (.iinc 3 1, 3) := by decide +kernel
theorem dX0_leasesOf_31 : decode cX0_leasesOf 31 = .ok (.goto (-27), 3) := by decide +kernel
theorem dX0_leasesOf_34 : decode cX0_leasesOf 34 = .ok (.iload_n 2, 1) := by decide +kernel
theorem dX0_leasesOf_35 : decode cX0_leasesOf 35 = .ok (.ireturn, 1) := by decide +kernel
theorem dX0_countLeaps_0 : decode cX0_countLeaps 0 = .ok (.iconst 0, 1) := by decide +kernel
theorem dX0_countLeaps_1 : decode cX0_countLeaps 1 = .ok (.istore_n 3, 1) := by decide +kernel
theorem dX0_countLeaps_2 : decode cX0_countLeaps 2 = .ok (.iconst 0, 1) := by decide +kernel
theorem dX0_countLeaps_3 : decode cX0_countLeaps 3 = .ok (.istore 4, 2) := by decide +kernel
theorem dX0_countLeaps_5 : decode cX0_countLeaps 5 = .ok (.iload 4, 2) := by decide +kernel
theorem dX0_countLeaps_7 : decode cX0_countLeaps 7 = .ok (.aload_n 0, 1) := by decide +kernel
theorem dX0_countLeaps_8 : decode cX0_countLeaps 8 = .ok (.getfield 26, 3) := by decide +kernel
theorem dX0_countLeaps_11 : decode cX0_countLeaps 11 = .ok (.getfield 150, 3) := by decide +kernel
theorem dX0_countLeaps_14 : decode cX0_countLeaps 14 = .ok (.if_icmp .ge 23, 3) := by decide +kernel
theorem dX0_countLeaps_17 : decode cX0_countLeaps 17 = .ok (.aload_n 0, 1) := by decide +kernel
theorem dX0_countLeaps_18 : decode cX0_countLeaps 18 = .ok (.iload 4, 2) := by decide +kernel
theorem dX0_countLeaps_20 : decode cX0_countLeaps 20 = .ok (.iload_n 1, 1) := by decide +kernel
theorem dX0_countLeaps_21 : decode cX0_countLeaps 21 = .ok (.iload_n 2, 1) := by decide +kernel
theorem dX0_countLeaps_22 : decode cX0_countLeaps 22 = .ok (.invokevirtual 153, 3) := by decide +kernel
theorem dX0_countLeaps_25 : decode cX0_countLeaps 25 = .ok (.ifCond .eq 6, 3) := by decide +kernel
theorem dX0_countLeaps_28 : decode cX0_countLeaps 28 = .ok (.iinc 3 1, 3) := by decide +kernel
theorem dX0_countLeaps_31 : decode cX0_countLeaps 31 = .ok (.iinc 4 1, 3) := by decide +kernel
theorem dX0_countLeaps_34 : decode cX0_countLeaps 34 = .ok (.goto (-29), 3) := by decide +kernel
theorem dX0_countLeaps_37 : decode cX0_countLeaps 37 = .ok (.iload_n 3, 1) := by decide +kernel
theorem dX0_countLeaps_38 : decode cX0_countLeaps 38 = .ok (.ireturn, 1) := by decide +kernel
theorem dX0_firstLeap_0 : decode cX0_firstLeap 0 = .ok (.iconst 0, 1) := by decide +kernel
theorem dX0_firstLeap_1 : decode cX0_firstLeap 1 = .ok (.istore_n 3, 1) := by decide +kernel
theorem dX0_firstLeap_2 : decode cX0_firstLeap 2 = .ok (.iload_n 3, 1) := by decide +kernel
theorem dX0_firstLeap_3 : decode cX0_firstLeap 3 = .ok (.aload_n 0, 1) := by decide +kernel
theorem dX0_firstLeap_4 : decode cX0_firstLeap 4 = .ok (.getfield 26, 3) := by decide +kernel
theorem dX0_firstLeap_7 : decode cX0_firstLeap 7 = .ok (.getfield 150, 3) := by decide +kernel
theorem dX0_firstLeap_10 : decode cX0_firstLeap 10 = .ok (.if_icmp .ge 21, 3) := by decide +kernel
theorem dX0_firstLeap_13 : decode cX0_firstLeap 13 = .ok (.aload_n 0, 1) := by decide +kernel
theorem dX0_firstLeap_14 : decode cX0_firstLeap 14 = .ok (.iload_n 3, 1) := by decide +kernel
theorem dX0_firstLeap_15 : decode cX0_firstLeap 15 = .ok (.iload_n 1, 1) := by decide +kernel
theorem dX0_firstLeap_16 : decode cX0_firstLeap 16 = .ok (.iload_n 2, 1) := by decide +kernel
theorem dX0_firstLeap_17 : decode cX0_firstLeap 17 = .ok (.invokevirtual 153, 3) := by decide +kernel
theorem dX0_firstLeap_20 : decode cX0_firstLeap 20 = .ok (.ifCond .eq 5, 3) := by decide +kernel
theorem dX0_firstLeap_23 : decode cX0_firstLeap 23 = .ok (.iload_n 3, 1) := by decide +kernel
theorem dX0_firstLeap_24 : decode cX0_firstLeap 24 = .ok (.ireturn, 1) := by decide +kernel
theorem dX0_firstLeap_25 : decode cX0_firstLeap 25 = .ok (.iinc 3 1, 3) := by decide +kernel
theorem dX0_firstLeap_28 : decode cX0_firstLeap 28 = .ok (.goto (-26), 3) := by decide +kernel
theorem dX0_firstLeap_31 : decode cX0_firstLeap 31 = .ok (.iconst (-1), 1) := by decide +kernel
theorem dX0_firstLeap_32 : decode cX0_firstLeap 32 = .ok (.ireturn, 1) := by decide +kernel
theorem dX0_isLeap_0 : decode cX0_isLeap 0 = .ok (.aload_n 0, 1) := by decide +kernel
theorem dX0_isLeap_1 : decode cX0_isLeap 1 = .ok (.aload_n 0, 1) := by decide +kernel
theorem dX0_isLeap_2 : decode cX0_isLeap 2 = .ok (.getfield 26, 3) := by decide +kernel
theorem dX0_isLeap_5 : decode cX0_isLeap 5 = .ok (.iload_n 1, 1) := by decide +kernel
theorem dX0_isLeap_6 : decode cX0_isLeap 6 = .ok (.iconst 1, 1) := by decide +kernel
theorem dX0_isLeap_7 : decode cX0_isLeap 7 = .ok (.invokevirtual 156, 3) := by decide +kernel
theorem dX0_isLeap_10 : decode cX0_isLeap 10 = .ok (.invokevirtual 75, 3) := by decide +kernel
theorem dX0_isLeap_13 : decode cX0_isLeap 13 = .ok (.astore 4, 2) := by decide +kernel
theorem dX0_isLeap_15 : decode cX0_isLeap 15 = .ok (.aload 4, 2) := by decide +kernel
theorem dX0_isLeap_17 : decode cX0_isLeap 17 = .ok (.ifnull 28, 3) := by decide +kernel
theorem dX0_isLeap_20 : decode cX0_isLeap 20 = .ok (.aload 4, 2) := by decide +kernel
theorem dX0_isLeap_22 : decode cX0_isLeap 22 = .ok (.getfield 98, 3) := by decide +kernel
theorem dX0_isLeap_25 : decode cX0_isLeap 25 = .ok (.iload_n 2, 1) := by decide +kernel
theorem dX0_isLeap_26 : decode cX0_isLeap 26 = .ok (.if_icmp .ne 19, 3) := by decide +kernel
theorem dX0_isLeap_29 : decode cX0_isLeap 29 = .ok (.aload_n 0, 1) := by decide +kernel
theorem dX0_isLeap_30 : decode cX0_isLeap 30 = .ok (.getfield 26, 3) := by decide +kernel
theorem dX0_isLeap_33 : decode cX0_isLeap 33 = .ok (.iload_n 1, 1) := by decide +kernel
theorem dX0_isLeap_34 : decode cX0_isLeap 34 = .ok (.invokevirtual 160, 3) := by decide +kernel
theorem dX0_isLeap_37 : decode cX0_isLeap 37 = .ok (.iload_n 3, 1) := by decide +kernel
theorem dX0_isLeap_38 : decode cX0_isLeap 38 = .ok (.if_icmp .lt 7, 3) := by decide +kernel
theorem dX0_isLeap_41 : decode cX0_isLeap 41 = .ok (.iconst 1, 1) := by decide +kernel
theorem dX0_isLeap_42 : decode cX0_isLeap 42 = .ok (.goto 4, 3) := by decide +kernel
theorem dX0_isLeap_45 : decode cX0_isLeap 45 = .ok (.iconst 0, 1) := by decide +kernel
theorem dX0_isLeap_46 : decode cX0_isLeap 46 = .ok (.ireturn, 1) := by decide +kernel
theorem dX0_copyFrom_0 : decode cX0_copyFrom 0 = .ok (.iconst 0, 1) := by decide +kernel
theorem dX0_copyFrom_1 : decode cX0_copyFrom 1 = .ok (.istore_n 2, 1) := by decide +kernel
theorem dX0_copyFrom_2 : decode cX0_copyFrom 2 = .ok (.iload_n 2, 1) := by decide +kernel
theorem dX0_copyFrom_3 : decode cX0_copyFrom 3 = .ok (.bipush 12, 2) := by decide +kernel
theorem dX0_copyFrom_5 : decode cX0_copyFrom 5 = .ok (.if_icmp .ge 24, 3) := by decide +kernel
theorem dX0_copyFrom_8 : decode cX0_copyFrom 8 = .ok (.aload_n 0, 1) := by decide +kernel
theorem dX0_copyFrom_9 : decode cX0_copyFrom 9 = .ok (.getfield 11, 3) := by decide +kernel
theorem dX0_copyFrom_12 : decode cX0_copyFrom 12 = .ok (.iload_n 2, 1) := by decide +kernel
theorem dX0_copyFrom_13 : decode cX0_copyFrom 13 = .ok (.aaload, 1) := by decide +kernel
theorem dX0_copyFrom_14 : decode cX0_copyFrom 14 = .ok (.aload_n 1, 1) := by decide +kernel
theorem dX0_copyFrom_15 : decode cX0_copyFrom 15 = .ok (.getfield 11, 3) := by decide +kernel
theorem dX0_copyFrom_18 : decode cX0_copyFrom 18 = .ok (.iload_n 2, 1) := by decide +kernel
theorem dX0_copyFrom_19 : decode cX0_copyFrom 19 = .ok (.aaload, 1) := by decide +kernel
theorem dX0_copyFrom_20 : decode cX0_copyFrom 20 = .ok (.invokevirtual 163, 3) := by decide +kernel
theorem dX0_copyFrom_23 : decode cX0_copyFrom 23 = .ok (.iinc 2 1, 3) := by decide +kernel
theorem dX0_copyFrom_26 : decode cX0_copyFrom 26 = .ok (.goto (-24), 3) := by decide +kernel
theorem dX0_copyFrom_29 : decode cX0_copyFrom 29 = .ok (.iconst 0, 1) := by decide +kernel
theorem dX0_copyFrom_30 : decode cX0_copyFrom 30 = .ok (.istore_n 2, 1) := by decide +kernel
theorem dX0_copyFrom_31 : decode cX0_copyFrom 31 = .ok (.iload_n 2, 1) := by decide +kernel
theorem dX0_copyFrom_32 : decode cX0_copyFrom 32 = .ok (.bipush 12, 2) := by decide +kernel
theorem dX0_copyFrom_34 : decode cX0_copyFrom 34 = .ok (.if_icmp .ge 24, 3) := by decide +kernel
theorem dX0_copyFrom_37 : decode cX0_copyFrom 37 = .ok (.aload_n 0, 1) := by decide +kernel
theorem dX0_copyFrom_38 : decode cX0_copyFrom 38 = .ok (.getfield 19, 3) := by decide +kernel
theorem dX0_copyFrom_41 : decode cX0_copyFrom 41 = .ok (.iload_n 2, 1) := by decide +kernel
theorem dX0_copyFrom_42 : decode cX0_copyFrom 42 = .ok (.aaload, 1) := by decide +kernel
theorem dX0_copyFrom_43 : decode cX0_copyFrom 43 = .ok (.aload_n 1, 1) := by decide +kernel
theorem dX0_copyFrom_44 : decode cX0_copyFrom 44 = .ok (.getfield 19, 3) := by decide +kernel
theorem dX0_copyFrom_47 : decode cX0_copyFrom 47 = .ok (.iload_n 2, 1) := by decide +kernel
theorem dX0_copyFrom_48 : decode cX0_copyFrom 48 = .ok (.aaload, 1) := by decide +kernel
theorem dX0_copyFrom_49 : decode cX0_copyFrom 49 = .ok (.invokevirtual 167, 3) := by decide +kernel
theorem dX0_copyFrom_52 : decode cX0_copyFrom 52 = .ok (.iinc 2 1, 3) := by decide +kernel
theorem dX0_copyFrom_55 : decode cX0_copyFrom 55 = .ok (.goto (-24), 3) := by decide +kernel
theorem dX0_copyFrom_58 : decode cX0_copyFrom 58 = .ok (.aload_n 0, 1) := by decide +kernel
theorem dX0_copyFrom_59 : decode cX0_copyFrom 59 = .ok (.getfield 26, 3) := by decide +kernel
theorem dX0_copyFrom_62 : decode cX0_copyFrom 62 = .ok (.aload_n 1, 1) := by decide +kernel
theorem dX0_copyFrom_63 : decode cX0_copyFrom 63 = .ok (.getfield 26, 3) := by decide +kernel
theorem dX0_copyFrom_66 : decode cX0_copyFrom 66 = .ok (.invokevirtual 170, 3) := by decide +kernel
theorem dX0_copyFrom_69 : decode cX0_copyFrom 69 = .ok (.aload_n 0, 1) := by decide +kernel
theorem dX0_copyFrom_70 : decode cX0_copyFrom 70 = .ok (.getfield 33, 3) := by decide +kernel
theorem dX0_copyFrom_73 : decode cX0_copyFrom 73 = .ok (.aload_n 1, 1) := by decide +kernel
theorem dX0_copyFrom_74 : decode cX0_copyFrom 74 = .ok (.getfield 33, 3) := by decide +kernel
theorem dX0_copyFrom_77 : decode cX0_copyFrom 77 = .ok (.invokevirtual 173, 3) := by decide +kernel
theorem dX0_copyFrom_80 : decode cX0_copyFrom 80 = .ok (.aload_n 0, 1) := by decide +kernel
theorem dX0_copyFrom_81 : decode cX0_copyFrom 81 = .ok (.getfield 40, 3) := by decide +kernel
theorem dX0_copyFrom_84 : decode cX0_copyFrom 84 = .ok (.aload_n 1, 1) := by decide +kernel
theorem dX0_copyFrom_85 : decode cX0_copyFrom 85 = .ok (.getfield 40, 3) := by decide +kernel
theorem dX0_copyFrom_88 : decode cX0_copyFrom 88 = .ok (.invokevirtual 176, 3) := by decide +kernel
theorem dX0_copyFrom_91 : decode cX0_copyFrom 91 = .ok (.aload_n 0, 1) := by decide +kernel
theorem dX0_copyFrom_92 : decode cX0_copyFrom 92 = .ok (.aload_n 1, 1) := by decide +kernel
theorem dX0_copyFrom_93 : decode cX0_copyFrom 93 = .ok (.getfield 50, 3) := by decide +kernel
theorem dX0_copyFrom_96 : decode cX0_copyFrom 96 = .ok (.putfield 50, 3) := by decide +kernel
theorem dX0_copyFrom_99 : decode cX0_copyFrom 99 = .ok (.aload_n 0, 1) := by decide +kernel
theorem dX0_copyFrom_100 : decode cX0_copyFrom 100 = .ok (.aload_n 1, 1) := by decide +kernel
theorem dX0_copyFrom_101 : decode cX0_copyFrom 101 = .ok (.getfield 54, 3) := by decide +kernel
theorem dX0_copyFrom_104 : decode cX0_copyFrom 104 = .ok (.putfield 54, 3) := by decide +kernel
theorem dX0_copyFrom_107 : decode cX0_copyFrom 107 = .ok (.aload_n 0, 1) := by decide +kernel
theorem dX0_copyFrom_108 : decode cX0_copyFrom 108 = .ok (.aload_n 1, 1) := by decide +kernel
theorem dX0_copyFrom_109 : decode cX0_copyFrom 109 = .ok (.getfield 57, 3) := by decide +kernel
theorem dX0_copyFrom_112 : decode cX0_copyFrom 112 = .ok (.putfield 57, 3) := by decide +kernel
theorem dX0_copyFrom_115 : decode cX0_copyFrom 115 = .ok (.aload_n 0, 1) := by decide +kernel
theorem dX0_copyFrom_116 : decode cX0_copyFrom 116 = .ok (.aload_n 1, 1) := by decide +kernel
theorem dX0_copyFrom_117 : decode cX0_copyFrom 117 = .ok (.getfield 60, 3) := by decide +kernel
theorem dX0_copyFrom_120 : decode cX0_copyFrom 120 = .ok (.putfield 60, 3) := by decide +kernel
theorem dX0_copyFrom_123 : decode cX0_copyFrom 123 = .ok (.aload_n 0, 1) := by decide +kernel
theorem dX0_copyFrom_124 : decode cX0_copyFrom 124 = .ok (.aload_n 1, 1) := by decide +kernel
theorem dX0_copyFrom_125 : decode cX0_copyFrom 125 = .ok (.getfield 63, 3) := by decide +kernel
theorem dX0_copyFrom_128 : decode cX0_copyFrom 128 = .ok (.putfield 63, 3) := by decide +kernel
theorem dX0_copyFrom_131 : decode cX0_copyFrom 131 = .ok (.return_, 1) := by decide +kernel
theorem dX1_init_0 : decode cX1_init 0 = .ok (.aload_n 0, 1) := by decide +kernel
theorem dX1_init_1 : decode cX1_init 1 = .ok (.invokespecial 3, 3) := by decide +kernel
theorem dX1_init_4 : decode cX1_init 4 = .ok (.aload_n 0, 1) := by decide +kernel
theorem dX1_init_5 : decode cX1_init 5 = .ok (.sipush 600, 3) := by decide +kernel
theorem dX1_init_8 : decode cX1_init 8 = .ok (.newarray .int, 2) := by decide +kernel
theorem dX1_init_10 : decode cX1_init 10 = .ok (.putfield 11, 3) := by decide +kernel
theorem dX1_init_13 : decode cX1_init 13 = .ok (.aload_n 0, 1) := by decide +kernel
theorem dX1_init_14 : decode cX1_init 14 = .ok (.iconst 0, 1) := by decide +kernel
theorem dX1_init_15 : decode cX1_init 15 = .ok (.putfield 15, 3) := by decide +kernel
theorem dX1_init_18 : decode cX1_init 18 = .ok (.return_, 1) := by decide +kernel
theorem dX1_hasRoom_0 : decode cX1_hasRoom 0 = .ok (.aload_n 0, 1) := by decide +kernel
theorem dX1_hasRoom_1 : decode cX1_hasRoom 1 = .ok (.getfield 15, 3) := by decide +kernel
theorem dX1_hasRoom_4 : decode cX1_hasRoom 4 = .ok (.bipush 120, 2) := by decide +kernel
theorem dX1_hasRoom_6 : decode cX1_hasRoom 6 = .ok (.if_icmp .ge 7, 3) := by decide +kernel
theorem dX1_hasRoom_9 : decode cX1_hasRoom 9 = .ok (.iconst 1, 1) := by decide +kernel
theorem dX1_hasRoom_10 : decode cX1_hasRoom 10 = .ok (.goto 4, 3) := by decide +kernel
theorem dX1_hasRoom_13 : decode cX1_hasRoom 13 = .ok (.iconst 0, 1) := by decide +kernel
theorem dX1_hasRoom_14 : decode cX1_hasRoom 14 = .ok (.ireturn, 1) := by decide +kernel
theorem dX1_write_0 : decode cX1_write 0 = .ok (.aload_n 0, 1) := by decide +kernel
theorem dX1_write_1 : decode cX1_write 1 = .ok (.invokevirtual 19, 3) := by decide +kernel
theorem dX1_write_4 : decode cX1_write 4 = .ok (.ifCond .ne 4, 3) := by decide +kernel
theorem dX1_write_7 : decode cX1_write 7 = .ok (.return_, 1) := by decide +kernel
theorem dX1_write_8 : decode cX1_write 8 = .ok (.aload_n 0, 1) := by decide +kernel
theorem dX1_write_9 : decode cX1_write 9 = .ok (.getfield 15, 3) := by decide +kernel
theorem dX1_write_12 : decode cX1_write 12 = .ok (.iconst 5, 1) := by decide +kernel
theorem dX1_write_13 : decode cX1_write 13 = .ok (.imul, 1) := by decide +kernel
theorem dX1_write_14 : decode cX1_write 14 = .ok (.istore 6, 2) := by decide +kernel
theorem dX1_write_16 : decode cX1_write 16 = .ok (.aload_n 0, 1) := by decide +kernel
theorem dX1_write_17 : decode cX1_write 17 = .ok (.getfield 11, 3) := by decide +kernel
theorem dX1_write_20 : decode cX1_write 20 = .ok (.iload 6, 2) := by decide +kernel
theorem dX1_write_22 : decode cX1_write 22 = .ok (.iload_n 1, 1) := by decide +kernel
theorem dX1_write_23 : decode cX1_write 23 = .ok (.iastore, 1) := by decide +kernel
theorem dX1_write_24 : decode cX1_write 24 = .ok (.aload_n 0, 1) := by decide +kernel
theorem dX1_write_25 : decode cX1_write 25 = .ok (.getfield 11, 3) := by decide +kernel
theorem dX1_write_28 : decode cX1_write 28 = .ok (.iload 6, 2) := by decide +kernel
theorem dX1_write_30 : decode cX1_write 30 = .ok (.iconst 1, 1) := by decide +kernel
theorem dX1_write_31 : decode cX1_write 31 = .ok (.iadd, 1) := by decide +kernel
theorem dX1_write_32 : decode cX1_write 32 = .ok (.iload_n 2, 1) := by decide +kernel
theorem dX1_write_33 : decode cX1_write 33 = .ok (.iastore, 1) := by decide +kernel
theorem dX1_write_34 : decode cX1_write 34 = .ok (.aload_n 0, 1) := by decide +kernel
theorem dX1_write_35 : decode cX1_write 35 = .ok (.getfield 11, 3) := by decide +kernel
theorem dX1_write_38 : decode cX1_write 38 = .ok (.iload 6, 2) := by decide +kernel
theorem dX1_write_40 : decode cX1_write 40 = .ok (.iconst 2, 1) := by decide +kernel
theorem dX1_write_41 : decode cX1_write 41 = .ok (.iadd, 1) := by decide +kernel
theorem dX1_write_42 : decode cX1_write 42 = .ok (.iload_n 3, 1) := by decide +kernel
theorem dX1_write_43 : decode cX1_write 43 = .ok (.iastore, 1) := by decide +kernel
theorem dX1_write_44 : decode cX1_write 44 = .ok (.aload_n 0, 1) := by decide +kernel
theorem dX1_write_45 : decode cX1_write 45 = .ok (.getfield 11, 3) := by decide +kernel
theorem dX1_write_48 : decode cX1_write 48 = .ok (.iload 6, 2) := by decide +kernel
theorem dX1_write_50 : decode cX1_write 50 = .ok (.iconst 3, 1) := by decide +kernel
theorem dX1_write_51 : decode cX1_write 51 = .ok (.iadd, 1) := by decide +kernel
theorem dX1_write_52 : decode cX1_write 52 = .ok (.iload 4, 2) := by decide +kernel
theorem dX1_write_54 : decode cX1_write 54 = .ok (.iastore, 1) := by decide +kernel
theorem dX1_write_55 : decode cX1_write 55 = .ok (.aload_n 0, 1) := by decide +kernel
theorem dX1_write_56 : decode cX1_write 56 = .ok (.getfield 11, 3) := by decide +kernel
theorem dX1_write_59 : decode cX1_write 59 = .ok (.iload 6, 2) := by decide +kernel
theorem dX1_write_61 : decode cX1_write 61 = .ok (.iconst 4, 1) := by decide +kernel
theorem dX1_write_62 : decode cX1_write 62 = .ok (.iadd, 1) := by decide +kernel
theorem dX1_write_63 : decode cX1_write 63 = .ok (.iload 5, 2) := by decide +kernel
theorem dX1_write_65 : decode cX1_write 65 = .ok (.iastore, 1) := by decide +kernel
theorem dX1_write_66 : decode cX1_write 66 = .ok (.aload_n 0, 1) := by decide +kernel
theorem dX1_write_67 : decode cX1_write 67 = .ok (.dup, 1) := by decide +kernel
theorem dX1_write_68 : decode cX1_write 68 = .ok (.getfield 15, 3) := by decide +kernel
theorem dX1_write_71 : decode cX1_write 71 = .ok (.iconst 1, 1) := by decide +kernel
theorem dX1_write_72 : decode cX1_write 72 = .ok (.iadd, 1) := by decide +kernel
theorem dX1_write_73 : decode cX1_write 73 = .ok (.putfield 15, 3) := by decide +kernel
theorem dX1_write_76 : decode cX1_write 76 = .ok (.return_, 1) := by decide +kernel
theorem dX1_dropLast_0 : decode cX1_dropLast 0 = .ok (.aload_n 0, 1) := by decide +kernel
theorem dX1_dropLast_1 : decode cX1_dropLast 1 = .ok (.getfield 15, 3) := by decide +kernel
theorem dX1_dropLast_4 : decode cX1_dropLast 4 = .ok (.ifCond .le 13, 3) := by decide +kernel
theorem dX1_dropLast_7 : decode cX1_dropLast 7 = .ok (.aload_n 0, 1) := by decide +kernel
theorem dX1_dropLast_8 : decode cX1_dropLast 8 = .ok (.dup, 1) := by decide +kernel
theorem dX1_dropLast_9 : decode cX1_dropLast 9 = .ok (.getfield 15, 3) := by decide +kernel
theorem dX1_dropLast_12 : decode cX1_dropLast 12 = .ok (.iconst 1, 1) := by decide +kernel
theorem dX1_dropLast_13 : decode cX1_dropLast 13 = .ok (.isub, 1) := by decide +kernel
theorem dX1_dropLast_14 : decode cX1_dropLast 14 = .ok (.putfield 15, 3) := by decide +kernel
theorem dX1_dropLast_17 : decode cX1_dropLast 17 = .ok (.return_, 1) := by decide +kernel
theorem dX1_entry_0 : decode cX1_entry 0 = .ok (.iload_n 1, 1) := by decide +kernel
theorem dX1_entry_1 : decode cX1_entry 1 = .ok (.iconst 0, 1) := by decide +kernel
theorem dX1_entry_2 : decode cX1_entry 2 = .ok (.aload_n 0, 1) := by decide +kernel
theorem dX1_entry_3 : decode cX1_entry 3 = .ok (.getfield 15, 3) := by decide +kernel
theorem dX1_entry_6 : decode cX1_entry 6 = .ok (.iconst 1, 1) := by decide +kernel
theorem dX1_entry_7 : decode cX1_entry 7 = .ok (.isub, 1) := by decide +kernel
theorem dX1_entry_8 : decode cX1_entry 8 = .ok (.invokestatic 23, 3) := by decide +kernel
theorem dX1_entry_11 : decode cX1_entry 11 = .ok (.ifCond .eq 16, 3) := by decide +kernel
theorem dX1_entry_14 : decode cX1_entry 14 = .ok (.iload_n 2, 1) := by decide +kernel
theorem dX1_entry_15 : decode cX1_entry 15 = .ok (.iconst 0, 1) := by decide +kernel
theorem dX1_entry_16 : decode cX1_entry 16 = .ok (.iconst 4, 1) := by decide +kernel
theorem dX1_entry_17 : decode cX1_entry 17 = .ok (.invokestatic 23, 3) := by decide +kernel
theorem dX1_entry_20 : decode cX1_entry 20 = .ok (.ifCond .eq 7, 3) := by decide +kernel
theorem dX1_entry_23 : decode cX1_entry 23 = .ok (.iconst 1, 1) := by decide +kernel
theorem dX1_entry_24 : decode cX1_entry 24 = .ok (.goto 4, 3) := by decide +kernel
theorem dX1_entry_27 : decode cX1_entry 27 = .ok (.iconst 0, 1) := by decide +kernel
theorem dX1_entry_28 : decode cX1_entry 28 = .ok (.istore_n 3, 1) := by decide +kernel
theorem dX1_entry_29 : decode cX1_entry 29 = .ok (.iload_n 3, 1) := by decide +kernel
theorem dX1_entry_30 : decode cX1_entry 30 = .ok (.ifCond .eq 16, 3) := by decide +kernel
theorem dX1_entry_33 : decode cX1_entry 33 = .ok (.aload_n 0, 1) := by decide +kernel
theorem dX1_entry_34 : decode cX1_entry 34 = .ok (.getfield 11, 3) := by decide +kernel
theorem dX1_entry_37 : decode cX1_entry 37 = .ok (.iload_n 1, 1) := by decide +kernel
theorem dX1_entry_38 : decode cX1_entry 38 = .ok (.iconst 5, 1) := by decide +kernel
theorem dX1_entry_39 : decode cX1_entry 39 = .ok (.imul, 1) := by decide +kernel
theorem dX1_entry_40 : decode cX1_entry 40 = .ok (.iload_n 2, 1) := by decide +kernel
theorem dX1_entry_41 : decode cX1_entry 41 = .ok (.iadd, 1) := by decide +kernel
theorem dX1_entry_42 : decode cX1_entry 42 = .ok (.iaload, 1) := by decide +kernel
theorem dX1_entry_43 : decode cX1_entry 43 = .ok (.goto 4, 3) := by decide +kernel
theorem dX1_entry_46 : decode cX1_entry 46 = .ok (.iconst (-1), 1) := by decide +kernel
theorem dX1_entry_47 : decode cX1_entry 47 = .ok (.ireturn, 1) := by decide +kernel
theorem dX1_leapOf_0 : decode cX1_leapOf 0 = .ok (.aload_n 0, 1) := by decide +kernel
theorem dX1_leapOf_1 : decode cX1_leapOf 1 = .ok (.iload_n 1, 1) := by decide +kernel
theorem dX1_leapOf_2 : decode cX1_leapOf 2 = .ok (.iconst 4, 1) := by decide +kernel
theorem dX1_leapOf_3 : decode cX1_leapOf 3 = .ok (.invokevirtual 27, 3) := by decide +kernel
theorem dX1_leapOf_6 : decode cX1_leapOf 6 = .ok (.aload_n 0, 1) := by decide +kernel
theorem dX1_leapOf_7 : decode cX1_leapOf 7 = .ok (.iload_n 1, 1) := by decide +kernel
theorem dX1_leapOf_8 : decode cX1_leapOf 8 = .ok (.iconst 3, 1) := by decide +kernel
theorem dX1_leapOf_9 : decode cX1_leapOf 9 = .ok (.invokevirtual 27, 3) := by decide +kernel
theorem dX1_leapOf_12 : decode cX1_leapOf 12 = .ok (.isub, 1) := by decide +kernel
theorem dX1_leapOf_13 : decode cX1_leapOf 13 = .ok (.invokestatic 31, 3) := by decide +kernel
theorem dX1_leapOf_16 : decode cX1_leapOf 16 = .ok (.ireturn, 1) := by decide +kernel
theorem dX1_copyFrom_0 : decode cX1_copyFrom 0 = .ok (.aload_n 1, 1) := by decide +kernel
theorem dX1_copyFrom_1 : decode cX1_copyFrom 1 = .ok (.getfield 11, 3) := by decide +kernel
theorem dX1_copyFrom_4 : decode cX1_copyFrom 4 = .ok (.iconst 0, 1) := by decide +kernel
theorem dX1_copyFrom_5 : decode cX1_copyFrom 5 = .ok (.aload_n 0, 1) := by decide +kernel
theorem dX1_copyFrom_6 : decode cX1_copyFrom 6 = .ok (.getfield 11, 3) := by decide +kernel
theorem dX1_copyFrom_9 : decode cX1_copyFrom 9 = .ok (.iconst 0, 1) := by decide +kernel
theorem dX1_copyFrom_10 : decode cX1_copyFrom 10 = .ok (.sipush 600, 3) := by decide +kernel
theorem dX1_copyFrom_13 : decode cX1_copyFrom 13 = .ok (.invokestatic 37, 3) := by decide +kernel
theorem dX1_copyFrom_16 : decode cX1_copyFrom 16 = .ok (.aload_n 0, 1) := by decide +kernel
theorem dX1_copyFrom_17 : decode cX1_copyFrom 17 = .ok (.aload_n 1, 1) := by decide +kernel
theorem dX1_copyFrom_18 : decode cX1_copyFrom 18 = .ok (.getfield 15, 3) := by decide +kernel
theorem dX1_copyFrom_21 : decode cX1_copyFrom 21 = .ok (.putfield 15, 3) := by decide +kernel
theorem dX1_copyFrom_24 : decode cX1_copyFrom 24 = .ok (.return_, 1) := by decide +kernel
theorem dX2_init_0 : decode cX2_init 0 = .ok (.aload_n 0, 1) := by decide +kernel
theorem dX2_init_1 : decode cX2_init 1 = .ok (.invokespecial 3, 3) := by decide +kernel
theorem dX2_init_4 : decode cX2_init 4 = .ok (.aload_n 0, 1) := by decide +kernel
theorem dX2_init_5 : decode cX2_init 5 = .ok (.bipush 6, 2) := by decide +kernel
theorem dX2_init_7 : decode cX2_init 7 = .ok (.newarray .int, 2) := by decide +kernel
theorem dX2_init_9 : decode cX2_init 9 = .ok (.putfield 11, 3) := by decide +kernel
theorem dX2_init_12 : decode cX2_init 12 = .ok (.aload_n 0, 1) := by decide +kernel
theorem dX2_init_13 : decode cX2_init 13 = .ok (.bipush 6, 2) := by decide +kernel
theorem dX2_init_15 : decode cX2_init 15 = .ok (.newarray .int, 2) := by decide +kernel
theorem dX2_init_17 : decode cX2_init 17 = .ok (.putfield 15, 3) := by decide +kernel
theorem dX2_init_20 : decode cX2_init 20 = .ok (.aload_n 0, 1) := by decide +kernel
theorem dX2_init_21 : decode cX2_init 21 = .ok (.bipush 6, 2) := by decide +kernel
theorem dX2_init_23 : decode cX2_init 23 = .ok (.newarray .int, 2) := by decide +kernel
theorem dX2_init_25 : decode cX2_init 25 = .ok (.putfield 18, 3) := by decide +kernel
theorem dX2_init_28 : decode cX2_init 28 = .ok (.aload_n 0, 1) := by decide +kernel
theorem dX2_init_29 : decode cX2_init 29 = .ok (.bipush 6, 2) := by decide +kernel
theorem dX2_init_31 : decode cX2_init 31 = .ok (.newarray .int, 2) := by decide +kernel
theorem dX2_init_33 : decode cX2_init 33 = .ok (.putfield 21, 3) := by decide +kernel
theorem dX2_init_36 : decode cX2_init 36 = .ok (.aload_n 0, 1) := by decide +kernel
theorem dX2_init_37 : decode cX2_init 37 = .ok (.iconst 0, 1) := by decide +kernel
theorem dX2_init_38 : decode cX2_init 38 = .ok (.putfield 24, 3) := by decide +kernel
theorem dX2_init_41 : decode cX2_init 41 = .ok (.return_, 1) := by decide +kernel
theorem dX2_hasRoom_0 : decode cX2_hasRoom 0 = .ok (.aload_n 0, 1) := by decide +kernel
theorem dX2_hasRoom_1 : decode cX2_hasRoom 1 = .ok (.getfield 24, 3) := by decide +kernel
theorem dX2_hasRoom_4 : decode cX2_hasRoom 4 = .ok (.bipush 6, 2) := by decide +kernel
theorem dX2_hasRoom_6 : decode cX2_hasRoom 6 = .ok (.if_icmp .ge 7, 3) := by decide +kernel
theorem dX2_hasRoom_9 : decode cX2_hasRoom 9 = .ok (.iconst 1, 1) := by decide +kernel
theorem dX2_hasRoom_10 : decode cX2_hasRoom 10 = .ok (.goto 4, 3) := by decide +kernel
theorem dX2_hasRoom_13 : decode cX2_hasRoom 13 = .ok (.iconst 0, 1) := by decide +kernel
theorem dX2_hasRoom_14 : decode cX2_hasRoom 14 = .ok (.ireturn, 1) := by decide +kernel
theorem dX2_add_0 : decode cX2_add 0 = .ok (.aload_n 0, 1) := by decide +kernel
theorem dX2_add_1 : decode cX2_add 1 = .ok (.invokevirtual 28, 3) := by decide +kernel
theorem dX2_add_4 : decode cX2_add 4 = .ok (.ifCond .ne 5, 3) := by decide +kernel
theorem dX2_add_7 : decode cX2_add 7 = .ok (.iconst (-1), 1) := by decide +kernel
theorem dX2_add_8 : decode cX2_add 8 = .ok (.ireturn, 1) := by decide +kernel
theorem dX2_add_9 : decode cX2_add 9 = .ok (.aload_n 0, 1) := by decide +kernel
theorem dX2_add_10 : decode cX2_add 10 = .ok (.getfield 11, 3) := by decide +kernel
theorem dX2_add_13 : decode cX2_add 13 = .ok (.aload_n 0, 1) := by decide +kernel
theorem dX2_add_14 : decode cX2_add 14 = .ok (.getfield 24, 3) := by decide +kernel
theorem dX2_add_17 : decode cX2_add 17 = .ok (.iload_n 1, 1) := by decide +kernel
theorem dX2_add_18 : decode cX2_add 18 = .ok (.iastore, 1) := by decide +kernel
theorem dX2_add_19 : decode cX2_add 19 = .ok (.aload_n 0, 1) := by decide +kernel
theorem dX2_add_20 : decode cX2_add 20 = .ok (.getfield 15, 3) := by decide +kernel
theorem dX2_add_23 : decode cX2_add 23 = .ok (.aload_n 0, 1) := by decide +kernel
theorem dX2_add_24 : decode cX2_add 24 = .ok (.getfield 24, 3) := by decide +kernel
theorem dX2_add_27 : decode cX2_add 27 = .ok (.iload_n 2, 1) := by decide +kernel
theorem dX2_add_28 : decode cX2_add 28 = .ok (.iastore, 1) := by decide +kernel
theorem dX2_add_29 : decode cX2_add 29 = .ok (.aload_n 0, 1) := by decide +kernel
theorem dX2_add_30 : decode cX2_add 30 = .ok (.getfield 18, 3) := by decide +kernel
theorem dX2_add_33 : decode cX2_add 33 = .ok (.aload_n 0, 1) := by decide +kernel
theorem dX2_add_34 : decode cX2_add 34 = .ok (.getfield 24, 3) := by decide +kernel
theorem dX2_add_37 : decode cX2_add 37 = .ok (.iload_n 3, 1) := by decide +kernel
theorem dX2_add_38 : decode cX2_add 38 = .ok (.iastore, 1) := by decide +kernel
theorem dX2_add_39 : decode cX2_add 39 = .ok (.aload_n 0, 1) := by decide +kernel
theorem dX2_add_40 : decode cX2_add 40 = .ok (.getfield 21, 3) := by decide +kernel
theorem dX2_add_43 : decode cX2_add 43 = .ok (.aload_n 0, 1) := by decide +kernel
theorem dX2_add_44 : decode cX2_add 44 = .ok (.getfield 24, 3) := by decide +kernel
theorem dX2_add_47 : decode cX2_add 47 = .ok (.iload 4, 2) := by decide +kernel
theorem dX2_add_49 : decode cX2_add 49 = .ok (.iastore, 1) := by decide +kernel
theorem dX2_add_50 : decode cX2_add 50 = .ok (.aload_n 0, 1) := by decide +kernel
theorem dX2_add_51 : decode cX2_add 51 = .ok (.dup, 1) := by decide +kernel
theorem dX2_add_52 : decode cX2_add 52 = .ok (.getfield 24, 3) := by decide +kernel
theorem dX2_add_55 : decode cX2_add 55 = .ok (.iconst 1, 1) := by decide +kernel
theorem dX2_add_56 : decode cX2_add 56 = .ok (.iadd, 1) := by decide +kernel
theorem dX2_add_57 : decode cX2_add 57 = .ok (.putfield 24, 3) := by decide +kernel
theorem dX2_add_60 : decode cX2_add 60 = .ok (.aload_n 0, 1) := by decide +kernel
theorem dX2_add_61 : decode cX2_add 61 = .ok (.getfield 24, 3) := by decide +kernel
theorem dX2_add_64 : decode cX2_add 64 = .ok (.iconst 1, 1) := by decide +kernel
theorem dX2_add_65 : decode cX2_add 65 = .ok (.isub, 1) := by decide +kernel
theorem dX2_add_66 : decode cX2_add 66 = .ok (.ireturn, 1) := by decide +kernel
theorem dX2_anyWentBy_0 : decode cX2_anyWentBy 0 = .ok (.iconst 0, 1) := by decide +kernel
theorem dX2_anyWentBy_1 : decode cX2_anyWentBy 1 = .ok (.istore_n 2, 1) := by decide +kernel
theorem dX2_anyWentBy_2 : decode cX2_anyWentBy 2 = .ok (.iload_n 2, 1) := by decide +kernel
theorem dX2_anyWentBy_3 : decode cX2_anyWentBy 3 = .ok (.aload_n 0, 1) := by decide +kernel
theorem dX2_anyWentBy_4 : decode cX2_anyWentBy 4 = .ok (.getfield 24, 3) := by decide +kernel
theorem dX2_anyWentBy_7 : decode cX2_anyWentBy 7 = .ok (.if_icmp .ge 21, 3) := by decide +kernel
theorem dX2_anyWentBy_10 : decode cX2_anyWentBy 10 = .ok (.aload_n 0, 1) := by decide +kernel
theorem dX2_anyWentBy_11 : decode cX2_anyWentBy 11 = .ok (.getfield 15, 3) := by decide +kernel
theorem dX2_anyWentBy_14 : decode cX2_anyWentBy 14 = .ok (.iload_n 2, 1) := by decide +kernel
theorem dX2_anyWentBy_15 : decode cX2_anyWentBy 15 = .ok (.iaload, 1) := by decide +kernel
theorem dX2_anyWentBy_16 : decode cX2_anyWentBy 16 = .ok (.iload_n 1, 1) := by decide +kernel
theorem dX2_anyWentBy_17 : decode cX2_anyWentBy 17 = .ok (.if_icmp .ge 5, 3) := by decide +kernel
theorem dX2_anyWentBy_20 : decode cX2_anyWentBy 20 = .ok (.iconst 1, 1) := by decide +kernel
theorem dX2_anyWentBy_21 : decode cX2_anyWentBy 21 = .ok (.ireturn, 1) := by decide +kernel
theorem dX2_anyWentBy_22 : decode cX2_anyWentBy 22 = .ok (.iinc 2 1, 3) := by decide +kernel
theorem dX2_anyWentBy_25 : decode cX2_anyWentBy 25 = .ok (.goto (-23), 3) := by decide +kernel
theorem dX2_anyWentBy_28 : decode cX2_anyWentBy 28 = .ok (.iconst 0, 1) := by decide +kernel
theorem dX2_anyWentBy_29 : decode cX2_anyWentBy 29 = .ok (.ireturn, 1) := by decide +kernel
theorem dX2_copyFrom_0 : decode cX2_copyFrom 0 = .ok (.aload_n 1, 1) := by decide +kernel
theorem dX2_copyFrom_1 : decode cX2_copyFrom 1 = .ok (.getfield 11, 3) := by decide +kernel
theorem dX2_copyFrom_4 : decode cX2_copyFrom 4 = .ok (.iconst 0, 1) := by decide +kernel
theorem dX2_copyFrom_5 : decode cX2_copyFrom 5 = .ok (.aload_n 0, 1) := by decide +kernel
theorem dX2_copyFrom_6 : decode cX2_copyFrom 6 = .ok (.getfield 11, 3) := by decide +kernel
theorem dX2_copyFrom_9 : decode cX2_copyFrom 9 = .ok (.iconst 0, 1) := by decide +kernel
theorem dX2_copyFrom_10 : decode cX2_copyFrom 10 = .ok (.bipush 6, 2) := by decide +kernel
theorem dX2_copyFrom_12 : decode cX2_copyFrom 12 = .ok (.invokestatic 32, 3) := by decide +kernel
theorem dX2_copyFrom_15 : decode cX2_copyFrom 15 = .ok (.aload_n 1, 1) := by decide +kernel
theorem dX2_copyFrom_16 : decode cX2_copyFrom 16 = .ok (.getfield 15, 3) := by decide +kernel
theorem dX2_copyFrom_19 : decode cX2_copyFrom 19 = .ok (.iconst 0, 1) := by decide +kernel
theorem dX2_copyFrom_20 : decode cX2_copyFrom 20 = .ok (.aload_n 0, 1) := by decide +kernel
theorem dX2_copyFrom_21 : decode cX2_copyFrom 21 = .ok (.getfield 15, 3) := by decide +kernel
theorem dX2_copyFrom_24 : decode cX2_copyFrom 24 = .ok (.iconst 0, 1) := by decide +kernel
theorem dX2_copyFrom_25 : decode cX2_copyFrom 25 = .ok (.bipush 6, 2) := by decide +kernel
theorem dX2_copyFrom_27 : decode cX2_copyFrom 27 = .ok (.invokestatic 32, 3) := by decide +kernel
theorem dX2_copyFrom_30 : decode cX2_copyFrom 30 = .ok (.aload_n 1, 1) := by decide +kernel
theorem dX2_copyFrom_31 : decode cX2_copyFrom 31 = .ok (.getfield 18, 3) := by decide +kernel
theorem dX2_copyFrom_34 : decode cX2_copyFrom 34 = .ok (.iconst 0, 1) := by decide +kernel
theorem dX2_copyFrom_35 : decode cX2_copyFrom 35 = .ok (.aload_n 0, 1) := by decide +kernel
theorem dX2_copyFrom_36 : decode cX2_copyFrom 36 = .ok (.getfield 18, 3) := by decide +kernel
theorem dX2_copyFrom_39 : decode cX2_copyFrom 39 = .ok (.iconst 0, 1) := by decide +kernel
theorem dX2_copyFrom_40 : decode cX2_copyFrom 40 = .ok (.bipush 6, 2) := by decide +kernel
theorem dX2_copyFrom_42 : decode cX2_copyFrom 42 = .ok (.invokestatic 32, 3) := by decide +kernel
theorem dX2_copyFrom_45 : decode cX2_copyFrom 45 = .ok (.aload_n 1, 1) := by decide +kernel
theorem dX2_copyFrom_46 : decode cX2_copyFrom 46 = .ok (.getfield 21, 3) := by decide +kernel
theorem dX2_copyFrom_49 : decode cX2_copyFrom 49 = .ok (.iconst 0, 1) := by decide +kernel
theorem dX2_copyFrom_50 : decode cX2_copyFrom 50 = .ok (.aload_n 0, 1) := by decide +kernel
theorem dX2_copyFrom_51 : decode cX2_copyFrom 51 = .ok (.getfield 21, 3) := by decide +kernel
theorem dX2_copyFrom_54 : decode cX2_copyFrom 54 = .ok (.iconst 0, 1) := by decide +kernel
theorem dX2_copyFrom_55 : decode cX2_copyFrom 55 = .ok (.bipush 6, 2) := by decide +kernel
theorem dX2_copyFrom_57 : decode cX2_copyFrom 57 = .ok (.invokestatic 32, 3) := by decide +kernel
theorem dX2_copyFrom_60 : decode cX2_copyFrom 60 = .ok (.aload_n 0, 1) := by decide +kernel
theorem dX2_copyFrom_61 : decode cX2_copyFrom 61 = .ok (.aload_n 1, 1) := by decide +kernel
theorem dX2_copyFrom_62 : decode cX2_copyFrom 62 = .ok (.getfield 24, 3) := by decide +kernel
theorem dX2_copyFrom_65 : decode cX2_copyFrom 65 = .ok (.putfield 24, 3) := by decide +kernel
theorem dX2_copyFrom_68 : decode cX2_copyFrom 68 = .ok (.return_, 1) := by decide +kernel
theorem dX3_init_0 : decode cX3_init 0 = .ok (.aload_n 0, 1) := by decide +kernel
theorem dX3_init_1 : decode cX3_init 1 = .ok (.invokespecial 3, 3) := by decide +kernel
theorem dX3_init_4 : decode cX3_init 4 = .ok (.aload_n 0, 1) := by decide +kernel
theorem dX3_init_5 : decode cX3_init 5 = .ok (.sipush 400, 3) := by decide +kernel
theorem dX3_init_8 : decode cX3_init 8 = .ok (.newarray .int, 2) := by decide +kernel
theorem dX3_init_10 : decode cX3_init 10 = .ok (.putfield 11, 3) := by decide +kernel
theorem dX3_init_13 : decode cX3_init 13 = .ok (.aload_n 0, 1) := by decide +kernel
theorem dX3_init_14 : decode cX3_init 14 = .ok (.bipush 16, 2) := by decide +kernel
theorem dX3_init_16 : decode cX3_init 16 = .ok (.newarray .int, 2) := by decide +kernel
theorem dX3_init_18 : decode cX3_init 18 = .ok (.putfield 17, 3) := by decide +kernel
theorem dX3_init_21 : decode cX3_init 21 = .ok (.aload_n 0, 1) := by decide +kernel
theorem dX3_init_22 : decode cX3_init 22 = .ok (.bipush 16, 2) := by decide +kernel
theorem dX3_init_24 : decode cX3_init 24 = .ok (.newarray .int, 2) := by decide +kernel
theorem dX3_init_26 : decode cX3_init 26 = .ok (.putfield 20, 3) := by decide +kernel
theorem dX3_init_29 : decode cX3_init 29 = .ok (.aload_n 0, 1) := by decide +kernel
theorem dX3_init_30 : decode cX3_init 30 = .ok (.bipush 16, 2) := by decide +kernel
theorem dX3_init_32 : decode cX3_init 32 = .ok (.newarray .int, 2) := by decide +kernel
theorem dX3_init_34 : decode cX3_init 34 = .ok (.putfield 23, 3) := by decide +kernel
theorem dX3_init_37 : decode cX3_init 37 = .ok (.aload_n 0, 1) := by decide +kernel
theorem dX3_init_38 : decode cX3_init 38 = .ok (.bipush 40, 2) := by decide +kernel
theorem dX3_init_40 : decode cX3_init 40 = .ok (.newarray .int, 2) := by decide +kernel
theorem dX3_init_42 : decode cX3_init 42 = .ok (.putfield 26, 3) := by decide +kernel
theorem dX3_init_45 : decode cX3_init 45 = .ok (.aload_n 0, 1) := by decide +kernel
theorem dX3_init_46 : decode cX3_init 46 = .ok (.iconst 0, 1) := by decide +kernel
theorem dX3_init_47 : decode cX3_init 47 = .ok (.putfield 29, 3) := by decide +kernel
theorem dX3_init_50 : decode cX3_init 50 = .ok (.aload_n 0, 1) := by decide +kernel
theorem dX3_init_51 : decode cX3_init 51 = .ok (.iconst 0, 1) := by decide +kernel
theorem dX3_init_52 : decode cX3_init 52 = .ok (.putfield 33, 3) := by decide +kernel
theorem dX3_init_55 : decode cX3_init 55 = .ok (.return_, 1) := by decide +kernel
theorem dX3_clear_0 : decode cX3_clear 0 = .ok (.aload_n 0, 1) := by decide +kernel
theorem dX3_clear_1 : decode cX3_clear 1 = .ok (.iconst 0, 1) := by decide +kernel
theorem dX3_clear_2 : decode cX3_clear 2 = .ok (.putfield 29, 3) := by decide +kernel
theorem dX3_clear_5 : decode cX3_clear 5 = .ok (.aload_n 0, 1) := by decide +kernel
theorem dX3_clear_6 : decode cX3_clear 6 = .ok (.iconst 0, 1) := by decide +kernel
theorem dX3_clear_7 : decode cX3_clear 7 = .ok (.putfield 33, 3) := by decide +kernel
theorem dX3_clear_10 : decode cX3_clear 10 = .ok (.return_, 1) := by decide +kernel
theorem dX3_isFull_0 : decode cX3_isFull 0 = .ok (.aload_n 0, 1) := by decide +kernel
theorem dX3_isFull_1 : decode cX3_isFull 1 = .ok (.getfield 33, 3) := by decide +kernel
theorem dX3_isFull_4 : decode cX3_isFull 4 = .ok (.bipush 16, 2) := by decide +kernel
theorem dX3_isFull_6 : decode cX3_isFull 6 = .ok (.if_icmp .lt 7, 3) := by decide +kernel
theorem dX3_isFull_9 : decode cX3_isFull 9 = .ok (.iconst 1, 1) := by decide +kernel
theorem dX3_isFull_10 : decode cX3_isFull 10 = .ok (.goto 4, 3) := by decide +kernel
theorem dX3_isFull_13 : decode cX3_isFull 13 = .ok (.iconst 0, 1) := by decide +kernel
theorem dX3_isFull_14 : decode cX3_isFull 14 = .ok (.ireturn, 1) := by decide +kernel
theorem dX3_startLine_0 : decode cX3_startLine 0 = .ok (.aload_n 0, 1) := by decide +kernel
theorem dX3_startLine_1 : decode cX3_startLine 1 = .ok (.invokevirtual 36, 3) := by decide +kernel
theorem dX3_startLine_4 : decode cX3_startLine 4 = .ok (.ifCond .ne 16, 3) := by decide +kernel
theorem dX3_startLine_7 : decode cX3_startLine 7 = .ok (.aload_n 0, 1) := by decide +kernel
theorem dX3_startLine_8 : decode cX3_startLine 8 = .ok (.getfield 17, 3) := by decide +kernel
theorem dX3_startLine_11 : decode cX3_startLine 11 = .ok (.aload_n 0, 1) := by decide +kernel
theorem dX3_startLine_12 : decode cX3_startLine 12 = .ok (.getfield 33, 3) := by decide +kernel
theorem dX3_startLine_15 : decode cX3_startLine 15 = .ok (.aload_n 0, 1) := by decide +kernel
theorem dX3_startLine_16 : decode cX3_startLine 16 = .ok (.getfield 29, 3) := by decide +kernel
theorem dX3_startLine_19 : decode cX3_startLine 19 = .ok (.iastore, 1) := by decide +kernel
theorem dX3_startLine_20 : decode cX3_startLine 20 = .ok (.return_, 1) := by decide +kernel
theorem dX3_endAge_0 : decode cX3_endAge 0 = .ok (.aload_n 0, 1) := by decide +kernel
theorem dX3_endAge_1 : decode cX3_endAge 1 = .ok (.invokevirtual 36, 3) := by decide +kernel
theorem dX3_endAge_4 : decode cX3_endAge 4 = .ok (.ifCond .ne 16, 3) := by decide +kernel
theorem dX3_endAge_7 : decode cX3_endAge 7 = .ok (.aload_n 0, 1) := by decide +kernel
theorem dX3_endAge_8 : decode cX3_endAge 8 = .ok (.getfield 20, 3) := by decide +kernel
theorem dX3_endAge_11 : decode cX3_endAge 11 = .ok (.aload_n 0, 1) := by decide +kernel
theorem dX3_endAge_12 : decode cX3_endAge 12 = .ok (.getfield 33, 3) := by decide +kernel
theorem dX3_endAge_15 : decode cX3_endAge 15 = .ok (.aload_n 0, 1) := by decide +kernel
theorem dX3_endAge_16 : decode cX3_endAge 16 = .ok (.getfield 29, 3) := by decide +kernel
theorem dX3_endAge_19 : decode cX3_endAge 19 = .ok (.iastore, 1) := by decide +kernel
theorem dX3_endAge_20 : decode cX3_endAge 20 = .ok (.return_, 1) := by decide +kernel
theorem dX3_endLine_0 : decode cX3_endLine 0 = .ok (.aload_n 0, 1) := by decide +kernel
theorem dX3_endLine_1 : decode cX3_endLine 1 = .ok (.invokevirtual 36, 3) := by decide +kernel
theorem dX3_endLine_4 : decode cX3_endLine 4 = .ok (.ifCond .ne 26, 3) := by decide +kernel
theorem dX3_endLine_7 : decode cX3_endLine 7 = .ok (.aload_n 0, 1) := by decide +kernel
theorem dX3_endLine_8 : decode cX3_endLine 8 = .ok (.getfield 23, 3) := by decide +kernel
theorem dX3_endLine_11 : decode cX3_endLine 11 = .ok (.aload_n 0, 1) := by decide +kernel
theorem dX3_endLine_12 : decode cX3_endLine 12 = .ok (.getfield 33, 3) := by decide +kernel
theorem dX3_endLine_15 : decode cX3_endLine 15 = .ok (.aload_n 0, 1) := by decide +kernel
theorem dX3_endLine_16 : decode cX3_endLine 16 = .ok (.getfield 29, 3) := by decide +kernel
theorem dX3_endLine_19 : decode cX3_endLine 19 = .ok (.iastore, 1) := by decide +kernel
theorem dX3_endLine_20 : decode cX3_endLine 20 = .ok (.aload_n 0, 1) := by decide +kernel
theorem dX3_endLine_21 : decode cX3_endLine 21 = .ok (.dup, 1) := by decide +kernel
theorem dX3_endLine_22 : decode cX3_endLine 22 = .ok (.getfield 33, 3) := by decide +kernel
theorem dX3_endLine_25 : decode cX3_endLine 25 = .ok (.iconst 1, 1) := by decide +kernel
theorem dX3_endLine_26 : decode cX3_endLine 26 = .ok (.iadd, 1) := by decide +kernel
theorem dX3_endLine_27 : decode cX3_endLine 27 = .ok (.putfield 33, 3) := by decide +kernel
theorem dX3_endLine_30 : decode cX3_endLine 30 = .ok (.return_, 1) := by decide +kernel
theorem dX3_addFact_0 : decode cX3_addFact 0 = .ok (.aload_n 0, 1) := by decide +kernel
theorem dX3_addFact_1 : decode cX3_addFact 1 = .ok (.sipush 10000, 3) := by decide +kernel
theorem dX3_addFact_4 : decode cX3_addFact 4 = .ok (.iload_n 1, 1) := by decide +kernel
theorem dX3_addFact_5 : decode cX3_addFact 5 = .ok (.iadd, 1) := by decide +kernel
theorem dX3_addFact_6 : decode cX3_addFact 6 = .ok (.bipush 8, 2) := by decide +kernel
theorem dX3_addFact_8 : decode cX3_addFact 8 = .ok (.isub, 1) := by decide +kernel
theorem dX3_addFact_9 : decode cX3_addFact 9 = .ok (.invokevirtual 42, 3) := by decide +kernel
theorem dX3_addFact_12 : decode cX3_addFact 12 = .ok (.return_, 1) := by decide +kernel
theorem dX3_add_0 : decode cX3_add 0 = .ok (.aload_n 0, 1) := by decide +kernel
theorem dX3_add_1 : decode cX3_add 1 = .ok (.getfield 29, 3) := by decide +kernel
theorem dX3_add_4 : decode cX3_add 4 = .ok (.sipush 400, 3) := by decide +kernel
theorem dX3_add_7 : decode cX3_add 7 = .ok (.if_icmp .ge 23, 3) := by decide +kernel
theorem dX3_add_10 : decode cX3_add 10 = .ok (.aload_n 0, 1) := by decide +kernel
theorem dX3_add_11 : decode cX3_add 11 = .ok (.getfield 11, 3) := by decide +kernel
theorem dX3_add_14 : decode cX3_add 14 = .ok (.aload_n 0, 1) := by decide +kernel
theorem dX3_add_15 : decode cX3_add 15 = .ok (.getfield 29, 3) := by decide +kernel
theorem dX3_add_18 : decode cX3_add 18 = .ok (.iload_n 1, 1) := by decide +kernel
theorem dX3_add_19 : decode cX3_add 19 = .ok (.iastore, 1) := by decide +kernel
theorem dX3_add_20 : decode cX3_add 20 = .ok (.aload_n 0, 1) := by decide +kernel
theorem dX3_add_21 : decode cX3_add 21 = .ok (.dup, 1) := by decide +kernel
theorem dX3_add_22 : decode cX3_add 22 = .ok (.getfield 29, 3) := by decide +kernel
theorem dX3_add_25 : decode cX3_add 25 = .ok (.iconst 1, 1) := by decide +kernel
theorem dX3_add_26 : decode cX3_add 26 = .ok (.iadd, 1) := by decide +kernel
theorem dX3_add_27 : decode cX3_add 27 = .ok (.putfield 29, 3) := by decide +kernel
theorem dX3_add_30 : decode cX3_add 30 = .ok (.return_, 1) := by decide +kernel
theorem dX3_ageBy_0 : decode cX3_ageBy 0 = .ok (.iconst 0, 1) := by decide +kernel
theorem dX3_ageBy_1 : decode cX3_ageBy 1 = .ok (.istore_n 2, 1) := by decide +kernel
theorem dX3_ageBy_2 : decode cX3_ageBy 2 = .ok (.iload_n 2, 1) := by decide +kernel
theorem dX3_ageBy_3 : decode cX3_ageBy 3 = .ok (.aload_n 0, 1) := by decide +kernel
theorem dX3_ageBy_4 : decode cX3_ageBy 4 = .ok (.getfield 33, 3) := by decide +kernel
theorem dX3_ageBy_7 : decode cX3_ageBy 7 = .ok (.if_icmp .ge 75, 3) := by decide +kernel
theorem dX3_ageBy_10 : decode cX3_ageBy 10 = .ok (.aload_n 0, 1) := by decide +kernel
theorem dX3_ageBy_11 : decode cX3_ageBy 11 = .ok (.getfield 20, 3) := by decide +kernel
theorem dX3_ageBy_14 : decode cX3_ageBy 14 = .ok (.iload_n 2, 1) := by decide +kernel
theorem dX3_ageBy_15 : decode cX3_ageBy 15 = .ok (.iaload, 1) := by decide +kernel
theorem dX3_ageBy_16 : decode cX3_ageBy 16 = .ok (.aload_n 0, 1) := by decide +kernel
theorem dX3_ageBy_17 : decode cX3_ageBy 17 = .ok (.getfield 23, 3) := by decide +kernel
theorem dX3_ageBy_20 : decode cX3_ageBy 20 = .ok (.iload_n 2, 1) := by decide +kernel
theorem dX3_ageBy_21 : decode cX3_ageBy 21 = .ok (.iaload, 1) := by decide +kernel
theorem dX3_ageBy_22 : decode cX3_ageBy 22 = .ok (.if_icmp .ne 7, 3) := by decide +kernel
theorem dX3_ageBy_25 : decode cX3_ageBy 25 = .ok (.iconst 1, 1) := by decide +kernel
theorem dX3_ageBy_26 : decode cX3_ageBy 26 = .ok (.goto 4, 3) := by decide +kernel
theorem dX3_ageBy_29 : decode cX3_ageBy 29 = .ok (.iconst 0, 1) := by decide +kernel
theorem dX3_ageBy_30 : decode cX3_ageBy 30 = .ok (.istore_n 3, 1) := by decide +kernel
theorem dX3_ageBy_31 : decode cX3_ageBy 31 = .ok (.iload_n 3, 1) := by decide +kernel
theorem dX3_ageBy_32 : decode cX3_ageBy 32 = .ok (.ifCond .ne 23, 3) := by decide +kernel
theorem dX3_ageBy_35 : decode cX3_ageBy 35 = .ok (.aload_n 0, 1) := by decide +kernel
theorem dX3_ageBy_36 : decode cX3_ageBy 36 = .ok (.aload_n 0, 1) := by decide +kernel
theorem dX3_ageBy_37 : decode cX3_ageBy 37 = .ok (.getfield 20, 3) := by decide +kernel
theorem dX3_ageBy_40 : decode cX3_ageBy 40 = .ok (.iload_n 2, 1) := by decide +kernel
theorem dX3_ageBy_41 : decode cX3_ageBy 41 = .ok (.iaload, 1) := by decide +kernel
theorem dX3_ageBy_42 : decode cX3_ageBy 42 = .ok (.aload_n 0, 1) := by decide +kernel
theorem dX3_ageBy_43 : decode cX3_ageBy 43 = .ok (.getfield 23, 3) := by decide +kernel
theorem dX3_ageBy_46 : decode cX3_ageBy 46 = .ok (.iload_n 2, 1) := by decide +kernel
theorem dX3_ageBy_47 : decode cX3_ageBy 47 = .ok (.iaload, 1) := by decide +kernel
theorem dX3_ageBy_48 : decode cX3_ageBy 48 = .ok (.aload_n 1, 1) := by decide +kernel
theorem dX3_ageBy_49 : decode cX3_ageBy 49 = .ok (.invokevirtual 46, 3) := by decide +kernel
theorem dX3_ageBy_52 : decode cX3_ageBy 52 = .ok (.ifCond .eq 24, 3) := by decide +kernel
theorem dX3_ageBy_55 : decode cX3_ageBy 55 = .ok (.aload_n 0, 1) := by decide +kernel
theorem dX3_ageBy_56 : decode cX3_ageBy 56 = .ok (.aload_n 0, 1) := by decide +kernel
theorem dX3_ageBy_57 : decode cX3_ageBy 57 = .ok (.getfield 17, 3) := by decide +kernel
theorem dX3_ageBy_60 : decode cX3_ageBy 60 = .ok (.iload_n 2, 1) := by decide +kernel
theorem dX3_ageBy_61 : decode cX3_ageBy 61 = .ok (.iaload, 1) := by decide +kernel
theorem dX3_ageBy_62 : decode cX3_ageBy 62 = .ok (.aload_n 0, 1) := by decide +kernel
theorem dX3_ageBy_63 : decode cX3_ageBy 63 = .ok (.getfield 20, 3) := by decide +kernel
theorem dX3_ageBy_66 : decode cX3_ageBy 66 = .ok (.iload_n 2, 1) := by decide +kernel
theorem dX3_ageBy_67 : decode cX3_ageBy 67 = .ok (.iaload, 1) := by decide +kernel
theorem dX3_ageBy_68 : decode cX3_ageBy 68 = .ok (.aload_n 1, 1) := by decide +kernel
theorem dX3_ageBy_69 : decode cX3_ageBy 69 = .ok (.invokevirtual 46, 3) := by decide +kernel
theorem dX3_ageBy_72 : decode cX3_ageBy 72 = .ok (.invokestatic 50, 3) := by decide +kernel
theorem dX3_ageBy_75 : decode cX3_ageBy 75 = .ok (.ireturn, 1) := by decide +kernel
theorem dX3_ageBy_76 : decode cX3_ageBy 76 = .ok (.iinc 2 1, 3) := by decide +kernel
theorem dX3_ageBy_79 : decode cX3_ageBy 79 = .ok (.goto (-77), 3) := by decide +kernel
theorem dX3_ageBy_82 : decode cX3_ageBy 82 = .ok (.aload_n 1, 1) := by decide +kernel
theorem dX3_ageBy_83 : decode cX3_ageBy 83 = .ok (.iconst 0, 1) := by decide +kernel
theorem dX3_ageBy_84 : decode cX3_ageBy 84 = .ok (.iaload, 1) := by decide +kernel
theorem dX3_ageBy_85 : decode cX3_ageBy 85 = .ok (.invokestatic 50, 3) := by decide +kernel
theorem dX3_ageBy_88 : decode cX3_ageBy 88 = .ok (.ireturn, 1) := by decide +kernel
theorem dX3_held_0 : decode cX3_held 0 = .ok (.iconst 0, 1) := by decide +kernel
theorem dX3_held_1 : decode cX3_held 1 = .ok (.sipush 999, 3) := by decide +kernel
theorem dX3_held_4 : decode cX3_held 4 = .ok (.iload_n 0, 1) := by decide +kernel
theorem dX3_held_5 : decode cX3_held 5 = .ok (.invokestatic 54, 3) := by decide +kernel
theorem dX3_held_8 : decode cX3_held 8 = .ok (.invokestatic 60, 3) := by decide +kernel
theorem dX3_held_11 : decode cX3_held 11 = .ok (.ireturn, 1) := by decide +kernel
theorem dX3_work_0 : decode cX3_work 0 = .ok (.iconst 0, 1) := by decide +kernel
theorem dX3_work_1 : decode cX3_work 1 = .ok (.istore 4, 2) := by decide +kernel
theorem dX3_work_3 : decode cX3_work 3 = .ok (.iload_n 1, 1) := by decide +kernel
theorem dX3_work_4 : decode cX3_work 4 = .ok (.istore 5, 2) := by decide +kernel
theorem dX3_work_6 : decode cX3_work 6 = .ok (.iload 5, 2) := by decide +kernel
theorem dX3_work_8 : decode cX3_work 8 = .ok (.iload_n 2, 1) := by decide +kernel
theorem dX3_work_9 : decode cX3_work 9 = .ok (.if_icmp .ge 130, 3) := by decide +kernel
theorem dX3_work_12 : decode cX3_work 12 = .ok (.aload_n 0, 1) := by decide +kernel
theorem dX3_work_13 : decode cX3_work 13 = .ok (.getfield 11, 3) := by decide +kernel
theorem dX3_work_16 : decode cX3_work 16 = .ok (.iload 5, 2) := by decide +kernel
theorem dX3_work_18 : decode cX3_work 18 = .ok (.iaload, 1) := by decide +kernel
theorem dX3_work_19 : decode cX3_work 19 = .ok (.istore 6, 2) := by decide +kernel
theorem dX3_work_21 : decode cX3_work 21 = .ok (.iload 6, 2) := by decide +kernel
theorem dX3_work_23 : decode cX3_work 23 = .ok (.ifCond .lt 29, 3) := by decide +kernel
theorem dX3_work_26 : decode cX3_work 26 = .ok (.iload 4, 2) := by decide +kernel
theorem dX3_work_28 : decode cX3_work 28 = .ok (.bipush 40, 2) := by decide +kernel
theorem dX3_work_30 : decode cX3_work 30 = .ok (.if_icmp .ge 22, 3) := by decide +kernel
theorem dX3_work_33 : decode cX3_work 33 = .ok (.aload_n 0, 1) := by decide +kernel
theorem dX3_work_34 : decode cX3_work 34 = .ok (.getfield 26, 3) := by decide +kernel
theorem dX3_work_37 : decode cX3_work 37 = .ok (.iload 4, 2) := by decide +kernel
theorem dX3_work_39 : decode cX3_work 39 = .ok (.iload 6, 2) := by decide +kernel
theorem dX3_work_41 : decode cX3_work 41 = .ok (.aload_n 3, 1) := by decide +kernel
theorem dX3_work_42 : decode cX3_work 42 = .ok (.invokestatic 63, 3) := by decide +kernel
theorem dX3_work_45 : decode cX3_work 45 = .ok (.iastore, 1) := by decide +kernel
theorem dX3_work_46 : decode cX3_work 46 = .ok (.iinc 4 1, 3) := by decide +kernel
theorem dX3_work_49 : decode cX3_work 49 = .ok (.goto 84, 3) := by decide +kernel
theorem dX3_work_52 : decode cX3_work 52 = .ok (.iload 6, 2) := by decide +kernel
theorem dX3_work_54 : decode cX3_work 54 = .ok (.bipush (-7), 2) := by decide +kernel
theorem dX3_work_56 : decode cX3_work 56 = .ok (.if_icmp .ne 32, 3) := by decide +kernel
theorem dX3_work_59 : decode cX3_work 59 = .ok (.iload 4, 2) := by decide +kernel
theorem dX3_work_61 : decode cX3_work 61 = .ok (.iconst 1, 1) := by decide +kernel
theorem dX3_work_62 : decode cX3_work 62 = .ok (.if_icmp .lt 26, 3) := by decide +kernel
theorem dX3_work_65 : decode cX3_work 65 = .ok (.aload_n 0, 1) := by decide +kernel
theorem dX3_work_66 : decode cX3_work 66 = .ok (.getfield 26, 3) := by decide +kernel
theorem dX3_work_69 : decode cX3_work 69 = .ok (.iload 4, 2) := by decide +kernel
theorem dX3_work_71 : decode cX3_work 71 = .ok (.iconst 1, 1) := by decide +kernel
theorem dX3_work_72 : decode cX3_work 72 = .ok (.isub, 1) := by decide +kernel
theorem dX3_work_73 : decode cX3_work 73 = .ok (.iconst 1, 1) := by decide +kernel
theorem dX3_work_74 : decode cX3_work 74 = .ok (.aload_n 0, 1) := by decide +kernel
theorem dX3_work_75 : decode cX3_work 75 = .ok (.getfield 26, 3) := by decide +kernel
theorem dX3_work_78 : decode cX3_work 78 = .ok (.iload 4, 2) := by decide +kernel
theorem dX3_work_80 : decode cX3_work 80 = .ok (.iconst 1, 1) := by decide +kernel
theorem dX3_work_81 : decode cX3_work 81 = .ok (.isub, 1) := by decide +kernel
theorem dX3_work_82 : decode cX3_work 82 = .ok (.iaload, 1) := by decide +kernel
theorem dX3_work_83 : decode cX3_work 83 = .ok (.isub, 1) := by decide +kernel
theorem dX3_work_84 : decode cX3_work 84 = .ok (.iastore, 1) := by decide +kernel
theorem dX3_work_85 : decode cX3_work 85 = .ok (.goto 48, 3) := by decide +kernel
theorem dX3_work_88 : decode cX3_work 88 = .ok (.iload 6, 2) := by decide +kernel
theorem dX3_work_90 : decode cX3_work 90 = .ok (.ifCond .ge 43, 3) := by decide +kernel
theorem dX3_work_93 : decode cX3_work 93 = .ok (.iload 4, 2) := by decide +kernel
theorem dX3_work_95 : decode cX3_work 95 = .ok (.iconst 2, 1) := by decide +kernel
theorem dX3_work_96 : decode cX3_work 96 = .ok (.if_icmp .lt 37, 3) := by decide +kernel
theorem dX3_work_99 : decode cX3_work 99 = .ok (.iinc 4 (-1), 3) := by decide +kernel
theorem dX3_work_102 : decode cX3_work 102 = .ok (.aload_n 0, 1) := by decide +kernel
theorem dX3_work_103 : decode cX3_work 103 = .ok (.getfield 26, 3) := by decide +kernel
theorem dX3_work_106 : decode cX3_work 106 = .ok (.iload 4, 2) := by decide +kernel
theorem dX3_work_108 : decode cX3_work 108 = .ok (.iconst 1, 1) := by decide +kernel
theorem dX3_work_109 : decode cX3_work 109 = .ok (.isub, 1) := by decide +kernel
theorem dX3_work_110 : decode cX3_work 110 = .ok (.iload 6, 2) := by decide +kernel
theorem dX3_work_112 : decode cX3_work 112 = .ok (.ineg, 1) := by decide +kernel
theorem dX3_work_113 : decode cX3_work 113 = .ok (.aload_n 0, 1) := by decide +kernel
theorem dX3_work_114 : decode cX3_work 114 = .ok (.getfield 26, 3) := by decide +kernel
theorem dX3_work_117 : decode cX3_work 117 = .ok (.iload 4, 2) := by decide +kernel
theorem dX3_work_119 : decode cX3_work 119 = .ok (.iconst 1, 1) := by decide +kernel
theorem dX3_work_120 : decode cX3_work 120 = .ok (.isub, 1) := by decide +kernel
theorem dX3_work_121 : decode cX3_work 121 = .ok (.iaload, 1) := by decide +kernel
theorem dX3_work_122 : decode cX3_work 122 = .ok (.aload_n 0, 1) := by decide +kernel
theorem dX3_work_123 : decode cX3_work 123 = .ok (.getfield 26, 3) := by decide +kernel
theorem dX3_work_126 : decode cX3_work 126 = .ok (.iload 4, 2) := by decide +kernel
theorem dX3_work_128 : decode cX3_work 128 = .ok (.iaload, 1) := by decide +kernel
theorem dX3_work_129 : decode cX3_work 129 = .ok (.invokestatic 67, 3) := by decide +kernel
theorem dX3_work_132 : decode cX3_work 132 = .ok (.iastore, 1) := by decide +kernel
theorem dX3_work_133 : decode cX3_work 133 = .ok (.iinc 5 1, 3) := by decide +kernel
theorem dX3_work_136 : decode cX3_work 136 = .ok (.goto (-130), 3) := by decide +kernel
theorem dX3_work_139 : decode cX3_work 139 = .ok (.iload 4, 2) := by decide +kernel
theorem dX3_work_141 : decode cX3_work 141 = .ok (.ifCond .le 12, 3) := by decide +kernel
theorem dX3_work_144 : decode cX3_work 144 = .ok (.aload_n 0, 1) := by decide +kernel
theorem dX3_work_145 : decode cX3_work 145 = .ok (.getfield 26, 3) := by decide +kernel
theorem dX3_work_148 : decode cX3_work 148 = .ok (.iconst 0, 1) := by decide +kernel
theorem dX3_work_149 : decode cX3_work 149 = .ok (.iaload, 1) := by decide +kernel
theorem dX3_work_150 : decode cX3_work 150 = .ok (.goto 4, 3) := by decide +kernel
theorem dX3_work_153 : decode cX3_work 153 = .ok (.iconst 0, 1) := by decide +kernel
theorem dX3_work_154 : decode cX3_work 154 = .ok (.ireturn, 1) := by decide +kernel
theorem dX3_operand_0 : decode cX3_operand 0 = .ok (.iload_n 0, 1) := by decide +kernel
theorem dX3_operand_1 : decode cX3_operand 1 = .ok (.sipush 10000, 3) := by decide +kernel
theorem dX3_operand_4 : decode cX3_operand 4 = .ok (.isub, 1) := by decide +kernel
theorem dX3_operand_5 : decode cX3_operand 5 = .ok (.istore_n 2, 1) := by decide +kernel
theorem dX3_operand_6 : decode cX3_operand 6 = .ok (.iload_n 2, 1) := by decide +kernel
theorem dX3_operand_7 : decode cX3_operand 7 = .ok (.ifCond .ge 5, 3) := by decide +kernel
theorem dX3_operand_10 : decode cX3_operand 10 = .ok (.iload_n 0, 1) := by decide +kernel
theorem dX3_operand_11 : decode cX3_operand 11 = .ok (.ireturn, 1) := by decide +kernel
theorem dX3_operand_12 : decode cX3_operand 12 = .ok (.iload_n 2, 1) := by decide +kernel
theorem dX3_operand_13 : decode cX3_operand 13 = .ok (.aload_n 1, 1) := by decide +kernel
theorem dX3_operand_14 : decode cX3_operand 14 = .ok (.arraylength, 1) := by decide +kernel
theorem dX3_operand_15 : decode cX3_operand 15 = .ok (.if_icmp .ge 9, 3) := by decide +kernel
theorem dX3_operand_18 : decode cX3_operand 18 = .ok (.aload_n 1, 1) := by decide +kernel
theorem dX3_operand_19 : decode cX3_operand 19 = .ok (.iload_n 2, 1) := by decide +kernel
theorem dX3_operand_20 : decode cX3_operand 20 = .ok (.iaload, 1) := by decide +kernel
theorem dX3_operand_21 : decode cX3_operand 21 = .ok (.goto 4, 3) := by decide +kernel
theorem dX3_operand_24 : decode cX3_operand 24 = .ok (.iconst 0, 1) := by decide +kernel
theorem dX3_operand_25 : decode cX3_operand 25 = .ok (.ireturn, 1) := by decide +kernel
theorem dX3_joined_0 : decode cX3_joined 0 = .ok (.iload_n 0, 1) := by decide +kernel
theorem dX3_joined_1 : decode cX3_joined 1 = .ok (.tableswitch 160 6 26 #[156, 160, 160, 160, 160, 160, 160, 160, 160, 160, 160, 160, 99, 103, 107, 111, 160, 160, 123, 134, 145], 99) := by decide +kernel
theorem dX3_joined_100 : decode cX3_joined 100 = .ok (.iload_n 1, 1) := by decide +kernel
theorem dX3_joined_101 : decode cX3_joined 101 = .ok (.iload_n 2, 1) := by decide +kernel
theorem dX3_joined_102 : decode cX3_joined 102 = .ok (.iadd, 1) := by decide +kernel
theorem dX3_joined_103 : decode cX3_joined 103 = .ok (.ireturn, 1) := by decide +kernel
theorem dX3_joined_104 : decode cX3_joined 104 = .ok (.iload_n 1, 1) := by decide +kernel
theorem dX3_joined_105 : decode cX3_joined 105 = .ok (.iload_n 2, 1) := by decide +kernel
theorem dX3_joined_106 : decode cX3_joined 106 = .ok (.isub, 1) := by decide +kernel
theorem dX3_joined_107 : decode cX3_joined 107 = .ok (.ireturn, 1) := by decide +kernel
theorem dX3_joined_108 : decode cX3_joined 108 = .ok (.iload_n 1, 1) := by decide +kernel
theorem dX3_joined_109 : decode cX3_joined 109 = .ok (.iload_n 2, 1) := by decide +kernel
theorem dX3_joined_110 : decode cX3_joined 110 = .ok (.imul, 1) := by decide +kernel
theorem dX3_joined_111 : decode cX3_joined 111 = .ok (.ireturn, 1) := by decide +kernel
theorem dX3_joined_112 : decode cX3_joined 112 = .ok (.iload_n 2, 1) := by decide +kernel
theorem dX3_joined_113 : decode cX3_joined 113 = .ok (.ifCond .ne 7, 3) := by decide +kernel
theorem dX3_joined_116 : decode cX3_joined 116 = .ok (.iconst 0, 1) := by decide +kernel
theorem dX3_joined_117 : decode cX3_joined 117 = .ok (.goto 6, 3) := by decide +kernel
theorem dX3_joined_120 : decode cX3_joined 120 = .ok (.iload_n 1, 1) := by decide +kernel
theorem dX3_joined_121 : decode cX3_joined 121 = .ok (.iload_n 2, 1) := by decide +kernel
theorem dX3_joined_122 : decode cX3_joined 122 = .ok (.idiv, 1) := by decide +kernel
theorem dX3_joined_123 : decode cX3_joined 123 = .ok (.ireturn, 1) := by decide +kernel
theorem dX3_joined_124 : decode cX3_joined 124 = .ok (.iload_n 1, 1) := by decide +kernel
theorem dX3_joined_125 : decode cX3_joined 125 = .ok (.iload_n 2, 1) := by decide +kernel
theorem dX3_joined_126 : decode cX3_joined 126 = .ok (.if_icmp .ge 7, 3) := by decide +kernel
theorem dX3_joined_129 : decode cX3_joined 129 = .ok (.iconst 1, 1) := by decide +kernel
theorem dX3_joined_130 : decode cX3_joined 130 = .ok (.goto 4, 3) := by decide +kernel
theorem dX3_joined_133 : decode cX3_joined 133 = .ok (.iconst 0, 1) := by decide +kernel
theorem dX3_joined_134 : decode cX3_joined 134 = .ok (.ireturn, 1) := by decide +kernel
theorem dX3_joined_135 : decode cX3_joined 135 = .ok (.iload_n 1, 1) := by decide +kernel
theorem dX3_joined_136 : decode cX3_joined 136 = .ok (.iload_n 2, 1) := by decide +kernel
theorem dX3_joined_137 : decode cX3_joined 137 = .ok (.if_icmp .ne 7, 3) := by decide +kernel
theorem dX3_joined_140 : decode cX3_joined 140 = .ok (.iconst 1, 1) := by decide +kernel
theorem dX3_joined_141 : decode cX3_joined 141 = .ok (.goto 4, 3) := by decide +kernel
theorem dX3_joined_144 : decode cX3_joined 144 = .ok (.iconst 0, 1) := by decide +kernel
theorem dX3_joined_145 : decode cX3_joined 145 = .ok (.ireturn, 1) := by decide +kernel
theorem dX3_joined_146 : decode cX3_joined 146 = .ok (.iload_n 1, 1) := by decide +kernel
theorem dX3_joined_147 : decode cX3_joined 147 = .ok (.iload_n 2, 1) := by decide +kernel
theorem dX3_joined_148 : decode cX3_joined 148 = .ok (.if_icmp .le 7, 3) := by decide +kernel
theorem dX3_joined_151 : decode cX3_joined 151 = .ok (.iconst 1, 1) := by decide +kernel
theorem dX3_joined_152 : decode cX3_joined 152 = .ok (.goto 4, 3) := by decide +kernel
theorem dX3_joined_155 : decode cX3_joined 155 = .ok (.iconst 0, 1) := by decide +kernel
theorem dX3_joined_156 : decode cX3_joined 156 = .ok (.ireturn, 1) := by decide +kernel
theorem dX3_joined_157 : decode cX3_joined 157 = .ok (.iload_n 1, 1) := by decide +kernel
theorem dX3_joined_158 : decode cX3_joined 158 = .ok (.iload_n 2, 1) := by decide +kernel
theorem dX3_joined_159 : decode cX3_joined 159 = .ok (.iand, 1) := by decide +kernel
theorem dX3_joined_160 : decode cX3_joined 160 = .ok (.ireturn, 1) := by decide +kernel
theorem dX3_joined_161 : decode cX3_joined 161 = .ok (.iload_n 1, 1) := by decide +kernel
theorem dX3_joined_162 : decode cX3_joined 162 = .ok (.iload_n 2, 1) := by decide +kernel
theorem dX3_joined_163 : decode cX3_joined 163 = .ok (.ior, 1) := by decide +kernel
theorem dX3_joined_164 : decode cX3_joined 164 = .ok (.ireturn, 1) := by decide +kernel
theorem dX3_copyFrom_0 : decode cX3_copyFrom 0 = .ok (.aload_n 1, 1) := by decide +kernel
theorem dX3_copyFrom_1 : decode cX3_copyFrom 1 = .ok (.getfield 11, 3) := by decide +kernel
theorem dX3_copyFrom_4 : decode cX3_copyFrom 4 = .ok (.iconst 0, 1) := by decide +kernel
theorem dX3_copyFrom_5 : decode cX3_copyFrom 5 = .ok (.aload_n 0, 1) := by decide +kernel
theorem dX3_copyFrom_6 : decode cX3_copyFrom 6 = .ok (.getfield 11, 3) := by decide +kernel
theorem dX3_copyFrom_9 : decode cX3_copyFrom 9 = .ok (.iconst 0, 1) := by decide +kernel
theorem dX3_copyFrom_10 : decode cX3_copyFrom 10 = .ok (.sipush 400, 3) := by decide +kernel
theorem dX3_copyFrom_13 : decode cX3_copyFrom 13 = .ok (.invokestatic 71, 3) := by decide +kernel
theorem dX3_copyFrom_16 : decode cX3_copyFrom 16 = .ok (.aload_n 1, 1) := by decide +kernel
theorem dX3_copyFrom_17 : decode cX3_copyFrom 17 = .ok (.getfield 17, 3) := by decide +kernel
theorem dX3_copyFrom_20 : decode cX3_copyFrom 20 = .ok (.iconst 0, 1) := by decide +kernel
theorem dX3_copyFrom_21 : decode cX3_copyFrom 21 = .ok (.aload_n 0, 1) := by decide +kernel
theorem dX3_copyFrom_22 : decode cX3_copyFrom 22 = .ok (.getfield 17, 3) := by decide +kernel
theorem dX3_copyFrom_25 : decode cX3_copyFrom 25 = .ok (.iconst 0, 1) := by decide +kernel
theorem dX3_copyFrom_26 : decode cX3_copyFrom 26 = .ok (.bipush 16, 2) := by decide +kernel
theorem dX3_copyFrom_28 : decode cX3_copyFrom 28 = .ok (.invokestatic 71, 3) := by decide +kernel
theorem dX3_copyFrom_31 : decode cX3_copyFrom 31 = .ok (.aload_n 1, 1) := by decide +kernel
theorem dX3_copyFrom_32 : decode cX3_copyFrom 32 = .ok (.getfield 20, 3) := by decide +kernel
theorem dX3_copyFrom_35 : decode cX3_copyFrom 35 = .ok (.iconst 0, 1) := by decide +kernel
theorem dX3_copyFrom_36 : decode cX3_copyFrom 36 = .ok (.aload_n 0, 1) := by decide +kernel
theorem dX3_copyFrom_37 : decode cX3_copyFrom 37 = .ok (.getfield 20, 3) := by decide +kernel
theorem dX3_copyFrom_40 : decode cX3_copyFrom 40 = .ok (.iconst 0, 1) := by decide +kernel
theorem dX3_copyFrom_41 : decode cX3_copyFrom 41 = .ok (.bipush 16, 2) := by decide +kernel
theorem dX3_copyFrom_43 : decode cX3_copyFrom 43 = .ok (.invokestatic 71, 3) := by decide +kernel
theorem dX3_copyFrom_46 : decode cX3_copyFrom 46 = .ok (.aload_n 1, 1) := by decide +kernel
theorem dX3_copyFrom_47 : decode cX3_copyFrom 47 = .ok (.getfield 23, 3) := by decide +kernel
theorem dX3_copyFrom_50 : decode cX3_copyFrom 50 = .ok (.iconst 0, 1) := by decide +kernel
theorem dX3_copyFrom_51 : decode cX3_copyFrom 51 = .ok (.aload_n 0, 1) := by decide +kernel
theorem dX3_copyFrom_52 : decode cX3_copyFrom 52 = .ok (.getfield 23, 3) := by decide +kernel
theorem dX3_copyFrom_55 : decode cX3_copyFrom 55 = .ok (.iconst 0, 1) := by decide +kernel
theorem dX3_copyFrom_56 : decode cX3_copyFrom 56 = .ok (.bipush 16, 2) := by decide +kernel
theorem dX3_copyFrom_58 : decode cX3_copyFrom 58 = .ok (.invokestatic 71, 3) := by decide +kernel
theorem dX3_copyFrom_61 : decode cX3_copyFrom 61 = .ok (.aload_n 0, 1) := by decide +kernel
theorem dX3_copyFrom_62 : decode cX3_copyFrom 62 = .ok (.aload_n 1, 1) := by decide +kernel
theorem dX3_copyFrom_63 : decode cX3_copyFrom 63 = .ok (.getfield 29, 3) := by decide +kernel
theorem dX3_copyFrom_66 : decode cX3_copyFrom 66 = .ok (.putfield 29, 3) := by decide +kernel
theorem dX3_copyFrom_69 : decode cX3_copyFrom 69 = .ok (.aload_n 0, 1) := by decide +kernel
theorem dX3_copyFrom_70 : decode cX3_copyFrom 70 = .ok (.aload_n 1, 1) := by decide +kernel
theorem dX3_copyFrom_71 : decode cX3_copyFrom 71 = .ok (.getfield 33, 3) := by decide +kernel
theorem dX3_copyFrom_74 : decode cX3_copyFrom 74 = .ok (.putfield 33, 3) := by decide +kernel
theorem dX3_copyFrom_77 : decode cX3_copyFrom 77 = .ok (.return_, 1) := by decide +kernel
theorem dX4_init_0 : decode cX4_init 0 = .ok (.aload_n 0, 1) := by decide +kernel
theorem dX4_init_1 : decode cX4_init 1 = .ok (.invokespecial 3, 3) := by decide +kernel
theorem dX4_init_4 : decode cX4_init 4 = .ok (.aload_n 0, 1) := by decide +kernel
theorem dX4_init_5 : decode cX4_init 5 = .ok (.new 9, 3) := by decide +kernel
theorem dX4_init_8 : decode cX4_init 8 = .ok (.dup, 1) := by decide +kernel
theorem dX4_init_9 : decode cX4_init 9 = .ok (.invokespecial 11, 3) := by decide +kernel
theorem dX4_init_12 : decode cX4_init 12 = .ok (.putfield 12, 3) := by decide +kernel
theorem dX4_init_15 : decode cX4_init 15 = .ok (.aload_n 0, 1) := by decide +kernel
theorem dX4_init_16 : decode cX4_init 16 = .ok (.new 18, 3) := by decide +kernel
theorem dX4_init_19 : decode cX4_init 19 = .ok (.dup, 1) := by decide +kernel
theorem dX4_init_20 : decode cX4_init 20 = .ok (.invokespecial 20, 3) := by decide +kernel
theorem dX4_init_23 : decode cX4_init 23 = .ok (.putfield 21, 3) := by decide +kernel
theorem dX4_init_26 : decode cX4_init 26 = .ok (.aload_n 0, 1) := by decide +kernel
theorem dX4_init_27 : decode cX4_init 27 = .ok (.bipush 40, 2) := by decide +kernel
theorem dX4_init_29 : decode cX4_init 29 = .ok (.newarray .int, 2) := by decide +kernel
theorem dX4_init_31 : decode cX4_init 31 = .ok (.putfield 25, 3) := by decide +kernel
theorem dX4_init_34 : decode cX4_init 34 = .ok (.aload_n 0, 1) := by decide +kernel
theorem dX4_init_35 : decode cX4_init 35 = .ok (.iconst 0, 1) := by decide +kernel
theorem dX4_init_36 : decode cX4_init 36 = .ok (.putfield 29, 3) := by decide +kernel
theorem dX4_init_39 : decode cX4_init 39 = .ok (.aload_n 0, 1) := by decide +kernel
theorem dX4_init_40 : decode cX4_init 40 = .ok (.iconst 0, 1) := by decide +kernel
theorem dX4_init_41 : decode cX4_init 41 = .ok (.putfield 33, 3) := by decide +kernel
theorem dX4_init_44 : decode cX4_init 44 = .ok (.aload_n 0, 1) := by decide +kernel
theorem dX4_init_45 : decode cX4_init 45 = .ok (.iconst 0, 1) := by decide +kernel
theorem dX4_init_46 : decode cX4_init 46 = .ok (.putfield 36, 3) := by decide +kernel
theorem dX4_init_49 : decode cX4_init 49 = .ok (.aload_n 0, 1) := by decide +kernel
theorem dX4_init_50 : decode cX4_init 50 = .ok (.iconst 0, 1) := by decide +kernel
theorem dX4_init_51 : decode cX4_init 51 = .ok (.putfield 39, 3) := by decide +kernel
theorem dX4_init_54 : decode cX4_init 54 = .ok (.aload_n 0, 1) := by decide +kernel
theorem dX4_init_55 : decode cX4_init 55 = .ok (.iconst 0, 1) := by decide +kernel
theorem dX4_init_56 : decode cX4_init 56 = .ok (.putfield 43, 3) := by decide +kernel
theorem dX4_init_59 : decode cX4_init 59 = .ok (.aload_n 0, 1) := by decide +kernel
theorem dX4_init_60 : decode cX4_init 60 = .ok (.iconst (-1), 1) := by decide +kernel
theorem dX4_init_61 : decode cX4_init 61 = .ok (.putfield 46, 3) := by decide +kernel
theorem dX4_init_64 : decode cX4_init 64 = .ok (.return_, 1) := by decide +kernel
theorem dX4_readAll_0 : decode cX4_readAll 0 = .ok (.aload_n 0, 1) := by decide +kernel
theorem dX4_readAll_1 : decode cX4_readAll 1 = .ok (.invokevirtual 49, 3) := by decide +kernel
theorem dX4_readAll_4 : decode cX4_readAll 4 = .ok (.iconst 0, 1) := by decide +kernel
theorem dX4_readAll_5 : decode cX4_readAll 5 = .ok (.istore_n 2, 1) := by decide +kernel
theorem dX4_readAll_6 : decode cX4_readAll 6 = .ok (.iload_n 2, 1) := by decide +kernel
theorem dX4_readAll_7 : decode cX4_readAll 7 = .ok (.sipush 400, 3) := by decide +kernel
theorem dX4_readAll_10 : decode cX4_readAll 10 = .ok (.if_icmp .gt 145, 3) := by decide +kernel
theorem dX4_readAll_13 : decode cX4_readAll 13 = .ok (.aload_n 0, 1) := by decide +kernel
theorem dX4_readAll_14 : decode cX4_readAll 14 = .ok (.getfield 39, 3) := by decide +kernel
theorem dX4_readAll_17 : decode cX4_readAll 17 = .ok (.ifCond .ne 138, 3) := by decide +kernel
theorem dX4_readAll_20 : decode cX4_readAll 20 = .ok (.aload_n 0, 1) := by decide +kernel
theorem dX4_readAll_21 : decode cX4_readAll 21 = .ok (.getfield 21, 3) := by decide +kernel
theorem dX4_readAll_24 : decode cX4_readAll 24 = .ok (.aload_n 1, 1) := by decide +kernel
theorem dX4_readAll_25 : decode cX4_readAll 25 = .ok (.invokevirtual 54, 3) := by decide +kernel
theorem dX4_readAll_28 : decode cX4_readAll 28 = .ok (.aload_n 0, 1) := by decide +kernel
theorem dX4_readAll_29 : decode cX4_readAll 29 = .ok (.getfield 33, 3) := by decide +kernel
theorem dX4_readAll_32 : decode cX4_readAll 32 = .ok (.tableswitch 106 0 4 #[36, 50, 64, 78, 92], 36) := by decide +kernel
theorem dX4_readAll_68 : decode cX4_readAll 68 = .ok (.aload_n 0, 1) := by decide +kernel
theorem dX4_readAll_69 : decode cX4_readAll 69 = .ok (.aload_n 0, 1) := by decide +kernel
theorem dX4_readAll_70 : decode cX4_readAll 70 = .ok (.getfield 21, 3) := by decide +kernel
theorem dX4_readAll_73 : decode cX4_readAll 73 = .ok (.getfield 58, 3) := by decide +kernel
theorem dX4_readAll_76 : decode cX4_readAll 76 = .ok (.invokevirtual 61, 3) := by decide +kernel
theorem dX4_readAll_79 : decode cX4_readAll 79 = .ok (.goto 70, 3) := by decide +kernel
theorem dX4_readAll_82 : decode cX4_readAll 82 = .ok (.aload_n 0, 1) := by decide +kernel
theorem dX4_readAll_83 : decode cX4_readAll 83 = .ok (.aload_n 0, 1) := by decide +kernel
theorem dX4_readAll_84 : decode cX4_readAll 84 = .ok (.getfield 21, 3) := by decide +kernel
theorem dX4_readAll_87 : decode cX4_readAll 87 = .ok (.getfield 58, 3) := by decide +kernel
theorem dX4_readAll_90 : decode cX4_readAll 90 = .ok (.invokevirtual 65, 3) := by decide +kernel
theorem dX4_readAll_93 : decode cX4_readAll 93 = .ok (.goto 56, 3) := by decide +kernel
theorem dX4_readAll_96 : decode cX4_readAll 96 = .ok (.aload_n 0, 1) := by decide +kernel
theorem dX4_readAll_97 : decode cX4_readAll 97 = .ok (.aload_n 0, 1) := by decide +kernel
theorem dX4_readAll_98 : decode cX4_readAll 98 = .ok (.getfield 21, 3) := by decide +kernel
theorem dX4_readAll_101 : decode cX4_readAll 101 = .ok (.getfield 58, 3) := by decide +kernel
theorem dX4_readAll_104 : decode cX4_readAll 104 = .ok (.invokevirtual 68, 3) := by decide +kernel
theorem dX4_readAll_107 : decode cX4_readAll 107 = .ok (.goto 42, 3) := by decide +kernel
theorem dX4_readAll_110 : decode cX4_readAll 110 = .ok (.aload_n 0, 1) := by decide +kernel
theorem dX4_readAll_111 : decode cX4_readAll 111 = .ok (.aload_n 0, 1) := by decide +kernel
theorem dX4_readAll_112 : decode cX4_readAll 112 = .ok (.getfield 21, 3) := by decide +kernel
theorem dX4_readAll_115 : decode cX4_readAll 115 = .ok (.getfield 58, 3) := by decide +kernel
theorem dX4_readAll_118 : decode cX4_readAll 118 = .ok (.invokevirtual 71, 3) := by decide +kernel
theorem dX4_readAll_121 : decode cX4_readAll 121 = .ok (.goto 28, 3) := by decide +kernel
theorem dX4_readAll_124 : decode cX4_readAll 124 = .ok (.aload_n 0, 1) := by decide +kernel
theorem dX4_readAll_125 : decode cX4_readAll 125 = .ok (.aload_n 0, 1) := by decide +kernel
theorem dX4_readAll_126 : decode cX4_readAll 126 = .ok (.getfield 21, 3) := by decide +kernel
theorem dX4_readAll_129 : decode cX4_readAll 129 = .ok (.getfield 58, 3) := by decide +kernel
theorem dX4_readAll_132 : decode cX4_readAll 132 = .ok (.invokevirtual 74, 3) := by decide +kernel
theorem dX4_readAll_135 : decode cX4_readAll 135 = .ok (.goto 14, 3) := by decide +kernel
theorem dX4_readAll_138 : decode cX4_readAll 138 = .ok (.aload_n 0, 1) := by decide +kernel
theorem dX4_readAll_139 : decode cX4_readAll 139 = .ok (.aload_n 0, 1) := by decide +kernel
theorem dX4_readAll_140 : decode cX4_readAll 140 = .ok (.getfield 21, 3) := by decide +kernel
theorem dX4_readAll_143 : decode cX4_readAll 143 = .ok (.getfield 58, 3) := by decide +kernel
theorem dX4_readAll_146 : decode cX4_readAll 146 = .ok (.invokevirtual 77, 3) := by decide +kernel
theorem dX4_readAll_149 : decode cX4_readAll 149 = .ok (.iinc 2 1, 3) := by decide +kernel
theorem dX4_readAll_152 : decode cX4_readAll 152 = .ok (.goto (-146), 3) := by decide +kernel
theorem dX4_readAll_155 : decode cX4_readAll 155 = .ok (.aload_n 0, 1) := by decide +kernel
theorem dX4_readAll_156 : decode cX4_readAll 156 = .ok (.getfield 43, 3) := by decide +kernel
theorem dX4_readAll_159 : decode cX4_readAll 159 = .ok (.ifCond .ne 7, 3) := by decide +kernel
theorem dX4_readAll_162 : decode cX4_readAll 162 = .ok (.iconst 1, 1) := by decide +kernel
theorem dX4_readAll_163 : decode cX4_readAll 163 = .ok (.goto 4, 3) := by decide +kernel
theorem dX4_readAll_166 : decode cX4_readAll 166 = .ok (.iconst 0, 1) := by decide +kernel
theorem dX4_readAll_167 : decode cX4_readAll 167 = .ok (.ireturn, 1) := by decide +kernel
theorem dX4_begin_0 : decode cX4_begin 0 = .ok (.aload_n 0, 1) := by decide +kernel
theorem dX4_begin_1 : decode cX4_begin 1 = .ok (.getfield 12, 3) := by decide +kernel
theorem dX4_begin_4 : decode cX4_begin 4 = .ok (.invokevirtual 80, 3) := by decide +kernel
theorem dX4_begin_7 : decode cX4_begin 7 = .ok (.aload_n 0, 1) := by decide +kernel
theorem dX4_begin_8 : decode cX4_begin 8 = .ok (.getfield 21, 3) := by decide +kernel
theorem dX4_begin_11 : decode cX4_begin 11 = .ok (.invokevirtual 83, 3) := by decide +kernel
theorem dX4_begin_14 : decode cX4_begin 14 = .ok (.aload_n 0, 1) := by decide +kernel
theorem dX4_begin_15 : decode cX4_begin 15 = .ok (.iconst 0, 1) := by decide +kernel
theorem dX4_begin_16 : decode cX4_begin 16 = .ok (.putfield 29, 3) := by decide +kernel
theorem dX4_begin_19 : decode cX4_begin 19 = .ok (.aload_n 0, 1) := by decide +kernel
theorem dX4_begin_20 : decode cX4_begin 20 = .ok (.iconst 0, 1) := by decide +kernel
theorem dX4_begin_21 : decode cX4_begin 21 = .ok (.putfield 33, 3) := by decide +kernel
theorem dX4_begin_24 : decode cX4_begin 24 = .ok (.aload_n 0, 1) := by decide +kernel
theorem dX4_begin_25 : decode cX4_begin 25 = .ok (.iconst 0, 1) := by decide +kernel
theorem dX4_begin_26 : decode cX4_begin 26 = .ok (.putfield 36, 3) := by decide +kernel
theorem dX4_begin_29 : decode cX4_begin 29 = .ok (.aload_n 0, 1) := by decide +kernel
theorem dX4_begin_30 : decode cX4_begin 30 = .ok (.iconst 0, 1) := by decide +kernel
theorem dX4_begin_31 : decode cX4_begin 31 = .ok (.putfield 39, 3) := by decide +kernel
theorem dX4_begin_34 : decode cX4_begin 34 = .ok (.aload_n 0, 1) := by decide +kernel
theorem dX4_begin_35 : decode cX4_begin 35 = .ok (.iconst 0, 1) := by decide +kernel
theorem dX4_begin_36 : decode cX4_begin 36 = .ok (.putfield 43, 3) := by decide +kernel
theorem dX4_begin_39 : decode cX4_begin 39 = .ok (.aload_n 0, 1) := by decide +kernel
theorem dX4_begin_40 : decode cX4_begin 40 = .ok (.iconst (-1), 1) := by decide +kernel
theorem dX4_begin_41 : decode cX4_begin 41 = .ok (.putfield 46, 3) := by decide +kernel
theorem dX4_begin_44 : decode cX4_begin 44 = .ok (.return_, 1) := by decide +kernel
theorem dX4_refuse_0 : decode cX4_refuse 0 = .ok (.aload_n 0, 1) := by decide +kernel
theorem dX4_refuse_1 : decode cX4_refuse 1 = .ok (.iload_n 1, 1) := by decide +kernel
theorem dX4_refuse_2 : decode cX4_refuse 2 = .ok (.putfield 43, 3) := by decide +kernel
theorem dX4_refuse_5 : decode cX4_refuse 5 = .ok (.aload_n 0, 1) := by decide +kernel
theorem dX4_refuse_6 : decode cX4_refuse 6 = .ok (.aload_n 0, 1) := by decide +kernel
theorem dX4_refuse_7 : decode cX4_refuse 7 = .ok (.getfield 21, 3) := by decide +kernel
theorem dX4_refuse_10 : decode cX4_refuse 10 = .ok (.getfield 84, 3) := by decide +kernel
theorem dX4_refuse_13 : decode cX4_refuse 13 = .ok (.putfield 46, 3) := by decide +kernel
theorem dX4_refuse_16 : decode cX4_refuse 16 = .ok (.aload_n 0, 1) := by decide +kernel
theorem dX4_refuse_17 : decode cX4_refuse 17 = .ok (.iconst 1, 1) := by decide +kernel
theorem dX4_refuse_18 : decode cX4_refuse 18 = .ok (.putfield 39, 3) := by decide +kernel
theorem dX4_refuse_21 : decode cX4_refuse 21 = .ok (.return_, 1) := by decide +kernel
theorem dX4_takeLine_0 : decode cX4_takeLine 0 = .ok (.iload_n 1, 1) := by decide +kernel
theorem dX4_takeLine_1 : decode cX4_takeLine 1 = .ok (.ifCond .ne 11, 3) := by decide +kernel
theorem dX4_takeLine_4 : decode cX4_takeLine 4 = .ok (.aload_n 0, 1) := by decide +kernel
theorem dX4_takeLine_5 : decode cX4_takeLine 5 = .ok (.iconst 1, 1) := by decide +kernel
theorem dX4_takeLine_6 : decode cX4_takeLine 6 = .ok (.putfield 39, 3) := by decide +kernel
theorem dX4_takeLine_9 : decode cX4_takeLine 9 = .ok (.goto 51, 3) := by decide +kernel
theorem dX4_takeLine_12 : decode cX4_takeLine 12 = .ok (.iload_n 1, 1) := by decide +kernel
theorem dX4_takeLine_13 : decode cX4_takeLine 13 = .ok (.iconst 3, 1) := by decide +kernel
theorem dX4_takeLine_14 : decode cX4_takeLine 14 = .ok (.if_icmp .eq 11, 3) := by decide +kernel
theorem dX4_takeLine_17 : decode cX4_takeLine 17 = .ok (.aload_n 0, 1) := by decide +kernel
theorem dX4_takeLine_18 : decode cX4_takeLine 18 = .ok (.iconst 1, 1) := by decide +kernel
theorem dX4_takeLine_19 : decode cX4_takeLine 19 = .ok (.invokevirtual 87, 3) := by decide +kernel
theorem dX4_takeLine_22 : decode cX4_takeLine 22 = .ok (.goto 38, 3) := by decide +kernel
theorem dX4_takeLine_25 : decode cX4_takeLine 25 = .ok (.aload_n 0, 1) := by decide +kernel
theorem dX4_takeLine_26 : decode cX4_takeLine 26 = .ok (.getfield 12, 3) := by decide +kernel
theorem dX4_takeLine_29 : decode cX4_takeLine 29 = .ok (.invokevirtual 90, 3) := by decide +kernel
theorem dX4_takeLine_32 : decode cX4_takeLine 32 = .ok (.ifCond .eq 11, 3) := by decide +kernel
theorem dX4_takeLine_35 : decode cX4_takeLine 35 = .ok (.aload_n 0, 1) := by decide +kernel
theorem dX4_takeLine_36 : decode cX4_takeLine 36 = .ok (.iconst 3, 1) := by decide +kernel
theorem dX4_takeLine_37 : decode cX4_takeLine 37 = .ok (.invokevirtual 87, 3) := by decide +kernel
theorem dX4_takeLine_40 : decode cX4_takeLine 40 = .ok (.goto 20, 3) := by decide +kernel
theorem dX4_takeLine_43 : decode cX4_takeLine 43 = .ok (.aload_n 0, 1) := by decide +kernel
theorem dX4_takeLine_44 : decode cX4_takeLine 44 = .ok (.getfield 12, 3) := by decide +kernel
theorem dX4_takeLine_47 : decode cX4_takeLine 47 = .ok (.invokevirtual 94, 3) := by decide +kernel
theorem dX4_takeLine_50 : decode cX4_takeLine 50 = .ok (.aload_n 0, 1) := by decide +kernel
theorem dX4_takeLine_51 : decode cX4_takeLine 51 = .ok (.iconst 0, 1) := by decide +kernel
theorem dX4_takeLine_52 : decode cX4_takeLine 52 = .ok (.putfield 36, 3) := by decide +kernel
theorem dX4_takeLine_55 : decode cX4_takeLine 55 = .ok (.aload_n 0, 1) := by decide +kernel
theorem dX4_takeLine_56 : decode cX4_takeLine 56 = .ok (.iconst 1, 1) := by decide +kernel
theorem dX4_takeLine_57 : decode cX4_takeLine 57 = .ok (.putfield 33, 3) := by decide +kernel
theorem dX4_takeLine_60 : decode cX4_takeLine 60 = .ok (.return_, 1) := by decide +kernel
theorem dX4_takeUnit_0 : decode cX4_takeUnit 0 = .ok (.aload_n 0, 1) := by decide +kernel
theorem dX4_takeUnit_1 : decode cX4_takeUnit 1 = .ok (.iconst 4, 1) := by decide +kernel
theorem dX4_takeUnit_2 : decode cX4_takeUnit 2 = .ok (.putfield 33, 3) := by decide +kernel
theorem dX4_takeUnit_5 : decode cX4_takeUnit 5 = .ok (.iload_n 1, 1) := by decide +kernel
theorem dX4_takeUnit_6 : decode cX4_takeUnit 6 = .ok (.iconst 2, 1) := by decide +kernel
theorem dX4_takeUnit_7 : decode cX4_takeUnit 7 = .ok (.if_icmp .ne 20, 3) := by decide +kernel
theorem dX4_takeUnit_10 : decode cX4_takeUnit 10 = .ok (.aload_n 0, 1) := by decide +kernel
theorem dX4_takeUnit_11 : decode cX4_takeUnit 11 = .ok (.getfield 12, 3) := by decide +kernel
theorem dX4_takeUnit_14 : decode cX4_takeUnit 14 = .ok (.aload_n 0, 1) := by decide +kernel
theorem dX4_takeUnit_15 : decode cX4_takeUnit 15 = .ok (.getfield 21, 3) := by decide +kernel
theorem dX4_takeUnit_18 : decode cX4_takeUnit 18 = .ok (.getfield 97, 3) := by decide +kernel
theorem dX4_takeUnit_21 : decode cX4_takeUnit 21 = .ok (.invokevirtual 100, 3) := by decide +kernel
theorem dX4_takeUnit_24 : decode cX4_takeUnit 24 = .ok (.goto 26, 3) := by decide +kernel
theorem dX4_takeUnit_27 : decode cX4_takeUnit 27 = .ok (.iload_n 1, 1) := by decide +kernel
theorem dX4_takeUnit_28 : decode cX4_takeUnit 28 = .ok (.invokestatic 103, 3) := by decide +kernel
theorem dX4_takeUnit_31 : decode cX4_takeUnit 31 = .ok (.ifCond .eq 14, 3) := by decide +kernel
theorem dX4_takeUnit_34 : decode cX4_takeUnit 34 = .ok (.aload_n 0, 1) := by decide +kernel
theorem dX4_takeUnit_35 : decode cX4_takeUnit 35 = .ok (.getfield 12, 3) := by decide +kernel
theorem dX4_takeUnit_38 : decode cX4_takeUnit 38 = .ok (.iload_n 1, 1) := by decide +kernel
theorem dX4_takeUnit_39 : decode cX4_takeUnit 39 = .ok (.invokevirtual 107, 3) := by decide +kernel
theorem dX4_takeUnit_42 : decode cX4_takeUnit 42 = .ok (.goto 8, 3) := by decide +kernel
theorem dX4_takeUnit_45 : decode cX4_takeUnit 45 = .ok (.aload_n 0, 1) := by decide +kernel
theorem dX4_takeUnit_46 : decode cX4_takeUnit 46 = .ok (.iconst 1, 1) := by decide +kernel
theorem dX4_takeUnit_47 : decode cX4_takeUnit 47 = .ok (.invokevirtual 87, 3) := by decide +kernel
theorem dX4_takeUnit_50 : decode cX4_takeUnit 50 = .ok (.return_, 1) := by decide +kernel
theorem dX4_takeDivisor_0 : decode cX4_takeDivisor 0 = .ok (.iload_n 1, 1) := by decide +kernel
theorem dX4_takeDivisor_1 : decode cX4_takeDivisor 1 = .ok (.iconst 2, 1) := by decide +kernel
theorem dX4_takeDivisor_2 : decode cX4_takeDivisor 2 = .ok (.if_icmp .eq 11, 3) := by decide +kernel
theorem dX4_takeDivisor_5 : decode cX4_takeDivisor 5 = .ok (.aload_n 0, 1) := by decide +kernel
theorem dX4_takeDivisor_6 : decode cX4_takeDivisor 6 = .ok (.iconst 1, 1) := by decide +kernel
theorem dX4_takeDivisor_7 : decode cX4_takeDivisor 7 = .ok (.invokevirtual 87, 3) := by decide +kernel
theorem dX4_takeDivisor_10 : decode cX4_takeDivisor 10 = .ok (.goto 40, 3) := by decide +kernel
theorem dX4_takeDivisor_13 : decode cX4_takeDivisor 13 = .ok (.aload_n 0, 1) := by decide +kernel
theorem dX4_takeDivisor_14 : decode cX4_takeDivisor 14 = .ok (.getfield 21, 3) := by decide +kernel
theorem dX4_takeDivisor_17 : decode cX4_takeDivisor 17 = .ok (.getfield 97, 3) := by decide +kernel
theorem dX4_takeDivisor_20 : decode cX4_takeDivisor 20 = .ok (.ifCond .ne 11, 3) := by decide +kernel
theorem dX4_takeDivisor_23 : decode cX4_takeDivisor 23 = .ok (.aload_n 0, 1) := by decide +kernel
theorem dX4_takeDivisor_24 : decode cX4_takeDivisor 24 = .ok (.iconst 2, 1) := by decide +kernel
theorem dX4_takeDivisor_25 : decode cX4_takeDivisor 25 = .ok (.invokevirtual 87, 3) := by decide +kernel
theorem dX4_takeDivisor_28 : decode cX4_takeDivisor 28 = .ok (.goto 22, 3) := by decide +kernel
theorem dX4_takeDivisor_31 : decode cX4_takeDivisor 31 = .ok (.aload_n 0, 1) := by decide +kernel
theorem dX4_takeDivisor_32 : decode cX4_takeDivisor 32 = .ok (.getfield 12, 3) := by decide +kernel
theorem dX4_takeDivisor_35 : decode cX4_takeDivisor 35 = .ok (.aload_n 0, 1) := by decide +kernel
theorem dX4_takeDivisor_36 : decode cX4_takeDivisor 36 = .ok (.getfield 21, 3) := by decide +kernel
theorem dX4_takeDivisor_39 : decode cX4_takeDivisor 39 = .ok (.getfield 97, 3) := by decide +kernel
theorem dX4_takeDivisor_42 : decode cX4_takeDivisor 42 = .ok (.invokevirtual 100, 3) := by decide +kernel
theorem dX4_takeDivisor_45 : decode cX4_takeDivisor 45 = .ok (.aload_n 0, 1) := by decide +kernel
theorem dX4_takeDivisor_46 : decode cX4_takeDivisor 46 = .ok (.iconst 4, 1) := by decide +kernel
theorem dX4_takeDivisor_47 : decode cX4_takeDivisor 47 = .ok (.putfield 33, 3) := by decide +kernel
theorem dX4_takeDivisor_50 : decode cX4_takeDivisor 50 = .ok (.return_, 1) := by decide +kernel
theorem dX4_takeTest_0 : decode cX4_takeTest 0 = .ok (.iload_n 1, 1) := by decide +kernel
theorem dX4_takeTest_1 : decode cX4_takeTest 1 = .ok (.bipush 7, 2) := by decide +kernel
theorem dX4_takeTest_3 : decode cX4_takeTest 3 = .ok (.if_icmp .eq 22, 3) := by decide +kernel
theorem dX4_takeTest_6 : decode cX4_takeTest 6 = .ok (.iload_n 1, 1) := by decide +kernel
theorem dX4_takeTest_7 : decode cX4_takeTest 7 = .ok (.bipush 22, 2) := by decide +kernel
theorem dX4_takeTest_9 : decode cX4_takeTest 9 = .ok (.if_icmp .eq 16, 3) := by decide +kernel
theorem dX4_takeTest_12 : decode cX4_takeTest 12 = .ok (.aload_n 0, 1) := by decide +kernel
theorem dX4_takeTest_13 : decode cX4_takeTest 13 = .ok (.iconst 1, 1) := by decide +kernel
theorem dX4_takeTest_14 : decode cX4_takeTest 14 = .ok (.putfield 36, 3) := by decide +kernel
theorem dX4_takeTest_17 : decode cX4_takeTest 17 = .ok (.aload_n 0, 1) := by decide +kernel
theorem dX4_takeTest_18 : decode cX4_takeTest 18 = .ok (.iload_n 1, 1) := by decide +kernel
theorem dX4_takeTest_19 : decode cX4_takeTest 19 = .ok (.invokevirtual 65, 3) := by decide +kernel
theorem dX4_takeTest_22 : decode cX4_takeTest 22 = .ok (.goto 34, 3) := by decide +kernel
theorem dX4_takeTest_25 : decode cX4_takeTest 25 = .ok (.aload_n 0, 1) := by decide +kernel
theorem dX4_takeTest_26 : decode cX4_takeTest 26 = .ok (.bipush 7, 2) := by decide +kernel
theorem dX4_takeTest_28 : decode cX4_takeTest 28 = .ok (.invokevirtual 110, 3) := by decide +kernel
theorem dX4_takeTest_31 : decode cX4_takeTest 31 = .ok (.aload_n 0, 1) := by decide +kernel
theorem dX4_takeTest_32 : decode cX4_takeTest 32 = .ok (.bipush 22, 2) := by decide +kernel
theorem dX4_takeTest_34 : decode cX4_takeTest 34 = .ok (.invokevirtual 110, 3) := by decide +kernel
theorem dX4_takeTest_37 : decode cX4_takeTest 37 = .ok (.iadd, 1) := by decide +kernel
theorem dX4_takeTest_38 : decode cX4_takeTest 38 = .ok (.bipush 8, 2) := by decide +kernel
theorem dX4_takeTest_40 : decode cX4_takeTest 40 = .ok (.if_icmp .lt 11, 3) := by decide +kernel
theorem dX4_takeTest_43 : decode cX4_takeTest 43 = .ok (.aload_n 0, 1) := by decide +kernel
theorem dX4_takeTest_44 : decode cX4_takeTest 44 = .ok (.iconst 3, 1) := by decide +kernel
theorem dX4_takeTest_45 : decode cX4_takeTest 45 = .ok (.invokevirtual 87, 3) := by decide +kernel
theorem dX4_takeTest_48 : decode cX4_takeTest 48 = .ok (.goto 8, 3) := by decide +kernel
theorem dX4_takeTest_51 : decode cX4_takeTest 51 = .ok (.aload_n 0, 1) := by decide +kernel
theorem dX4_takeTest_52 : decode cX4_takeTest 52 = .ok (.iload_n 1, 1) := by decide +kernel
theorem dX4_takeTest_53 : decode cX4_takeTest 53 = .ok (.invokevirtual 114, 3) := by decide +kernel
theorem dX4_takeTest_56 : decode cX4_takeTest 56 = .ok (.return_, 1) := by decide +kernel
theorem dX4_takeOperator_0 : decode cX4_takeOperator 0 = .ok (.iload_n 1, 1) := by decide +kernel
theorem dX4_takeOperator_1 : decode cX4_takeOperator 1 = .ok (.invokestatic 117, 3) := by decide +kernel
theorem dX4_takeOperator_4 : decode cX4_takeOperator 4 = .ok (.ifCond .eq 26, 3) := by decide +kernel
theorem dX4_takeOperator_7 : decode cX4_takeOperator 7 = .ok (.aload_n 0, 1) := by decide +kernel
theorem dX4_takeOperator_8 : decode cX4_takeOperator 8 = .ok (.iload_n 1, 1) := by decide +kernel
theorem dX4_takeOperator_9 : decode cX4_takeOperator 9 = .ok (.invokevirtual 120, 3) := by decide +kernel
theorem dX4_takeOperator_12 : decode cX4_takeOperator 12 = .ok (.aload_n 0, 1) := by decide +kernel
theorem dX4_takeOperator_13 : decode cX4_takeOperator 13 = .ok (.iload_n 1, 1) := by decide +kernel
theorem dX4_takeOperator_14 : decode cX4_takeOperator 14 = .ok (.bipush 21, 2) := by decide +kernel
theorem dX4_takeOperator_16 : decode cX4_takeOperator 16 = .ok (.if_icmp .ne 7, 3) := by decide +kernel
theorem dX4_takeOperator_19 : decode cX4_takeOperator 19 = .ok (.iconst 2, 1) := by decide +kernel
theorem dX4_takeOperator_20 : decode cX4_takeOperator 20 = .ok (.goto 4, 3) := by decide +kernel
theorem dX4_takeOperator_23 : decode cX4_takeOperator 23 = .ok (.iconst 1, 1) := by decide +kernel
theorem dX4_takeOperator_24 : decode cX4_takeOperator 24 = .ok (.putfield 33, 3) := by decide +kernel
theorem dX4_takeOperator_27 : decode cX4_takeOperator 27 = .ok (.goto 105, 3) := by decide +kernel
theorem dX4_takeOperator_30 : decode cX4_takeOperator 30 = .ok (.aload_n 0, 1) := by decide +kernel
theorem dX4_takeOperator_31 : decode cX4_takeOperator 31 = .ok (.getfield 36, 3) := by decide +kernel
theorem dX4_takeOperator_34 : decode cX4_takeOperator 34 = .ok (.iconst 1, 1) := by decide +kernel
theorem dX4_takeOperator_35 : decode cX4_takeOperator 35 = .ok (.if_icmp .ne 28, 3) := by decide +kernel
theorem dX4_takeOperator_38 : decode cX4_takeOperator 38 = .ok (.iload_n 1, 1) := by decide +kernel
theorem dX4_takeOperator_39 : decode cX4_takeOperator 39 = .ok (.invokestatic 123, 3) := by decide +kernel
theorem dX4_takeOperator_42 : decode cX4_takeOperator 42 = .ok (.ifCond .eq 21, 3) := by decide +kernel
end
