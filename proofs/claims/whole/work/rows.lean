section
-- ===== PART A: goes FIRST, ahead of the names: the tables' words, and 'selects' of the private methods out of them =====
/-- a private method of a class that the tables say can be made, by its rows of tables_1 -/
def lw_okq (q : MethodName × Nat) : Prop := (q.1.cls ≠ "java/lang/invoke/MethodHandle" ∧ q.1.cls ≠ "java/lang/invoke/VarHandle") ∧ Cond.instantiable q.1.cls q.2 ∈ tables_1 ∧ Cond.privateMethod q.1 ∈ tables_1 ∧ Cond.instanceMethod q.1 ∈ tables_1
theorem lw_p0 : lw_okq (⟨"PaperAger$Law", "work", "(II[I)I"⟩, 7) := ⟨⟨by decide +kernel, by decide +kernel⟩, List.mem_of_getElem? (i := 85) (by decide +kernel), List.mem_of_getElem? (i := 492) (by decide +kernel), List.mem_of_getElem? (i := 493) (by decide +kernel)⟩
theorem lw_p1 : lw_okq (⟨"PaperAger$Archive", "drawDeaths", "()I"⟩, 11) := ⟨⟨by decide +kernel, by decide +kernel⟩, List.mem_of_getElem? (i := 31) (by decide +kernel), List.mem_of_getElem? (i := 544) (by decide +kernel), List.mem_of_getElem? (i := 545) (by decide +kernel)⟩
theorem lw_p2 : lw_okq (⟨"PaperAger$Archive", "drawTenThousandth", "()I"⟩, 11) := ⟨⟨by decide +kernel, by decide +kernel⟩, List.mem_of_getElem? (i := 31) (by decide +kernel), List.mem_of_getElem? (i := 548) (by decide +kernel), List.mem_of_getElem? (i := 549) (by decide +kernel)⟩
theorem lw_p3 : lw_okq (⟨"PaperAger$Archive", "passLeases", "()V"⟩, 11) := ⟨⟨by decide +kernel, by decide +kernel⟩, List.mem_of_getElem? (i := 31) (by decide +kernel), List.mem_of_getElem? (i := 554) (by decide +kernel), List.mem_of_getElem? (i := 555) (by decide +kernel)⟩
theorem lw_p4 : lw_okq (⟨"PaperAger$LawReader", "begin", "()V"⟩, 9) := ⟨⟨by decide +kernel, by decide +kernel⟩, List.mem_of_getElem? (i := 256) (by decide +kernel), List.mem_of_getElem? (i := 591) (by decide +kernel), List.mem_of_getElem? (i := 592) (by decide +kernel)⟩
theorem lw_p5 : lw_okq (⟨"PaperAger$Token", "takeWord", "(LPaperAger$Tape;)V"⟩, 4) := ⟨⟨by decide +kernel, by decide +kernel⟩, List.mem_of_getElem? (i := 264) (by decide +kernel), List.mem_of_getElem? (i := 619) (by decide +kernel), List.mem_of_getElem? (i := 620) (by decide +kernel)⟩
theorem lw_p6 : lw_okq (⟨"PaperAger$Token", "takeNumber", "(LPaperAger$Tape;)V"⟩, 4) := ⟨⟨by decide +kernel, by decide +kernel⟩, List.mem_of_getElem? (i := 264) (by decide +kernel), List.mem_of_getElem? (i := 675) (by decide +kernel), List.mem_of_getElem? (i := 676) (by decide +kernel)⟩
theorem lw_p7 : lw_okq (⟨"PaperAger$Token", "takeSign", "(I)V"⟩, 4) := ⟨⟨by decide +kernel, by decide +kernel⟩, List.mem_of_getElem? (i := 264) (by decide +kernel), List.mem_of_getElem? (i := 679) (by decide +kernel), List.mem_of_getElem? (i := 680) (by decide +kernel)⟩
theorem lw_p8 : lw_okq (⟨"PaperAger$LawReader", "takeLine", "(I)V"⟩, 9) := ⟨⟨by decide +kernel, by decide +kernel⟩, List.mem_of_getElem? (i := 256) (by decide +kernel), List.mem_of_getElem? (i := 739) (by decide +kernel), List.mem_of_getElem? (i := 740) (by decide +kernel)⟩
theorem lw_p9 : lw_okq (⟨"PaperAger$LawReader", "refuse", "(I)V"⟩, 9) := ⟨⟨by decide +kernel, by decide +kernel⟩, List.mem_of_getElem? (i := 256) (by decide +kernel), List.mem_of_getElem? (i := 743) (by decide +kernel), List.mem_of_getElem? (i := 744) (by decide +kernel)⟩
theorem lw_p10 : lw_okq (⟨"PaperAger$LawReader", "takeUnit", "(I)V"⟩, 9) := ⟨⟨by decide +kernel, by decide +kernel⟩, List.mem_of_getElem? (i := 256) (by decide +kernel), List.mem_of_getElem? (i := 756) (by decide +kernel), List.mem_of_getElem? (i := 757) (by decide +kernel)⟩
theorem lw_p11 : lw_okq (⟨"PaperAger$LawReader", "takeDivisor", "(I)V"⟩, 9) := ⟨⟨by decide +kernel, by decide +kernel⟩, List.mem_of_getElem? (i := 256) (by decide +kernel), List.mem_of_getElem? (i := 772) (by decide +kernel), List.mem_of_getElem? (i := 773) (by decide +kernel)⟩
theorem lw_p12 : lw_okq (⟨"PaperAger$LawReader", "takeTest", "(I)V"⟩, 9) := ⟨⟨by decide +kernel, by decide +kernel⟩, List.mem_of_getElem? (i := 256) (by decide +kernel), List.mem_of_getElem? (i := 776) (by decide +kernel), List.mem_of_getElem? (i := 777) (by decide +kernel)⟩
theorem lw_p13 : lw_okq (⟨"PaperAger$LawReader", "countWaiting", "(I)I"⟩, 9) := ⟨⟨by decide +kernel, by decide +kernel⟩, List.mem_of_getElem? (i := 256) (by decide +kernel), List.mem_of_getElem? (i := 780) (by decide +kernel), List.mem_of_getElem? (i := 781) (by decide +kernel)⟩
theorem lw_p14 : lw_okq (⟨"PaperAger$LawReader", "putSign", "(I)V"⟩, 9) := ⟨⟨by decide +kernel, by decide +kernel⟩, List.mem_of_getElem? (i := 256) (by decide +kernel), List.mem_of_getElem? (i := 784) (by decide +kernel), List.mem_of_getElem? (i := 785) (by decide +kernel)⟩
theorem lw_p15 : lw_okq (⟨"PaperAger$LawReader", "takeOperator", "(I)V"⟩, 9) := ⟨⟨by decide +kernel, by decide +kernel⟩, List.mem_of_getElem? (i := 256) (by decide +kernel), List.mem_of_getElem? (i := 788) (by decide +kernel), List.mem_of_getElem? (i := 789) (by decide +kernel)⟩
def lw_privs_1 : List (MethodName × Nat) := [(⟨"PaperAger$Law", "work", "(II[I)I"⟩, 7), (⟨"PaperAger$Archive", "drawDeaths", "()I"⟩, 11), (⟨"PaperAger$Archive", "drawTenThousandth", "()I"⟩, 11), (⟨"PaperAger$Archive", "passLeases", "()V"⟩, 11), (⟨"PaperAger$LawReader", "begin", "()V"⟩, 9), (⟨"PaperAger$Token", "takeWord", "(LPaperAger$Tape;)V"⟩, 4), (⟨"PaperAger$Token", "takeNumber", "(LPaperAger$Tape;)V"⟩, 4), (⟨"PaperAger$Token", "takeSign", "(I)V"⟩, 4), (⟨"PaperAger$LawReader", "takeLine", "(I)V"⟩, 9), (⟨"PaperAger$LawReader", "refuse", "(I)V"⟩, 9), (⟨"PaperAger$LawReader", "takeUnit", "(I)V"⟩, 9), (⟨"PaperAger$LawReader", "takeDivisor", "(I)V"⟩, 9), (⟨"PaperAger$LawReader", "takeTest", "(I)V"⟩, 9), (⟨"PaperAger$LawReader", "countWaiting", "(I)I"⟩, 9), (⟨"PaperAger$LawReader", "putSign", "(I)V"⟩, 9), (⟨"PaperAger$LawReader", "takeOperator", "(I)V"⟩, 9)]
theorem lw_r1 : ∀ q ∈ lw_privs_1, lw_okq q := List.forall_mem_cons.mpr ⟨lw_p0, List.forall_mem_cons.mpr ⟨lw_p1, List.forall_mem_cons.mpr ⟨lw_p2, List.forall_mem_cons.mpr ⟨lw_p3, List.forall_mem_cons.mpr ⟨lw_p4, List.forall_mem_cons.mpr ⟨lw_p5, List.forall_mem_cons.mpr ⟨lw_p6, List.forall_mem_cons.mpr ⟨lw_p7, List.forall_mem_cons.mpr ⟨lw_p8, List.forall_mem_cons.mpr ⟨lw_p9, List.forall_mem_cons.mpr ⟨lw_p10, List.forall_mem_cons.mpr ⟨lw_p11, List.forall_mem_cons.mpr ⟨lw_p12, List.forall_mem_cons.mpr ⟨lw_p13, List.forall_mem_cons.mpr ⟨lw_p14, List.forall_mem_cons.mpr ⟨lw_p15, fun _ h => absurd h List.not_mem_nil⟩⟩⟩⟩⟩⟩⟩⟩⟩⟩⟩⟩⟩⟩⟩⟩
theorem lw_p16 : lw_okq (⟨"PaperAger$LawReader", "putBinding", "(I)V"⟩, 9) := ⟨⟨by decide +kernel, by decide +kernel⟩, List.mem_of_getElem? (i := 256) (by decide +kernel), List.mem_of_getElem? (i := 795) (by decide +kernel), List.mem_of_getElem? (i := 796) (by decide +kernel)⟩
theorem lw_p17 : lw_okq (⟨"PaperAger$LawReader", "releaseFrom", "(I)V"⟩, 9) := ⟨⟨by decide +kernel, by decide +kernel⟩, List.mem_of_getElem? (i := 256) (by decide +kernel), List.mem_of_getElem? (i := 802) (by decide +kernel), List.mem_of_getElem? (i := 803) (by decide +kernel)⟩
theorem lw_p18 : lw_okq (⟨"PaperAger$LawReader", "takeEndOfAge", "()V"⟩, 9) := ⟨⟨by decide +kernel, by decide +kernel⟩, List.mem_of_getElem? (i := 256) (by decide +kernel), List.mem_of_getElem? (i := 809) (by decide +kernel), List.mem_of_getElem? (i := 810) (by decide +kernel)⟩
theorem lw_p19 : lw_okq (⟨"PaperAger$LawReader", "takeEndOfLine", "()V"⟩, 9) := ⟨⟨by decide +kernel, by decide +kernel⟩, List.mem_of_getElem? (i := 256) (by decide +kernel), List.mem_of_getElem? (i := 817) (by decide +kernel), List.mem_of_getElem? (i := 818) (by decide +kernel)⟩
theorem lw_p20 : lw_okq (⟨"PaperAger$LawReader", "takeJoint", "(I)V"⟩, 9) := ⟨⟨by decide +kernel, by decide +kernel⟩, List.mem_of_getElem? (i := 256) (by decide +kernel), List.mem_of_getElem? (i := 825) (by decide +kernel), List.mem_of_getElem? (i := 826) (by decide +kernel)⟩
theorem lw_p21 : lw_okq (⟨"PaperAger$Thought", "claimsStand", "(LPaperAger$Archive;LPaperAger$Paper;)Z"⟩, 5) := ⟨⟨by decide +kernel, by decide +kernel⟩, List.mem_of_getElem? (i := 340) (by decide +kernel), List.mem_of_getElem? (i := 893) (by decide +kernel), List.mem_of_getElem? (i := 894) (by decide +kernel)⟩
theorem lw_p22 : lw_okq (⟨"PaperAger$Thought", "imagine", "(LPaperAger$Archive;LPaperAger$Paper;II)LPaperAger$Paper;"⟩, 5) := ⟨⟨by decide +kernel, by decide +kernel⟩, List.mem_of_getElem? (i := 340) (by decide +kernel), List.mem_of_getElem? (i := 899) (by decide +kernel), List.mem_of_getElem? (i := 900) (by decide +kernel)⟩
theorem lw_p23 : lw_okq (⟨"PaperAger$Thought", "suffices", "(LPaperAger$Archive;I)Z"⟩, 5) := ⟨⟨by decide +kernel, by decide +kernel⟩, List.mem_of_getElem? (i := 340) (by decide +kernel), List.mem_of_getElem? (i := 918) (by decide +kernel), List.mem_of_getElem? (i := 919) (by decide +kernel)⟩
theorem lw_p24 : lw_okq (⟨"PaperAger$Thought", "countThumb", "(II)V"⟩, 5) := ⟨⟨by decide +kernel, by decide +kernel⟩, List.mem_of_getElem? (i := 340) (by decide +kernel), List.mem_of_getElem? (i := 939) (by decide +kernel), List.mem_of_getElem? (i := 940) (by decide +kernel)⟩
theorem lw_p25 : lw_okq (⟨"PaperAger$Archive", "isLeap", "(III)Z"⟩, 11) := ⟨⟨by decide +kernel, by decide +kernel⟩, List.mem_of_getElem? (i := 31) (by decide +kernel), List.mem_of_getElem? (i := 951) (by decide +kernel), List.mem_of_getElem? (i := 952) (by decide +kernel)⟩
theorem lw_p26 : lw_okq (⟨"PaperAgerModel", "isIn", "(III)Z"⟩, 55) := ⟨⟨by decide +kernel, by decide +kernel⟩, List.mem_of_getElem? (i := 1031) (by decide +kernel), List.mem_of_getElem? (i := 1212) (by decide +kernel), List.mem_of_getElem? (i := 1213) (by decide +kernel)⟩
theorem lw_p27 : lw_okq (⟨"PaperAgerModel", "isReader", "(I)Z"⟩, 55) := ⟨⟨by decide +kernel, by decide +kernel⟩, List.mem_of_getElem? (i := 1031) (by decide +kernel), List.mem_of_getElem? (i := 1220) (by decide +kernel), List.mem_of_getElem? (i := 1221) (by decide +kernel)⟩
theorem lw_p28 : lw_okq (⟨"PaperAgerModel", "isShelf", "(I)Z"⟩, 55) := ⟨⟨by decide +kernel, by decide +kernel⟩, List.mem_of_getElem? (i := 1031) (by decide +kernel), List.mem_of_getElem? (i := 1228) (by decide +kernel), List.mem_of_getElem? (i := 1229) (by decide +kernel)⟩
theorem lw_p29 : lw_okq (⟨"PaperAgerModel", "isUnread", "(I)V"⟩, 55) := ⟨⟨by decide +kernel, by decide +kernel⟩, List.mem_of_getElem? (i := 1031) (by decide +kernel), List.mem_of_getElem? (i := 1232) (by decide +kernel), List.mem_of_getElem? (i := 1233) (by decide +kernel)⟩
theorem lw_p30 : lw_okq (⟨"PaperAgerModel", "isPaper", "(I)Z"⟩, 55) := ⟨⟨by decide +kernel, by decide +kernel⟩, List.mem_of_getElem? (i := 1031) (by decide +kernel), List.mem_of_getElem? (i := 1240) (by decide +kernel), List.mem_of_getElem? (i := 1241) (by decide +kernel)⟩
theorem lw_p31 : lw_okq (⟨"PaperAgerModel", "doesLive", "(II)Z"⟩, 55) := ⟨⟨by decide +kernel, by decide +kernel⟩, List.mem_of_getElem? (i := 1031) (by decide +kernel), List.mem_of_getElem? (i := 1256) (by decide +kernel), List.mem_of_getElem? (i := 1257) (by decide +kernel)⟩
def lw_privs_2 : List (MethodName × Nat) := [(⟨"PaperAger$LawReader", "putBinding", "(I)V"⟩, 9), (⟨"PaperAger$LawReader", "releaseFrom", "(I)V"⟩, 9), (⟨"PaperAger$LawReader", "takeEndOfAge", "()V"⟩, 9), (⟨"PaperAger$LawReader", "takeEndOfLine", "()V"⟩, 9), (⟨"PaperAger$LawReader", "takeJoint", "(I)V"⟩, 9), (⟨"PaperAger$Thought", "claimsStand", "(LPaperAger$Archive;LPaperAger$Paper;)Z"⟩, 5), (⟨"PaperAger$Thought", "imagine", "(LPaperAger$Archive;LPaperAger$Paper;II)LPaperAger$Paper;"⟩, 5), (⟨"PaperAger$Thought", "suffices", "(LPaperAger$Archive;I)Z"⟩, 5), (⟨"PaperAger$Thought", "countThumb", "(II)V"⟩, 5), (⟨"PaperAger$Archive", "isLeap", "(III)Z"⟩, 11), (⟨"PaperAgerModel", "isIn", "(III)Z"⟩, 55), (⟨"PaperAgerModel", "isReader", "(I)Z"⟩, 55), (⟨"PaperAgerModel", "isShelf", "(I)Z"⟩, 55), (⟨"PaperAgerModel", "isUnread", "(I)V"⟩, 55), (⟨"PaperAgerModel", "isPaper", "(I)Z"⟩, 55), (⟨"PaperAgerModel", "doesLive", "(II)Z"⟩, 55)]
theorem lw_r2 : ∀ q ∈ lw_privs_2, lw_okq q := List.forall_mem_cons.mpr ⟨lw_p16, List.forall_mem_cons.mpr ⟨lw_p17, List.forall_mem_cons.mpr ⟨lw_p18, List.forall_mem_cons.mpr ⟨lw_p19, List.forall_mem_cons.mpr ⟨lw_p20, List.forall_mem_cons.mpr ⟨lw_p21, List.forall_mem_cons.mpr ⟨lw_p22, List.forall_mem_cons.mpr ⟨lw_p23, List.forall_mem_cons.mpr ⟨lw_p24, List.forall_mem_cons.mpr ⟨lw_p25, List.forall_mem_cons.mpr ⟨lw_p26, List.forall_mem_cons.mpr ⟨lw_p27, List.forall_mem_cons.mpr ⟨lw_p28, List.forall_mem_cons.mpr ⟨lw_p29, List.forall_mem_cons.mpr ⟨lw_p30, List.forall_mem_cons.mpr ⟨lw_p31, fun _ h => absurd h List.not_mem_nil⟩⟩⟩⟩⟩⟩⟩⟩⟩⟩⟩⟩⟩⟩⟩⟩
theorem lw_p32 : lw_okq (⟨"PaperAgerModel", "types", "(I)V"⟩, 55) := ⟨⟨by decide +kernel, by decide +kernel⟩, List.mem_of_getElem? (i := 1031) (by decide +kernel), List.mem_of_getElem? (i := 1264) (by decide +kernel), List.mem_of_getElem? (i := 1265) (by decide +kernel)⟩
theorem lw_p33 : lw_okq (⟨"PaperAgerModel", "reads", "()V"⟩, 55) := ⟨⟨by decide +kernel, by decide +kernel⟩, List.mem_of_getElem? (i := 1031) (by decide +kernel), List.mem_of_getElem? (i := 1276) (by decide +kernel), List.mem_of_getElem? (i := 1277) (by decide +kernel)⟩
theorem lw_p34 : lw_okq (⟨"PaperAgerModel", "raw", "(I)I"⟩, 55) := ⟨⟨by decide +kernel, by decide +kernel⟩, List.mem_of_getElem? (i := 1031) (by decide +kernel), List.mem_of_getElem? (i := 1280) (by decide +kernel), List.mem_of_getElem? (i := 1281) (by decide +kernel)⟩
theorem lw_p35 : lw_okq (⟨"PaperAgerModel", "isLetter", "(I)Z"⟩, 55) := ⟨⟨by decide +kernel, by decide +kernel⟩, List.mem_of_getElem? (i := 1031) (by decide +kernel), List.mem_of_getElem? (i := 1284) (by decide +kernel), List.mem_of_getElem? (i := 1285) (by decide +kernel)⟩
theorem lw_p36 : lw_okq (⟨"PaperAgerModel", "wordAt", "(II)I"⟩, 55) := ⟨⟨by decide +kernel, by decide +kernel⟩, List.mem_of_getElem? (i := 1031) (by decide +kernel), List.mem_of_getElem? (i := 1288) (by decide +kernel), List.mem_of_getElem? (i := 1289) (by decide +kernel)⟩
theorem lw_p37 : lw_okq (⟨"PaperAgerModel", "isDigit", "(I)Z"⟩, 55) := ⟨⟨by decide +kernel, by decide +kernel⟩, List.mem_of_getElem? (i := 1031) (by decide +kernel), List.mem_of_getElem? (i := 1292) (by decide +kernel), List.mem_of_getElem? (i := 1293) (by decide +kernel)⟩
theorem lw_p38 : lw_okq (⟨"PaperAgerModel", "isMarkSign", "(I)Z"⟩, 55) := ⟨⟨by decide +kernel, by decide +kernel⟩, List.mem_of_getElem? (i := 1031) (by decide +kernel), List.mem_of_getElem? (i := 1296) (by decide +kernel), List.mem_of_getElem? (i := 1297) (by decide +kernel)⟩
theorem lw_p39 : lw_okq (⟨"PaperAgerModel", "readText", "()I"⟩, 55) := ⟨⟨by decide +kernel, by decide +kernel⟩, List.mem_of_getElem? (i := 1031) (by decide +kernel), List.mem_of_getElem? (i := 1300) (by decide +kernel), List.mem_of_getElem? (i := 1301) (by decide +kernel)⟩
theorem lw_p40 : lw_okq (⟨"PaperAgerModel", "isWord", "(I)Z"⟩, 55) := ⟨⟨by decide +kernel, by decide +kernel⟩, List.mem_of_getElem? (i := 1031) (by decide +kernel), List.mem_of_getElem? (i := 1304) (by decide +kernel), List.mem_of_getElem? (i := 1305) (by decide +kernel)⟩
theorem lw_p41 : lw_okq (⟨"PaperAgerModel", "errs", "(I)I"⟩, 55) := ⟨⟨by decide +kernel, by decide +kernel⟩, List.mem_of_getElem? (i := 1031) (by decide +kernel), List.mem_of_getElem? (i := 1308) (by decide +kernel), List.mem_of_getElem? (i := 1309) (by decide +kernel)⟩
theorem lw_p42 : lw_okq (⟨"PaperAgerModel", "readSum", "()I"⟩, 55) := ⟨⟨by decide +kernel, by decide +kernel⟩, List.mem_of_getElem? (i := 1031) (by decide +kernel), List.mem_of_getElem? (i := 1312) (by decide +kernel), List.mem_of_getElem? (i := 1313) (by decide +kernel)⟩
theorem lw_p43 : lw_okq (⟨"PaperAgerModel", "readProduct", "()I"⟩, 55) := ⟨⟨by decide +kernel, by decide +kernel⟩, List.mem_of_getElem? (i := 1031) (by decide +kernel), List.mem_of_getElem? (i := 1316) (by decide +kernel), List.mem_of_getElem? (i := 1317) (by decide +kernel)⟩
theorem lw_p44 : lw_okq (⟨"PaperAgerModel", "readUnit", "()I"⟩, 55) := ⟨⟨by decide +kernel, by decide +kernel⟩, List.mem_of_getElem? (i := 1031) (by decide +kernel), List.mem_of_getElem? (i := 1320) (by decide +kernel), List.mem_of_getElem? (i := 1321) (by decide +kernel)⟩
theorem lw_p45 : lw_okq (⟨"PaperAgerModel", "emits", "(II)V"⟩, 55) := ⟨⟨by decide +kernel, by decide +kernel⟩, List.mem_of_getElem? (i := 1031) (by decide +kernel), List.mem_of_getElem? (i := 1324) (by decide +kernel), List.mem_of_getElem? (i := 1325) (by decide +kernel)⟩
theorem lw_p46 : lw_okq (⟨"PaperAgerModel", "isSign", "(I)Z"⟩, 55) := ⟨⟨by decide +kernel, by decide +kernel⟩, List.mem_of_getElem? (i := 1031) (by decide +kernel), List.mem_of_getElem? (i := 1328) (by decide +kernel), List.mem_of_getElem? (i := 1329) (by decide +kernel)⟩
theorem lw_p47 : lw_okq (⟨"PaperAgerModel", "readAny", "()I"⟩, 55) := ⟨⟨by decide +kernel, by decide +kernel⟩, List.mem_of_getElem? (i := 1031) (by decide +kernel), List.mem_of_getElem? (i := 1332) (by decide +kernel), List.mem_of_getElem? (i := 1333) (by decide +kernel)⟩
def lw_privs_3 : List (MethodName × Nat) := [(⟨"PaperAgerModel", "types", "(I)V"⟩, 55), (⟨"PaperAgerModel", "reads", "()V"⟩, 55), (⟨"PaperAgerModel", "raw", "(I)I"⟩, 55), (⟨"PaperAgerModel", "isLetter", "(I)Z"⟩, 55), (⟨"PaperAgerModel", "wordAt", "(II)I"⟩, 55), (⟨"PaperAgerModel", "isDigit", "(I)Z"⟩, 55), (⟨"PaperAgerModel", "isMarkSign", "(I)Z"⟩, 55), (⟨"PaperAgerModel", "readText", "()I"⟩, 55), (⟨"PaperAgerModel", "isWord", "(I)Z"⟩, 55), (⟨"PaperAgerModel", "errs", "(I)I"⟩, 55), (⟨"PaperAgerModel", "readSum", "()I"⟩, 55), (⟨"PaperAgerModel", "readProduct", "()I"⟩, 55), (⟨"PaperAgerModel", "readUnit", "()I"⟩, 55), (⟨"PaperAgerModel", "emits", "(II)V"⟩, 55), (⟨"PaperAgerModel", "isSign", "(I)Z"⟩, 55), (⟨"PaperAgerModel", "readAny", "()I"⟩, 55)]
theorem lw_r3 : ∀ q ∈ lw_privs_3, lw_okq q := List.forall_mem_cons.mpr ⟨lw_p32, List.forall_mem_cons.mpr ⟨lw_p33, List.forall_mem_cons.mpr ⟨lw_p34, List.forall_mem_cons.mpr ⟨lw_p35, List.forall_mem_cons.mpr ⟨lw_p36, List.forall_mem_cons.mpr ⟨lw_p37, List.forall_mem_cons.mpr ⟨lw_p38, List.forall_mem_cons.mpr ⟨lw_p39, List.forall_mem_cons.mpr ⟨lw_p40, List.forall_mem_cons.mpr ⟨lw_p41, List.forall_mem_cons.mpr ⟨lw_p42, List.forall_mem_cons.mpr ⟨lw_p43, List.forall_mem_cons.mpr ⟨lw_p44, List.forall_mem_cons.mpr ⟨lw_p45, List.forall_mem_cons.mpr ⟨lw_p46, List.forall_mem_cons.mpr ⟨lw_p47, fun _ h => absurd h List.not_mem_nil⟩⟩⟩⟩⟩⟩⟩⟩⟩⟩⟩⟩⟩⟩⟩⟩
theorem lw_p48 : lw_okq (⟨"PaperAgerModel", "waits", "(I)V"⟩, 55) := ⟨⟨by decide +kernel, by decide +kernel⟩, List.mem_of_getElem? (i := 1031) (by decide +kernel), List.mem_of_getElem? (i := 1336) (by decide +kernel), List.mem_of_getElem? (i := 1337) (by decide +kernel)⟩
theorem lw_p49 : lw_okq (⟨"PaperAgerModel", "readCompared", "()I"⟩, 55) := ⟨⟨by decide +kernel, by decide +kernel⟩, List.mem_of_getElem? (i := 1031) (by decide +kernel), List.mem_of_getElem? (i := 1340) (by decide +kernel), List.mem_of_getElem? (i := 1341) (by decide +kernel)⟩
theorem lw_p50 : lw_okq (⟨"PaperAgerModel", "settles", "(I)V"⟩, 55) := ⟨⟨by decide +kernel, by decide +kernel⟩, List.mem_of_getElem? (i := 1031) (by decide +kernel), List.mem_of_getElem? (i := 1344) (by decide +kernel), List.mem_of_getElem? (i := 1345) (by decide +kernel)⟩
theorem lw_p51 : lw_okq (⟨"PaperAgerModel", "ageOf", "(III)I"⟩, 55) := ⟨⟨by decide +kernel, by decide +kernel⟩, List.mem_of_getElem? (i := 1031) (by decide +kernel), List.mem_of_getElem? (i := 1356) (by decide +kernel), List.mem_of_getElem? (i := 1357) (by decide +kernel)⟩
theorem lw_p52 : lw_okq (⟨"PaperAgerModel", "yearsOf", "(II)I"⟩, 55) := ⟨⟨by decide +kernel, by decide +kernel⟩, List.mem_of_getElem? (i := 1031) (by decide +kernel), List.mem_of_getElem? (i := 1360) (by decide +kernel), List.mem_of_getElem? (i := 1361) (by decide +kernel)⟩
theorem lw_p53 : lw_okq (⟨"PaperAgerModel", "isSo", "(I)Z"⟩, 55) := ⟨⟨by decide +kernel, by decide +kernel⟩, List.mem_of_getElem? (i := 1031) (by decide +kernel), List.mem_of_getElem? (i := 1364) (by decide +kernel), List.mem_of_getElem? (i := 1365) (by decide +kernel)⟩
theorem lw_p54 : lw_okq (⟨"PaperAgerModel", "runs", "(II)I"⟩, 55) := ⟨⟨by decide +kernel, by decide +kernel⟩, List.mem_of_getElem? (i := 1031) (by decide +kernel), List.mem_of_getElem? (i := 1368) (by decide +kernel), List.mem_of_getElem? (i := 1369) (by decide +kernel)⟩
theorem lw_p55 : lw_okq (⟨"PaperAgerModel", "twoOf", "(III)I"⟩, 55) := ⟨⟨by decide +kernel, by decide +kernel⟩, List.mem_of_getElem? (i := 1031) (by decide +kernel), List.mem_of_getElem? (i := 1372) (by decide +kernel), List.mem_of_getElem? (i := 1373) (by decide +kernel)⟩
theorem lw_p56 : lw_okq (⟨"PaperAgerModel", "keepsAhead", "(I)V"⟩, 55) := ⟨⟨by decide +kernel, by decide +kernel⟩, List.mem_of_getElem? (i := 1031) (by decide +kernel), List.mem_of_getElem? (i := 1384) (by decide +kernel), List.mem_of_getElem? (i := 1385) (by decide +kernel)⟩
theorem lw_p57 : lw_okq (⟨"PaperAgerModel", "isRead", "(III)V"⟩, 55) := ⟨⟨by decide +kernel, by decide +kernel⟩, List.mem_of_getElem? (i := 1031) (by decide +kernel), List.mem_of_getElem? (i := 1388) (by decide +kernel), List.mem_of_getElem? (i := 1389) (by decide +kernel)⟩
theorem lw_p58 : lw_okq (⟨"PaperAgerModel", "ends", "()V"⟩, 55) := ⟨⟨by decide +kernel, by decide +kernel⟩, List.mem_of_getElem? (i := 1031) (by decide +kernel), List.mem_of_getElem? (i := 1396) (by decide +kernel), List.mem_of_getElem? (i := 1397) (by decide +kernel)⟩
theorem lw_p59 : lw_okq (⟨"PaperAgerModel", "draw", "(I)I"⟩, 55) := ⟨⟨by decide +kernel, by decide +kernel⟩, List.mem_of_getElem? (i := 1031) (by decide +kernel), List.mem_of_getElem? (i := 1400) (by decide +kernel), List.mem_of_getElem? (i := 1401) (by decide +kernel)⟩
theorem lw_p60 : lw_okq (⟨"PaperAgerModel", "nextOne", "()I"⟩, 55) := ⟨⟨by decide +kernel, by decide +kernel⟩, List.mem_of_getElem? (i := 1031) (by decide +kernel), List.mem_of_getElem? (i := 1406) (by decide +kernel), List.mem_of_getElem? (i := 1407) (by decide +kernel)⟩
theorem lw_p61 : lw_okq (⟨"PaperAgerModel", "leasesOf", "(I)I"⟩, 55) := ⟨⟨by decide +kernel, by decide +kernel⟩, List.mem_of_getElem? (i := 1031) (by decide +kernel), List.mem_of_getElem? (i := 1410) (by decide +kernel), List.mem_of_getElem? (i := 1411) (by decide +kernel)⟩
theorem lw_p62 : lw_okq (⟨"PaperAgerModel", "staysFor", "(I)I"⟩, 55) := ⟨⟨by decide +kernel, by decide +kernel⟩, List.mem_of_getElem? (i := 1031) (by decide +kernel), List.mem_of_getElem? (i := 1418) (by decide +kernel), List.mem_of_getElem? (i := 1419) (by decide +kernel)⟩
theorem lw_p63 : lw_okq (⟨"PaperAgerModel", "claimed", "()I"⟩, 55) := ⟨⟨by decide +kernel, by decide +kernel⟩, List.mem_of_getElem? (i := 1031) (by decide +kernel), List.mem_of_getElem? (i := 1439) (by decide +kernel), List.mem_of_getElem? (i := 1440) (by decide +kernel)⟩
def lw_privs_4 : List (MethodName × Nat) := [(⟨"PaperAgerModel", "waits", "(I)V"⟩, 55), (⟨"PaperAgerModel", "readCompared", "()I"⟩, 55), (⟨"PaperAgerModel", "settles", "(I)V"⟩, 55), (⟨"PaperAgerModel", "ageOf", "(III)I"⟩, 55), (⟨"PaperAgerModel", "yearsOf", "(II)I"⟩, 55), (⟨"PaperAgerModel", "isSo", "(I)Z"⟩, 55), (⟨"PaperAgerModel", "runs", "(II)I"⟩, 55), (⟨"PaperAgerModel", "twoOf", "(III)I"⟩, 55), (⟨"PaperAgerModel", "keepsAhead", "(I)V"⟩, 55), (⟨"PaperAgerModel", "isRead", "(III)V"⟩, 55), (⟨"PaperAgerModel", "ends", "()V"⟩, 55), (⟨"PaperAgerModel", "draw", "(I)I"⟩, 55), (⟨"PaperAgerModel", "nextOne", "()I"⟩, 55), (⟨"PaperAgerModel", "leasesOf", "(I)I"⟩, 55), (⟨"PaperAgerModel", "staysFor", "(I)I"⟩, 55), (⟨"PaperAgerModel", "claimed", "()I"⟩, 55)]
theorem lw_r4 : ∀ q ∈ lw_privs_4, lw_okq q := List.forall_mem_cons.mpr ⟨lw_p48, List.forall_mem_cons.mpr ⟨lw_p49, List.forall_mem_cons.mpr ⟨lw_p50, List.forall_mem_cons.mpr ⟨lw_p51, List.forall_mem_cons.mpr ⟨lw_p52, List.forall_mem_cons.mpr ⟨lw_p53, List.forall_mem_cons.mpr ⟨lw_p54, List.forall_mem_cons.mpr ⟨lw_p55, List.forall_mem_cons.mpr ⟨lw_p56, List.forall_mem_cons.mpr ⟨lw_p57, List.forall_mem_cons.mpr ⟨lw_p58, List.forall_mem_cons.mpr ⟨lw_p59, List.forall_mem_cons.mpr ⟨lw_p60, List.forall_mem_cons.mpr ⟨lw_p61, List.forall_mem_cons.mpr ⟨lw_p62, List.forall_mem_cons.mpr ⟨lw_p63, fun _ h => absurd h List.not_mem_nil⟩⟩⟩⟩⟩⟩⟩⟩⟩⟩⟩⟩⟩⟩⟩⟩
theorem lw_p64 : lw_okq (⟨"PaperAgerModel", "findsStanding", "(I)I"⟩, 55) := ⟨⟨by decide +kernel, by decide +kernel⟩, List.mem_of_getElem? (i := 1031) (by decide +kernel), List.mem_of_getElem? (i := 1443) (by decide +kernel), List.mem_of_getElem? (i := 1444) (by decide +kernel)⟩
theorem lw_p65 : lw_okq (⟨"PaperAgerModel", "thinksOf", "(I)V"⟩, 55) := ⟨⟨by decide +kernel, by decide +kernel⟩, List.mem_of_getElem? (i := 1031) (by decide +kernel), List.mem_of_getElem? (i := 1447) (by decide +kernel), List.mem_of_getElem? (i := 1448) (by decide +kernel)⟩
theorem lw_p66 : lw_okq (⟨"PaperAgerModel", "doStand", "(I)Z"⟩, 55) := ⟨⟨by decide +kernel, by decide +kernel⟩, List.mem_of_getElem? (i := 1031) (by decide +kernel), List.mem_of_getElem? (i := 1451) (by decide +kernel), List.mem_of_getElem? (i := 1452) (by decide +kernel)⟩
theorem lw_p67 : lw_okq (⟨"PaperAgerModel", "livingNow", "()I"⟩, 55) := ⟨⟨by decide +kernel, by decide +kernel⟩, List.mem_of_getElem? (i := 1031) (by decide +kernel), List.mem_of_getElem? (i := 1455) (by decide +kernel), List.mem_of_getElem? (i := 1456) (by decide +kernel)⟩
theorem lw_p68 : lw_okq (⟨"PaperAgerModel", "ones", "(I)I"⟩, 55) := ⟨⟨by decide +kernel, by decide +kernel⟩, List.mem_of_getElem? (i := 1031) (by decide +kernel), List.mem_of_getElem? (i := 1459) (by decide +kernel), List.mem_of_getElem? (i := 1460) (by decide +kernel)⟩
theorem lw_p69 : lw_okq (⟨"PaperAgerModel", "areEnough", "(I)Z"⟩, 55) := ⟨⟨by decide +kernel, by decide +kernel⟩, List.mem_of_getElem? (i := 1031) (by decide +kernel), List.mem_of_getElem? (i := 1463) (by decide +kernel), List.mem_of_getElem? (i := 1464) (by decide +kernel)⟩
theorem lw_p70 : lw_okq (⟨"PaperAgerModel", "without", "(I)I"⟩, 55) := ⟨⟨by decide +kernel, by decide +kernel⟩, List.mem_of_getElem? (i := 1031) (by decide +kernel), List.mem_of_getElem? (i := 1475) (by decide +kernel), List.mem_of_getElem? (i := 1476) (by decide +kernel)⟩
theorem lw_p71 : lw_okq (⟨"PaperAgerModel", "papersOn", "(I)I"⟩, 55) := ⟨⟨by decide +kernel, by decide +kernel⟩, List.mem_of_getElem? (i := 1031) (by decide +kernel), List.mem_of_getElem? (i := 1487) (by decide +kernel), List.mem_of_getElem? (i := 1488) (by decide +kernel)⟩
theorem lw_p72 : lw_okq (⟨"PaperAgerModel", "agesOn", "(I)I"⟩, 55) := ⟨⟨by decide +kernel, by decide +kernel⟩, List.mem_of_getElem? (i := 1031) (by decide +kernel), List.mem_of_getElem? (i := 1491) (by decide +kernel), List.mem_of_getElem? (i := 1492) (by decide +kernel)⟩
theorem lw_p73 : lw_okq (⟨"PaperAgerModel", "kept", "(I)I"⟩, 55) := ⟨⟨by decide +kernel, by decide +kernel⟩, List.mem_of_getElem? (i := 1031) (by decide +kernel), List.mem_of_getElem? (i := 1503) (by decide +kernel), List.mem_of_getElem? (i := 1504) (by decide +kernel)⟩
theorem lw_p74 : lw_okq (⟨"PaperAgerModel", "keepsPapers", "()V"⟩, 55) := ⟨⟨by decide +kernel, by decide +kernel⟩, List.mem_of_getElem? (i := 1031) (by decide +kernel), List.mem_of_getElem? (i := 1507) (by decide +kernel), List.mem_of_getElem? (i := 1508) (by decide +kernel)⟩
theorem lw_p75 : lw_okq (⟨"PaperAgerModel", "keepsLaw", "()V"⟩, 55) := ⟨⟨by decide +kernel, by decide +kernel⟩, List.mem_of_getElem? (i := 1031) (by decide +kernel), List.mem_of_getElem? (i := 1511) (by decide +kernel), List.mem_of_getElem? (i := 1512) (by decide +kernel)⟩
def lw_privs_5 : List (MethodName × Nat) := [(⟨"PaperAgerModel", "findsStanding", "(I)I"⟩, 55), (⟨"PaperAgerModel", "thinksOf", "(I)V"⟩, 55), (⟨"PaperAgerModel", "doStand", "(I)Z"⟩, 55), (⟨"PaperAgerModel", "livingNow", "()I"⟩, 55), (⟨"PaperAgerModel", "ones", "(I)I"⟩, 55), (⟨"PaperAgerModel", "areEnough", "(I)Z"⟩, 55), (⟨"PaperAgerModel", "without", "(I)I"⟩, 55), (⟨"PaperAgerModel", "papersOn", "(I)I"⟩, 55), (⟨"PaperAgerModel", "agesOn", "(I)I"⟩, 55), (⟨"PaperAgerModel", "kept", "(I)I"⟩, 55), (⟨"PaperAgerModel", "keepsPapers", "()V"⟩, 55), (⟨"PaperAgerModel", "keepsLaw", "()V"⟩, 55)]
theorem lw_r5 : ∀ q ∈ lw_privs_5, lw_okq q := List.forall_mem_cons.mpr ⟨lw_p64, List.forall_mem_cons.mpr ⟨lw_p65, List.forall_mem_cons.mpr ⟨lw_p66, List.forall_mem_cons.mpr ⟨lw_p67, List.forall_mem_cons.mpr ⟨lw_p68, List.forall_mem_cons.mpr ⟨lw_p69, List.forall_mem_cons.mpr ⟨lw_p70, List.forall_mem_cons.mpr ⟨lw_p71, List.forall_mem_cons.mpr ⟨lw_p72, List.forall_mem_cons.mpr ⟨lw_p73, List.forall_mem_cons.mpr ⟨lw_p74, List.forall_mem_cons.mpr ⟨lw_p75, fun _ h => absurd h List.not_mem_nil⟩⟩⟩⟩⟩⟩⟩⟩⟩⟩⟩⟩
def lw_privs : List (MethodName × Nat) := lw_privs_1 ++ (lw_privs_2 ++ (lw_privs_3 ++ (lw_privs_4 ++ (lw_privs_5))))
def lw_tbl : List Cond := k2_sels lw_privs ++ tables_1
theorem lw_privs_ok : ∀ q ∈ lw_privs, lw_okq q := by
  show ∀ q ∈ lw_privs_1 ++ (lw_privs_2 ++ (lw_privs_3 ++ (lw_privs_4 ++ (lw_privs_5)))), lw_okq q
  exact List.forall_mem_append.mpr ⟨lw_r1, List.forall_mem_append.mpr ⟨lw_r2, List.forall_mem_append.mpr ⟨lw_r3, List.forall_mem_append.mpr ⟨lw_r4, lw_r5⟩⟩⟩⟩
end
section
def RX0 : String := "PaperAger$Archive"
def TX0 : u_T := fun k => match k with
  | 0 => ("PaperAger$Archive", "readers", "[LPaperAger$Reader;", true)
  | 1 => ("PaperAger$Archive", "papers", "[LPaperAger$Paper;", true)
  | 2 => ("PaperAger$Archive", "book", "LPaperAger$Book;", true)
  | 3 => ("PaperAger$Archive", "claims", "LPaperAger$Claims;", true)
  | 4 => ("PaperAger$Archive", "law", "LPaperAger$Law;", true)
  | 5 => ("PaperAger$Archive", "facts", "[I", true)
  | 6 => ("PaperAger$Archive", "readerCount", "I", false)
  | 7 => ("PaperAger$Archive", "paperCount", "I", false)
  | 8 => ("PaperAger$Archive", "day", "I", false)
  | 9 => ("PaperAger$Archive", "state", "I", false)
  | _ => ("PaperAger$Archive", "died", "I", false)
def tyX0 : Nat → FieldType := fun k => match k with
  | 0 => .array (.object "PaperAger$Reader")
  | 1 => .array (.object "PaperAger$Paper")
  | 2 => .object "PaperAger$Book"
  | 3 => .object "PaperAger$Claims"
  | 4 => .object "PaperAger$Law"
  | 5 => .array .int
  | 6 => .int
  | 7 => .int
  | 8 => .int
  | 9 => .int
  | _ => .int
theorem nmX0 : ∀ a, a < 11 → ∀ b, b < 11 → a ≠ b → (TX0 a).2.1 ≠ (TX0 b).2.1 := by decide +kernel
theorem tyX0_ok : ∀ k, k < 11 → parseFieldDescriptor (TX0 k).2.2.1 = some (tyX0 k) := by decide +kernel
abbrev cX0_init : ByteArray := prog_2_method_1_code
def yX0_init : MethodName := ⟨RX0, "<init>", "()V"⟩
abbrev cX0_readerAt : ByteArray := prog_2_method_2_code
def yX0_readerAt : MethodName := ⟨RX0, "readerAt", "(I)LPaperAger$Reader;"⟩
abbrev cX0_paperAt : ByteArray := prog_2_method_3_code
def yX0_paperAt : MethodName := ⟨RX0, "paperAt", "(I)LPaperAger$Paper;"⟩
abbrev cX0_ageOf : ByteArray := prog_2_method_4_code
def yX0_ageOf : MethodName := ⟨RX0, "ageOf", "(LPaperAger$Paper;I)I"⟩
abbrev cX0_stayOf : ByteArray := prog_2_method_5_code
def yX0_stayOf : MethodName := ⟨RX0, "stayOf", "(LPaperAger$Paper;)I"⟩
abbrev cX0_changeShelves : ByteArray := prog_2_method_6_code
def yX0_changeShelves : MethodName := ⟨RX0, "changeShelves", "(II)V"⟩
abbrev cX0_burn : ByteArray := prog_2_method_7_code
def yX0_burn : MethodName := ⟨RX0, "burn", "(I)I"⟩
abbrev cX0_papersOn : ByteArray := prog_2_method_8_code
def yX0_papersOn : MethodName := ⟨RX0, "papersOn", "(I)I"⟩
abbrev cX0_agesOn : ByteArray := prog_2_method_9_code
def yX0_agesOn : MethodName := ⟨RX0, "agesOn", "(I)I"⟩
abbrev cX0_endDay : ByteArray := prog_2_method_10_code
def yX0_endDay : MethodName := ⟨RX0, "endDay", "()I"⟩
abbrev cX0_drawDeaths : ByteArray := prog_2_method_11_code
def yX0_drawDeaths : MethodName := ⟨RX0, "drawDeaths", "()I"⟩
abbrev cX0_drawTenThousandth : ByteArray := prog_2_method_12_code
def yX0_drawTenThousandth : MethodName := ⟨RX0, "drawTenThousandth", "()I"⟩
abbrev cX0_passLeases : ByteArray := prog_2_method_13_code
def yX0_passLeases : MethodName := ⟨RX0, "passLeases", "()V"⟩
abbrev cX0_nextForLease : ByteArray := prog_2_method_14_code
def yX0_nextForLease : MethodName := ⟨RX0, "nextForLease", "()I"⟩
abbrev cX0_leasesOf : ByteArray := prog_2_method_15_code
def yX0_leasesOf : MethodName := ⟨RX0, "leasesOf", "(I)I"⟩
abbrev cX0_countLeaps : ByteArray := prog_2_method_16_code
def yX0_countLeaps : MethodName := ⟨RX0, "countLeaps", "(II)I"⟩
abbrev cX0_firstLeap : ByteArray := prog_2_method_17_code
def yX0_firstLeap : MethodName := ⟨RX0, "firstLeap", "(II)I"⟩
abbrev cX0_isLeap : ByteArray := prog_2_method_18_code
def yX0_isLeap : MethodName := ⟨RX0, "isLeap", "(III)Z"⟩
abbrev cX0_copyFrom : ByteArray := prog_2_method_19_code
def yX0_copyFrom : MethodName := ⟨RX0, "copyFrom", "(LPaperAger$Archive;)V"⟩
def RX1 : String := "PaperAger$Book"
def TX1 : u_T := fun k => match k with
  | 0 => ("PaperAger$Book", "entries", "[I", true)
  | _ => ("PaperAger$Book", "lines", "I", false)
def tyX1 : Nat → FieldType := fun k => match k with
  | 0 => .array .int
  | _ => .int
theorem nmX1 : ∀ a, a < 2 → ∀ b, b < 2 → a ≠ b → (TX1 a).2.1 ≠ (TX1 b).2.1 := by decide +kernel
theorem tyX1_ok : ∀ k, k < 2 → parseFieldDescriptor (TX1 k).2.2.1 = some (tyX1 k) := by decide +kernel
abbrev cX1_init : ByteArray := prog_3_method_1_code
def yX1_init : MethodName := ⟨RX1, "<init>", "()V"⟩
abbrev cX1_hasRoom : ByteArray := prog_3_method_2_code
def yX1_hasRoom : MethodName := ⟨RX1, "hasRoom", "()Z"⟩
abbrev cX1_write : ByteArray := prog_3_method_3_code
def yX1_write : MethodName := ⟨RX1, "write", "(IIIII)V"⟩
abbrev cX1_dropLast : ByteArray := prog_3_method_4_code
def yX1_dropLast : MethodName := ⟨RX1, "dropLast", "()V"⟩
abbrev cX1_entry : ByteArray := prog_3_method_5_code
def yX1_entry : MethodName := ⟨RX1, "entry", "(II)I"⟩
abbrev cX1_leapOf : ByteArray := prog_3_method_6_code
def yX1_leapOf : MethodName := ⟨RX1, "leapOf", "(I)I"⟩
abbrev cX1_copyFrom : ByteArray := prog_3_method_7_code
def yX1_copyFrom : MethodName := ⟨RX1, "copyFrom", "(LPaperAger$Book;)V"⟩
def RX2 : String := "PaperAger$Claims"
def TX2 : u_T := fun k => match k with
  | 0 => ("PaperAger$Claims", "papers", "[I", true)
  | 1 => ("PaperAger$Claims", "days", "[I", true)
  | 2 => ("PaperAger$Claims", "least", "[I", true)
  | 3 => ("PaperAger$Claims", "most", "[I", true)
  | _ => ("PaperAger$Claims", "count", "I", false)
def tyX2 : Nat → FieldType := fun k => match k with
  | 0 => .array .int
  | 1 => .array .int
  | 2 => .array .int
  | 3 => .array .int
  | _ => .int
theorem nmX2 : ∀ a, a < 5 → ∀ b, b < 5 → a ≠ b → (TX2 a).2.1 ≠ (TX2 b).2.1 := by decide +kernel
theorem tyX2_ok : ∀ k, k < 5 → parseFieldDescriptor (TX2 k).2.2.1 = some (tyX2 k) := by decide +kernel
abbrev cX2_init : ByteArray := prog_4_method_1_code
def yX2_init : MethodName := ⟨RX2, "<init>", "()V"⟩
abbrev cX2_hasRoom : ByteArray := prog_4_method_2_code
def yX2_hasRoom : MethodName := ⟨RX2, "hasRoom", "()Z"⟩
abbrev cX2_add : ByteArray := prog_4_method_3_code
def yX2_add : MethodName := ⟨RX2, "add", "(IIII)I"⟩
abbrev cX2_anyWentBy : ByteArray := prog_4_method_4_code
def yX2_anyWentBy : MethodName := ⟨RX2, "anyWentBy", "(I)Z"⟩
abbrev cX2_copyFrom : ByteArray := prog_4_method_5_code
def yX2_copyFrom : MethodName := ⟨RX2, "copyFrom", "(LPaperAger$Claims;)V"⟩
def RX3 : String := "PaperAger$Law"
def TX3 : u_T := fun k => match k with
  | 0 => ("PaperAger$Law", "code", "[I", true)
  | 1 => ("PaperAger$Law", "ageStarts", "[I", true)
  | 2 => ("PaperAger$Law", "ageEnds", "[I", true)
  | 3 => ("PaperAger$Law", "lineEnds", "[I", true)
  | 4 => ("PaperAger$Law", "waiting", "[I", true)
  | 5 => ("PaperAger$Law", "length", "I", false)
  | _ => ("PaperAger$Law", "lines", "I", false)
def tyX3 : Nat → FieldType := fun k => match k with
  | 0 => .array .int
  | 1 => .array .int
  | 2 => .array .int
  | 3 => .array .int
  | 4 => .array .int
  | 5 => .int
  | _ => .int
theorem nmX3 : ∀ a, a < 7 → ∀ b, b < 7 → a ≠ b → (TX3 a).2.1 ≠ (TX3 b).2.1 := by decide +kernel
theorem tyX3_ok : ∀ k, k < 7 → parseFieldDescriptor (TX3 k).2.2.1 = some (tyX3 k) := by decide +kernel
abbrev cX3_init : ByteArray := prog_5_method_1_code
def yX3_init : MethodName := ⟨RX3, "<init>", "()V"⟩
abbrev cX3_clear : ByteArray := prog_5_method_2_code
def yX3_clear : MethodName := ⟨RX3, "clear", "()V"⟩
abbrev cX3_isFull : ByteArray := prog_5_method_3_code
def yX3_isFull : MethodName := ⟨RX3, "isFull", "()Z"⟩
abbrev cX3_startLine : ByteArray := prog_5_method_4_code
def yX3_startLine : MethodName := ⟨RX3, "startLine", "()V"⟩
abbrev cX3_endAge : ByteArray := prog_5_method_5_code
def yX3_endAge : MethodName := ⟨RX3, "endAge", "()V"⟩
abbrev cX3_endLine : ByteArray := prog_5_method_6_code
def yX3_endLine : MethodName := ⟨RX3, "endLine", "()V"⟩
abbrev cX3_addFact : ByteArray := prog_5_method_7_code
def yX3_addFact : MethodName := ⟨RX3, "addFact", "(I)V"⟩
abbrev cX3_add : ByteArray := prog_5_method_8_code
def yX3_add : MethodName := ⟨RX3, "add", "(I)V"⟩
abbrev cX3_ageBy : ByteArray := prog_5_method_9_code
def yX3_ageBy : MethodName := ⟨RX3, "ageBy", "([I)I"⟩
abbrev cX3_held : ByteArray := prog_5_method_10_code
def yX3_held : MethodName := ⟨RX3, "held", "(I)I"⟩
abbrev cX3_work : ByteArray := prog_5_method_11_code
def yX3_work : MethodName := ⟨RX3, "work", "(II[I)I"⟩
abbrev cX3_operand : ByteArray := prog_5_method_12_code
def yX3_operand : MethodName := ⟨RX3, "operand", "(I[I)I"⟩
abbrev cX3_joined : ByteArray := prog_5_method_13_code
def yX3_joined : MethodName := ⟨RX3, "joined", "(III)I"⟩
abbrev cX3_copyFrom : ByteArray := prog_5_method_14_code
def yX3_copyFrom : MethodName := ⟨RX3, "copyFrom", "(LPaperAger$Law;)V"⟩
def RX4 : String := "PaperAger$LawReader"
def TX4 : u_T := fun k => match k with
  | 0 => ("PaperAger$LawReader", "draft", "LPaperAger$Law;", true)
  | 1 => ("PaperAger$LawReader", "token", "LPaperAger$Token;", true)
  | 2 => ("PaperAger$LawReader", "signs", "[I", true)
  | 3 => ("PaperAger$LawReader", "signCount", "I", false)
  | 4 => ("PaperAger$LawReader", "wanted", "I", false)
  | 5 => ("PaperAger$LawReader", "side", "I", false)
  | 6 => ("PaperAger$LawReader", "over", "Z", false)
  | 7 => ("PaperAger$LawReader", "fault", "I", false)
  | _ => ("PaperAger$LawReader", "faultPlace", "I", false)
def tyX4 : Nat → FieldType := fun k => match k with
  | 0 => .object "PaperAger$Law"
  | 1 => .object "PaperAger$Token"
  | 2 => .array .int
  | 3 => .int
  | 4 => .int
  | 5 => .int
  | 6 => .boolean
  | 7 => .int
  | _ => .int
theorem nmX4 : ∀ a, a < 9 → ∀ b, b < 9 → a ≠ b → (TX4 a).2.1 ≠ (TX4 b).2.1 := by decide +kernel
theorem tyX4_ok : ∀ k, k < 9 → parseFieldDescriptor (TX4 k).2.2.1 = some (tyX4 k) := by decide +kernel
abbrev cX4_init : ByteArray := prog_6_method_1_code
def yX4_init : MethodName := ⟨RX4, "<init>", "()V"⟩
abbrev cX4_readAll : ByteArray := prog_6_method_2_code
def yX4_readAll : MethodName := ⟨RX4, "readAll", "(LPaperAger$Tape;)Z"⟩
abbrev cX4_begin : ByteArray := prog_6_method_3_code
def yX4_begin : MethodName := ⟨RX4, "begin", "()V"⟩
abbrev cX4_refuse : ByteArray := prog_6_method_4_code
def yX4_refuse : MethodName := ⟨RX4, "refuse", "(I)V"⟩
abbrev cX4_takeLine : ByteArray := prog_6_method_5_code
def yX4_takeLine : MethodName := ⟨RX4, "takeLine", "(I)V"⟩
abbrev cX4_takeUnit : ByteArray := prog_6_method_6_code
def yX4_takeUnit : MethodName := ⟨RX4, "takeUnit", "(I)V"⟩
abbrev cX4_takeDivisor : ByteArray := prog_6_method_7_code
def yX4_takeDivisor : MethodName := ⟨RX4, "takeDivisor", "(I)V"⟩
abbrev cX4_takeTest : ByteArray := prog_6_method_8_code
def yX4_takeTest : MethodName := ⟨RX4, "takeTest", "(I)V"⟩
abbrev cX4_takeOperator : ByteArray := prog_6_method_9_code
def yX4_takeOperator : MethodName := ⟨RX4, "takeOperator", "(I)V"⟩
abbrev cX4_takeEndOfAge : ByteArray := prog_6_method_10_code
def yX4_takeEndOfAge : MethodName := ⟨RX4, "takeEndOfAge", "()V"⟩
abbrev cX4_takeEndOfLine : ByteArray := prog_6_method_11_code
def yX4_takeEndOfLine : MethodName := ⟨RX4, "takeEndOfLine", "()V"⟩
abbrev cX4_takeJoint : ByteArray := prog_6_method_12_code
def yX4_takeJoint : MethodName := ⟨RX4, "takeJoint", "(I)V"⟩
abbrev cX4_countWaiting : ByteArray := prog_6_method_13_code
def yX4_countWaiting : MethodName := ⟨RX4, "countWaiting", "(I)I"⟩
abbrev cX4_putBinding : ByteArray := prog_6_method_14_code
def yX4_putBinding : MethodName := ⟨RX4, "putBinding", "(I)V"⟩
abbrev cX4_putSign : ByteArray := prog_6_method_15_code
def yX4_putSign : MethodName := ⟨RX4, "putSign", "(I)V"⟩
abbrev cX4_releaseFrom : ByteArray := prog_6_method_16_code
def yX4_releaseFrom : MethodName := ⟨RX4, "releaseFrom", "(I)V"⟩
def RX5 : String := "PaperAger$Paper"
def TX5 : u_T := fun k => match k with
  | 0 => ("PaperAger$Paper", "number", "I", false)
  | 1 => ("PaperAger$Paper", "shelf", "I", false)
  | 2 => ("PaperAger$Paper", "written", "I", false)
  | 3 => ("PaperAger$Paper", "reader", "I", false)
  | 4 => ("PaperAger$Paper", "then", "I", false)
  | 5 => ("PaperAger$Paper", "times", "I", false)
  | 6 => ("PaperAger$Paper", "latest", "I", false)
  | _ => ("PaperAger$Paper", "lease", "I", false)
def tyX5 : Nat → FieldType := fun k => match k with
  | 0 => .int
  | 1 => .int
  | 2 => .int
  | 3 => .int
  | 4 => .int
  | 5 => .int
  | 6 => .int
  | _ => .int
theorem nmX5 : ∀ a, a < 8 → ∀ b, b < 8 → a ≠ b → (TX5 a).2.1 ≠ (TX5 b).2.1 := by decide +kernel
theorem tyX5_ok : ∀ k, k < 8 → parseFieldDescriptor (TX5 k).2.2.1 = some (tyX5 k) := by decide +kernel
abbrev cX5_init : ByteArray := prog_7_method_1_code
def yX5_init : MethodName := ⟨RX5, "<init>", "()V"⟩
abbrev cX5_become : ByteArray := prog_7_method_2_code
def yX5_become : MethodName := ⟨RX5, "become", "(III)V"⟩
abbrev cX5_becomeUnread : ByteArray := prog_7_method_3_code
def yX5_becomeUnread : MethodName := ⟨RX5, "becomeUnread", "(I)V"⟩
abbrev cX5_takeReading : ByteArray := prog_7_method_4_code
def yX5_takeReading : MethodName := ⟨RX5, "takeReading", "(III)V"⟩
abbrev cX5_copyFrom : ByteArray := prog_7_method_5_code
def yX5_copyFrom : MethodName := ⟨RX5, "copyFrom", "(LPaperAger$Paper;)V"⟩
def RX6 : String := "PaperAger$Reader"
def TX6 : u_T := fun k => match k with
  | 0 => ("PaperAger$Reader", "born", "I", false)
  | 1 => ("PaperAger$Reader", "dies", "I", false)
  | 2 => ("PaperAger$Reader", "glasses", "I", false)
  | 3 => ("PaperAger$Reader", "kind", "I", false)
  | _ => ("PaperAger$Reader", "frail", "I", false)
def tyX6 : Nat → FieldType := fun k => match k with
  | 0 => .int
  | 1 => .int
  | 2 => .int
  | 3 => .int
  | _ => .int
theorem nmX6 : ∀ a, a < 5 → ∀ b, b < 5 → a ≠ b → (TX6 a).2.1 ≠ (TX6 b).2.1 := by decide +kernel
theorem tyX6_ok : ∀ k, k < 5 → parseFieldDescriptor (TX6 k).2.2.1 = some (tyX6 k) := by decide +kernel
abbrev cX6_init : ByteArray := prog_8_method_1_code
def yX6_init : MethodName := ⟨RX6, "<init>", "()V"⟩
abbrev cX6_become : ByteArray := prog_8_method_2_code
def yX6_become : MethodName := ⟨RX6, "become", "(IIII)V"⟩
abbrev cX6_tell : ByteArray := prog_8_method_3_code
def yX6_tell : MethodName := ⟨RX6, "tell", "(III)Z"⟩
abbrev cX6_livesOn : ByteArray := prog_8_method_4_code
def yX6_livesOn : MethodName := ⟨RX6, "livesOn", "(I)Z"⟩
abbrev cX6_yearsOn : ByteArray := prog_8_method_5_code
def yX6_yearsOn : MethodName := ⟨RX6, "yearsOn", "(I)I"⟩
abbrev cX6_copyFrom : ByteArray := prog_8_method_6_code
def yX6_copyFrom : MethodName := ⟨RX6, "copyFrom", "(LPaperAger$Reader;)V"⟩
def RX7 : String := "PaperAger$Tape"
def TX7 : u_T := fun k => match k with
  | 0 => ("PaperAger$Tape", "bytes", "[B", true)
  | _ => ("PaperAger$Tape", "count", "I", false)
def tyX7 : Nat → FieldType := fun k => match k with
  | 0 => .array .byte
  | _ => .int
theorem nmX7 : ∀ a, a < 2 → ∀ b, b < 2 → a ≠ b → (TX7 a).2.1 ≠ (TX7 b).2.1 := by decide +kernel
theorem tyX7_ok : ∀ k, k < 2 → parseFieldDescriptor (TX7 k).2.2.1 = some (tyX7 k) := by decide +kernel
abbrev cX7_init : ByteArray := prog_9_method_1_code
def yX7_init : MethodName := ⟨RX7, "<init>", "()V"⟩
abbrev cX7_hasRoom : ByteArray := prog_9_method_2_code
def yX7_hasRoom : MethodName := ⟨RX7, "hasRoom", "(I)Z"⟩
abbrev cX7_put : ByteArray := prog_9_method_3_code
def yX7_put : MethodName := ⟨RX7, "put", "(I)V"⟩
abbrev cX7_signAt : ByteArray := prog_9_method_4_code
def yX7_signAt : MethodName := ⟨RX7, "signAt", "(I)I"⟩
def RX8 : String := "PaperAger$Thought"
def TX8 : u_T := fun k => match k with
  | 0 => ("PaperAger$Thought", "ways", "[I", true)
  | 1 => ("PaperAger$Thought", "imagined", "LPaperAger$Paper;", true)
  | 2 => ("PaperAger$Thought", "thumbCount", "I", false)
  | 3 => ("PaperAger$Thought", "firstReader", "I", false)
  | _ => ("PaperAger$Thought", "firstDay", "I", false)
def tyX8 : Nat → FieldType := fun k => match k with
  | 0 => .array .int
  | 1 => .object "PaperAger$Paper"
  | 2 => .int
  | 3 => .int
  | _ => .int
theorem nmX8 : ∀ a, a < 5 → ∀ b, b < 5 → a ≠ b → (TX8 a).2.1 ≠ (TX8 b).2.1 := by decide +kernel
theorem tyX8_ok : ∀ k, k < 5 → parseFieldDescriptor (TX8 k).2.2.1 = some (tyX8 k) := by decide +kernel
abbrev cX8_init : ByteArray := prog_10_method_1_code
def yX8_init : MethodName := ⟨RX8, "<init>", "()V"⟩
abbrev cX8_weigh : ByteArray := prog_10_method_2_code
def yX8_weigh : MethodName := ⟨RX8, "weigh", "(LPaperAger$Archive;)V"⟩
abbrev cX8_imagine : ByteArray := prog_10_method_3_code
def yX8_imagine : MethodName := ⟨RX8, "imagine", "(LPaperAger$Archive;LPaperAger$Paper;II)LPaperAger$Paper;"⟩
abbrev cX8_claimsStand : ByteArray := prog_10_method_4_code
def yX8_claimsStand : MethodName := ⟨RX8, "claimsStand", "(LPaperAger$Archive;LPaperAger$Paper;)Z"⟩
abbrev cX8_leastSet : ByteArray := prog_10_method_5_code
def yX8_leastSet : MethodName := ⟨RX8, "leastSet", "(LPaperAger$Archive;)I"⟩
abbrev cX8_suffices : ByteArray := prog_10_method_6_code
def yX8_suffices : MethodName := ⟨RX8, "suffices", "(LPaperAger$Archive;I)Z"⟩
abbrev cX8_readerOf : ByteArray := prog_10_method_7_code
def yX8_readerOf : MethodName := ⟨RX8, "readerOf", "(LPaperAger$Archive;II)I"⟩
abbrev cX8_seekThumbs : ByteArray := prog_10_method_8_code
def yX8_seekThumbs : MethodName := ⟨RX8, "seekThumbs", "(LPaperAger$Archive;LPaperAger$Paper;I)V"⟩
abbrev cX8_countThumb : ByteArray := prog_10_method_9_code
def yX8_countThumb : MethodName := ⟨RX8, "countThumb", "(II)V"⟩
def RX9 : String := "PaperAger$Token"
def TX9 : u_T := fun k => match k with
  | 0 => ("PaperAger$Token", "place", "I", false)
  | 1 => ("PaperAger$Token", "after", "I", false)
  | 2 => ("PaperAger$Token", "kind", "I", false)
  | _ => ("PaperAger$Token", "value", "I", false)
def tyX9 : Nat → FieldType := fun k => match k with
  | 0 => .int
  | 1 => .int
  | 2 => .int
  | _ => .int
theorem nmX9 : ∀ a, a < 4 → ∀ b, b < 4 → a ≠ b → (TX9 a).2.1 ≠ (TX9 b).2.1 := by decide +kernel
theorem tyX9_ok : ∀ k, k < 4 → parseFieldDescriptor (TX9 k).2.2.1 = some (tyX9 k) := by decide +kernel
abbrev cX9_init : ByteArray := prog_11_method_1_code
def yX9_init : MethodName := ⟨RX9, "<init>", "()V"⟩
abbrev cX9_begin : ByteArray := prog_11_method_2_code
def yX9_begin : MethodName := ⟨RX9, "begin", "()V"⟩
abbrev cX9_advance : ByteArray := prog_11_method_3_code
def yX9_advance : MethodName := ⟨RX9, "advance", "(LPaperAger$Tape;)V"⟩
abbrev cX9_takeWord : ByteArray := prog_11_method_4_code
def yX9_takeWord : MethodName := ⟨RX9, "takeWord", "(LPaperAger$Tape;)V"⟩
abbrev cX9_takeNumber : ByteArray := prog_11_method_5_code
def yX9_takeNumber : MethodName := ⟨RX9, "takeNumber", "(LPaperAger$Tape;)V"⟩
abbrev cX9_takeSign : ByteArray := prog_11_method_6_code
def yX9_takeSign : MethodName := ⟨RX9, "takeSign", "(I)V"⟩
abbrev cX9_isBlank : ByteArray := prog_11_method_7_code
def yX9_isBlank : MethodName := ⟨RX9, "isBlank", "(I)Z"⟩
abbrev cX9_isLetter : ByteArray := prog_11_method_8_code
def yX9_isLetter : MethodName := ⟨RX9, "isLetter", "(I)Z"⟩
abbrev cX9_isDigit : ByteArray := prog_11_method_9_code
def yX9_isDigit : MethodName := ⟨RX9, "isDigit", "(I)Z"⟩
abbrev cX9_isFact : ByteArray := prog_11_method_10_code
def yX9_isFact : MethodName := ⟨RX9, "isFact", "(I)Z"⟩
abbrev cX9_isArithmetic : ByteArray := prog_11_method_11_code
def yX9_isArithmetic : MethodName := ⟨RX9, "isArithmetic", "(I)Z"⟩
abbrev cX9_isComparison : ByteArray := prog_11_method_12_code
def yX9_isComparison : MethodName := ⟨RX9, "isComparison", "(I)Z"⟩
abbrev cX9_bindingOf : ByteArray := prog_11_method_13_code
def yX9_bindingOf : MethodName := ⟨RX9, "bindingOf", "(I)I"⟩
def RX10 : String := "PaperAger$Trail"
def TX10 : u_T := fun k => match k with
  | 0 => ("PaperAger$Trail", "before", "[LPaperAger$Paper;", true)
  | 1 => ("PaperAger$Trail", "wrote", "[Z", true)
  | 2 => ("PaperAger$Trail", "latest", "I", false)
  | _ => ("PaperAger$Trail", "count", "I", false)
def tyX10 : Nat → FieldType := fun k => match k with
  | 0 => .array (.object "PaperAger$Paper")
  | 1 => .array .boolean
  | 2 => .int
  | _ => .int
theorem nmX10 : ∀ a, a < 4 → ∀ b, b < 4 → a ≠ b → (TX10 a).2.1 ≠ (TX10 b).2.1 := by decide +kernel
theorem tyX10_ok : ∀ k, k < 4 → parseFieldDescriptor (TX10 k).2.2.1 = some (tyX10 k) := by decide +kernel
abbrev cX10_init : ByteArray := prog_12_method_1_code
def yX10_init : MethodName := ⟨RX10, "<init>", "()V"⟩
abbrev cX10_keep : ByteArray := prog_12_method_2_code
def yX10_keep : MethodName := ⟨RX10, "keep", "(LPaperAger$Paper;Z)V"⟩
abbrev cX10_latestWrote : ByteArray := prog_12_method_3_code
def yX10_latestWrote : MethodName := ⟨RX10, "latestWrote", "()Z"⟩
abbrev cX10_takeLatest : ByteArray := prog_12_method_4_code
def yX10_takeLatest : MethodName := ⟨RX10, "takeLatest", "()LPaperAger$Paper;"⟩
abbrev cX10_forget : ByteArray := prog_12_method_5_code
def yX10_forget : MethodName := ⟨RX10, "forget", "()V"⟩
def RX11 : String := "PaperAger"
def TX11 : u_T := fun k => match k with
  | 0 => ("PaperAger", "archive", "LPaperAger$Archive;", true)
  | 1 => ("PaperAger", "kept", "LPaperAger$Archive;", true)
  | 2 => ("PaperAger", "isKept", "Z", false)
  | 3 => ("PaperAger", "tape", "LPaperAger$Tape;", true)
  | 4 => ("PaperAger", "lawReader", "LPaperAger$LawReader;", true)
  | 5 => ("PaperAger", "trail", "LPaperAger$Trail;", true)
  | _ => ("PaperAger", "thought", "LPaperAger$Thought;", true)
def tyX11 : Nat → FieldType := fun k => match k with
  | 0 => .object "PaperAger$Archive"
  | 1 => .object "PaperAger$Archive"
  | 2 => .boolean
  | 3 => .object "PaperAger$Tape"
  | 4 => .object "PaperAger$LawReader"
  | 5 => .object "PaperAger$Trail"
  | _ => .object "PaperAger$Thought"
theorem nmX11 : ∀ a, a < 7 → ∀ b, b < 7 → a ≠ b → (TX11 a).2.1 ≠ (TX11 b).2.1 := by decide +kernel
theorem tyX11_ok : ∀ k, k < 7 → parseFieldDescriptor (TX11 k).2.2.1 = some (tyX11 k) := by decide +kernel
abbrev cX11_init : ByteArray := prog_1_method_1_code
def yX11_init : MethodName := ⟨RX11, "<init>", "()V"⟩
abbrev cX11_state : ByteArray := prog_1_method_2_code
def yX11_state : MethodName := ⟨RX11, "state", "(I)I"⟩
abbrev cX11_reader : ByteArray := prog_1_method_3_code
def yX11_reader : MethodName := ⟨RX11, "reader", "(IIII)I"⟩
abbrev cX11_set : ByteArray := prog_1_method_4_code
def yX11_set : MethodName := ⟨RX11, "set", "(III)Z"⟩
abbrev cX11_paper : ByteArray := prog_1_method_5_code
def yX11_paper : MethodName := ⟨RX11, "paper", "(I)I"⟩
abbrev cX11_move : ByteArray := prog_1_method_6_code
def yX11_move : MethodName := ⟨RX11, "move", "(II)Z"⟩
abbrev cX11_swap : ByteArray := prog_1_method_7_code
def yX11_swap : MethodName := ⟨RX11, "swap", "(II)Z"⟩
abbrev cX11_fire : ByteArray := prog_1_method_8_code
def yX11_fire : MethodName := ⟨RX11, "fire", "(I)I"⟩
abbrev cX11_read : ByteArray := prog_1_method_9_code
def yX11_read : MethodName := ⟨RX11, "read", "(II)I"⟩
abbrev cX11_lease : ByteArray := prog_1_method_10_code
def yX11_lease : MethodName := ⟨RX11, "lease", "(II)Z"⟩
abbrev cX11_days : ByteArray := prog_1_method_11_code
def yX11_days : MethodName := ⟨RX11, "days", "(I)I"⟩
abbrev cX11_feed : ByteArray := prog_1_method_12_code
def yX11_feed : MethodName := ⟨RX11, "feed", "(IIIII)I"⟩
abbrev cX11_end : ByteArray := prog_1_method_13_code
def yX11_end : MethodName := ⟨RX11, "end", "(I)Z"⟩
abbrev cX11_text : ByteArray := prog_1_method_14_code
def yX11_text : MethodName := ⟨RX11, "text", "()I"⟩
abbrev cX11_fault : ByteArray := prog_1_method_15_code
def yX11_fault : MethodName := ⟨RX11, "fault", "(I)I"⟩
abbrev cX11_age : ByteArray := prog_1_method_16_code
def yX11_age : MethodName := ⟨RX11, "age", "(II)I"⟩
abbrev cX11_of : ByteArray := prog_1_method_17_code
def yX11_of : MethodName := ⟨RX11, "of", "(II)I"⟩
abbrev cX11_who : ByteArray := prog_1_method_18_code
def yX11_who : MethodName := ⟨RX11, "who", "(II)I"⟩
abbrev cX11_book : ByteArray := prog_1_method_19_code
def yX11_book : MethodName := ⟨RX11, "book", "(II)I"⟩
abbrev cX11_claim : ByteArray := prog_1_method_20_code
def yX11_claim : MethodName := ⟨RX11, "claim", "(IIII)I"⟩
abbrev cX11_fewest : ByteArray := prog_1_method_21_code
def yX11_fewest : MethodName := ⟨RX11, "fewest", "(I)I"⟩
abbrev cX11_thumbs : ByteArray := prog_1_method_22_code
def yX11_thumbs : MethodName := ⟨RX11, "thumbs", "(III)I"⟩
abbrev cX11_leaps : ByteArray := prog_1_method_23_code
def yX11_leaps : MethodName := ⟨RX11, "leaps", "(III)I"⟩
abbrev cX11_next : ByteArray := prog_1_method_24_code
def yX11_next : MethodName := ⟨RX11, "next", "()I"⟩
abbrev cX11_close : ByteArray := prog_1_method_25_code
def yX11_close : MethodName := ⟨RX11, "close", "()I"⟩
abbrev cX11_mean : ByteArray := prog_1_method_26_code
def yX11_mean : MethodName := ⟨RX11, "mean", "(I)I"⟩
abbrev cX11_undo : ByteArray := prog_1_method_27_code
def yX11_undo : MethodName := ⟨RX11, "undo", "()Z"⟩
abbrev cX11_image : ByteArray := prog_1_method_28_code
def yX11_image : MethodName := ⟨RX11, "image", "(Z)Z"⟩
abbrev cX11_look : ByteArray := prog_1_method_29_code
def yX11_look : MethodName := ⟨RX11, "look", "(I)I"⟩
abbrev cX11_within : ByteArray := prog_1_method_30_code
def yX11_within : MethodName := ⟨RX11, "within", "(III)Z"⟩
abbrev cX11_isShelf : ByteArray := prog_1_method_31_code
def yX11_isShelf : MethodName := ⟨RX11, "isShelf", "(I)Z"⟩
def RX12 : String := "PaperAgerModel"
def TX12 : u_T := fun k => match k with
  | 0 => ("PaperAgerModel", "told", "I", false)
  | 1 => ("PaperAgerModel", "state", "I", false)
  | 2 => ("PaperAgerModel", "day", "I", false)
  | 3 => ("PaperAgerModel", "readers", "I", false)
  | 4 => ("PaperAgerModel", "born", "[I", true)
  | 5 => ("PaperAgerModel", "dies", "[I", true)
  | 6 => ("PaperAgerModel", "glasses", "[I", true)
  | 7 => ("PaperAgerModel", "kindOf", "[I", true)
  | 8 => ("PaperAgerModel", "frail", "[I", true)
  | 9 => ("PaperAgerModel", "died", "I", false)
  | 10 => ("PaperAgerModel", "papers", "I", false)
  | 11 => ("PaperAgerModel", "shelfOf", "[I", true)
  | 12 => ("PaperAgerModel", "writtenOn", "[I", true)
  | 13 => ("PaperAgerModel", "readBy", "[I", true)
  | 14 => ("PaperAgerModel", "thenOf", "[I", true)
  | 15 => ("PaperAgerModel", "readMany", "[I", true)
  | 16 => ("PaperAgerModel", "readOn", "[I", true)
  | 17 => ("PaperAgerModel", "leaseOf", "[I", true)
  | 18 => ("PaperAgerModel", "lines", "I", false)
  | 19 => ("PaperAgerModel", "book", "[I", true)
  | 20 => ("PaperAgerModel", "tape", "[I", true)
  | 21 => ("PaperAgerModel", "taped", "I", false)
  | 22 => ("PaperAgerModel", "spot", "I", false)
  | 23 => ("PaperAgerModel", "from", "I", false)
  | 24 => ("PaperAgerModel", "token", "I", false)
  | 25 => ("PaperAgerModel", "value", "I", false)
  | 26 => ("PaperAgerModel", "words", "[I", true)
  | 27 => ("PaperAgerModel", "lineMany", "I", false)
  | 28 => ("PaperAgerModel", "lineWhen", "[I", true)
  | 29 => ("PaperAgerModel", "lineFrom", "[I", true)
  | 30 => ("PaperAgerModel", "lineTo", "[I", true)
  | 31 => ("PaperAgerModel", "op", "[I", true)
  | 32 => ("PaperAgerModel", "arg", "[I", true)
  | 33 => ("PaperAgerModel", "codes", "I", false)
  | 34 => ("PaperAgerModel", "open", "I", false)
  | 35 => ("PaperAgerModel", "pending", "[I", true)
  | 36 => ("PaperAgerModel", "pendings", "I", false)
  | 37 => ("PaperAgerModel", "readFault", "I", false)
  | 38 => ("PaperAgerModel", "readPlace", "I", false)
  | 39 => ("PaperAgerModel", "faultKind", "I", false)
  | 40 => ("PaperAgerModel", "faultPlace", "I", false)
  | 41 => ("PaperAgerModel", "asked", "[I", true)
  | 42 => ("PaperAgerModel", "stack", "[I", true)
  | 43 => ("PaperAgerModel", "rows", "[I", true)
  | 44 => ("PaperAgerModel", "undoable", "I", false)
  | 45 => ("PaperAgerModel", "claims", "I", false)
  | 46 => ("PaperAgerModel", "claimPaper", "[I", true)
  | 47 => ("PaperAgerModel", "claimDay", "[I", true)
  | 48 => ("PaperAgerModel", "claimFrom", "[I", true)
  | 49 => ("PaperAgerModel", "claimTo", "[I", true)
  | 50 => ("PaperAgerModel", "standsBy", "[I", true)
  | 51 => ("PaperAgerModel", "isTaking", "Z", false)
  | 52 => ("PaperAgerModel", "hasImage", "Z", false)
  | 53 => ("PaperAgerModel", "keptAt", "I", false)
  | _ => ("PaperAgerModel", "images", "[I", true)
def tyX12 : Nat → FieldType := fun k => match k with
  | 0 => .int
  | 1 => .int
  | 2 => .int
  | 3 => .int
  | 4 => .array .int
  | 5 => .array .int
  | 6 => .array .int
  | 7 => .array .int
  | 8 => .array .int
  | 9 => .int
  | 10 => .int
  | 11 => .array .int
  | 12 => .array .int
  | 13 => .array .int
  | 14 => .array .int
  | 15 => .array .int
  | 16 => .array .int
  | 17 => .array .int
  | 18 => .int
  | 19 => .array .int
  | 20 => .array .int
  | 21 => .int
  | 22 => .int
  | 23 => .int
  | 24 => .int
  | 25 => .int
  | 26 => .array .int
  | 27 => .int
  | 28 => .array .int
  | 29 => .array .int
  | 30 => .array .int
  | 31 => .array .int
  | 32 => .array .int
  | 33 => .int
  | 34 => .int
  | 35 => .array .int
  | 36 => .int
  | 37 => .int
  | 38 => .int
  | 39 => .int
  | 40 => .int
  | 41 => .array .int
  | 42 => .array .int
  | 43 => .array .int
  | 44 => .int
  | 45 => .int
  | 46 => .array .int
  | 47 => .array .int
  | 48 => .array .int
  | 49 => .array .int
  | 50 => .array .int
  | 51 => .boolean
  | 52 => .boolean
  | 53 => .int
  | _ => .array .int
theorem nmX12 : ∀ a, a < 55 → ∀ b, b < 55 → a ≠ b → (TX12 a).2.1 ≠ (TX12 b).2.1 := by decide +kernel
theorem tyX12_ok : ∀ k, k < 55 → parseFieldDescriptor (TX12 k).2.2.1 = some (tyX12 k) := by decide +kernel
abbrev cX12_init : ByteArray := prog_14_method_1_code
def yX12_init : MethodName := ⟨RX12, "<init>", "()V"⟩
abbrev cX12_isIn : ByteArray := prog_14_method_3_code
def yX12_isIn : MethodName := ⟨RX12, "isIn", "(III)Z"⟩
abbrev cX12_ones : ByteArray := prog_14_method_4_code
def yX12_ones : MethodName := ⟨RX12, "ones", "(I)I"⟩
abbrev cX12_without : ByteArray := prog_14_method_5_code
def yX12_without : MethodName := ⟨RX12, "without", "(I)I"⟩
abbrev cX12_state : ByteArray := prog_14_method_6_code
def yX12_state : MethodName := ⟨RX12, "state", "(I)I"⟩
abbrev cX12_draw : ByteArray := prog_14_method_7_code
def yX12_draw : MethodName := ⟨RX12, "draw", "(I)I"⟩
abbrev cX12_isReader : ByteArray := prog_14_method_8_code
def yX12_isReader : MethodName := ⟨RX12, "isReader", "(I)Z"⟩
abbrev cX12_doesLive : ByteArray := prog_14_method_9_code
def yX12_doesLive : MethodName := ⟨RX12, "doesLive", "(II)Z"⟩
abbrev cX12_yearsOf : ByteArray := prog_14_method_10_code
def yX12_yearsOf : MethodName := ⟨RX12, "yearsOf", "(II)I"⟩
abbrev cX12_reader : ByteArray := prog_14_method_11_code
def yX12_reader : MethodName := ⟨RX12, "reader", "(IIII)I"⟩
abbrev cX12_set : ByteArray := prog_14_method_12_code
def yX12_set : MethodName := ⟨RX12, "set", "(III)Z"⟩
abbrev cX12_isPaper : ByteArray := prog_14_method_13_code
def yX12_isPaper : MethodName := ⟨RX12, "isPaper", "(I)Z"⟩
abbrev cX12_isShelf : ByteArray := prog_14_method_14_code
def yX12_isShelf : MethodName := ⟨RX12, "isShelf", "(I)Z"⟩
abbrev cX12_paper : ByteArray := prog_14_method_15_code
def yX12_paper : MethodName := ⟨RX12, "paper", "(I)I"⟩
abbrev cX12_isUnread : ByteArray := prog_14_method_16_code
def yX12_isUnread : MethodName := ⟨RX12, "isUnread", "(I)V"⟩
abbrev cX12_move : ByteArray := prog_14_method_17_code
def yX12_move : MethodName := ⟨RX12, "move", "(II)Z"⟩
abbrev cX12_swap : ByteArray := prog_14_method_18_code
def yX12_swap : MethodName := ⟨RX12, "swap", "(II)Z"⟩
abbrev cX12_fire : ByteArray := prog_14_method_19_code
def yX12_fire : MethodName := ⟨RX12, "fire", "(I)I"⟩
abbrev cX12_lease : ByteArray := prog_14_method_20_code
def yX12_lease : MethodName := ⟨RX12, "lease", "(II)Z"⟩
abbrev cX12_types : ByteArray := prog_14_method_21_code
def yX12_types : MethodName := ⟨RX12, "types", "(I)V"⟩
abbrev cX12_feed : ByteArray := prog_14_method_22_code
def yX12_feed : MethodName := ⟨RX12, "feed", "(IIIII)I"⟩
abbrev cX12_end : ByteArray := prog_14_method_23_code
def yX12_end : MethodName := ⟨RX12, "end", "(I)Z"⟩
abbrev cX12_raw : ByteArray := prog_14_method_24_code
def yX12_raw : MethodName := ⟨RX12, "raw", "(I)I"⟩
abbrev cX12_isLetter : ByteArray := prog_14_method_25_code
def yX12_isLetter : MethodName := ⟨RX12, "isLetter", "(I)Z"⟩
abbrev cX12_isDigit : ByteArray := prog_14_method_26_code
def yX12_isDigit : MethodName := ⟨RX12, "isDigit", "(I)Z"⟩
abbrev cX12_isMarkSign : ByteArray := prog_14_method_27_code
def yX12_isMarkSign : MethodName := ⟨RX12, "isMarkSign", "(I)Z"⟩
abbrev cX12_wordAt : ByteArray := prog_14_method_28_code
def yX12_wordAt : MethodName := ⟨RX12, "wordAt", "(II)I"⟩
abbrev cX12_reads : ByteArray := prog_14_method_29_code
def yX12_reads : MethodName := ⟨RX12, "reads", "()V"⟩
abbrev cX12_errs : ByteArray := prog_14_method_30_code
def yX12_errs : MethodName := ⟨RX12, "errs", "(I)I"⟩
abbrev cX12_isWord : ByteArray := prog_14_method_31_code
def yX12_isWord : MethodName := ⟨RX12, "isWord", "(I)Z"⟩
abbrev cX12_isSign : ByteArray := prog_14_method_32_code
def yX12_isSign : MethodName := ⟨RX12, "isSign", "(I)Z"⟩
abbrev cX12_emits : ByteArray := prog_14_method_33_code
def yX12_emits : MethodName := ⟨RX12, "emits", "(II)V"⟩
abbrev cX12_readUnit : ByteArray := prog_14_method_34_code
def yX12_readUnit : MethodName := ⟨RX12, "readUnit", "()I"⟩
abbrev cX12_readProduct : ByteArray := prog_14_method_35_code
def yX12_readProduct : MethodName := ⟨RX12, "readProduct", "()I"⟩
abbrev cX12_readSum : ByteArray := prog_14_method_36_code
def yX12_readSum : MethodName := ⟨RX12, "readSum", "()I"⟩
abbrev cX12_readCompared : ByteArray := prog_14_method_37_code
def yX12_readCompared : MethodName := ⟨RX12, "readCompared", "()I"⟩
abbrev cX12_waits : ByteArray := prog_14_method_38_code
def yX12_waits : MethodName := ⟨RX12, "waits", "(I)V"⟩
abbrev cX12_settles : ByteArray := prog_14_method_39_code
def yX12_settles : MethodName := ⟨RX12, "settles", "(I)V"⟩
abbrev cX12_readAny : ByteArray := prog_14_method_40_code
def yX12_readAny : MethodName := ⟨RX12, "readAny", "()I"⟩
abbrev cX12_readText : ByteArray := prog_14_method_41_code
def yX12_readText : MethodName := ⟨RX12, "readText", "()I"⟩
abbrev cX12_text : ByteArray := prog_14_method_42_code
def yX12_text : MethodName := ⟨RX12, "text", "()I"⟩
abbrev cX12_fault : ByteArray := prog_14_method_43_code
def yX12_fault : MethodName := ⟨RX12, "fault", "(I)I"⟩
abbrev cX12_twoOf : ByteArray := prog_14_method_44_code
def yX12_twoOf : MethodName := ⟨RX12, "twoOf", "(III)I"⟩
abbrev cX12_runs : ByteArray := prog_14_method_45_code
def yX12_runs : MethodName := ⟨RX12, "runs", "(II)I"⟩
abbrev cX12_isSo : ByteArray := prog_14_method_46_code
def yX12_isSo : MethodName := ⟨RX12, "isSo", "(I)Z"⟩
abbrev cX12_ageOf : ByteArray := prog_14_method_47_code
def yX12_ageOf : MethodName := ⟨RX12, "ageOf", "(III)I"⟩
abbrev cX12_age : ByteArray := prog_14_method_48_code
def yX12_age : MethodName := ⟨RX12, "age", "(II)I"⟩
abbrev cX12_keepsAhead : ByteArray := prog_14_method_49_code
def yX12_keepsAhead : MethodName := ⟨RX12, "keepsAhead", "(I)V"⟩
abbrev cX12_undo : ByteArray := prog_14_method_50_code
def yX12_undo : MethodName := ⟨RX12, "undo", "()Z"⟩
abbrev cX12_isRead : ByteArray := prog_14_method_51_code
def yX12_isRead : MethodName := ⟨RX12, "isRead", "(III)V"⟩
abbrev cX12_read : ByteArray := prog_14_method_52_code
def yX12_read : MethodName := ⟨RX12, "read", "(II)I"⟩
abbrev cX12_leasesOf : ByteArray := prog_14_method_53_code
def yX12_leasesOf : MethodName := ⟨RX12, "leasesOf", "(I)I"⟩
abbrev cX12_nextOne : ByteArray := prog_14_method_54_code
def yX12_nextOne : MethodName := ⟨RX12, "nextOne", "()I"⟩
abbrev cX12_ends : ByteArray := prog_14_method_55_code
def yX12_ends : MethodName := ⟨RX12, "ends", "()V"⟩
abbrev cX12_days : ByteArray := prog_14_method_56_code
def yX12_days : MethodName := ⟨RX12, "days", "(I)I"⟩
abbrev cX12_staysFor : ByteArray := prog_14_method_57_code
def yX12_staysFor : MethodName := ⟨RX12, "staysFor", "(I)I"⟩
abbrev cX12_of : ByteArray := prog_14_method_58_code
def yX12_of : MethodName := ⟨RX12, "of", "(II)I"⟩
abbrev cX12_who : ByteArray := prog_14_method_59_code
def yX12_who : MethodName := ⟨RX12, "who", "(II)I"⟩
abbrev cX12_book : ByteArray := prog_14_method_60_code
def yX12_book : MethodName := ⟨RX12, "book", "(II)I"⟩
abbrev cX12_claim : ByteArray := prog_14_method_61_code
def yX12_claim : MethodName := ⟨RX12, "claim", "(IIII)I"⟩
abbrev cX12_thinksOf : ByteArray := prog_14_method_62_code
def yX12_thinksOf : MethodName := ⟨RX12, "thinksOf", "(I)V"⟩
abbrev cX12_doStand : ByteArray := prog_14_method_63_code
def yX12_doStand : MethodName := ⟨RX12, "doStand", "(I)Z"⟩
abbrev cX12_findsStanding : ByteArray := prog_14_method_64_code
def yX12_findsStanding : MethodName := ⟨RX12, "findsStanding", "(I)I"⟩
abbrev cX12_claimed : ByteArray := prog_14_method_65_code
def yX12_claimed : MethodName := ⟨RX12, "claimed", "()I"⟩
abbrev cX12_areEnough : ByteArray := prog_14_method_66_code
def yX12_areEnough : MethodName := ⟨RX12, "areEnough", "(I)Z"⟩
abbrev cX12_livingNow : ByteArray := prog_14_method_67_code
def yX12_livingNow : MethodName := ⟨RX12, "livingNow", "()I"⟩
abbrev cX12_fewest : ByteArray := prog_14_method_68_code
def yX12_fewest : MethodName := ⟨RX12, "fewest", "(I)I"⟩
abbrev cX12_thumbs : ByteArray := prog_14_method_69_code
def yX12_thumbs : MethodName := ⟨RX12, "thumbs", "(III)I"⟩
abbrev cX12_leaps : ByteArray := prog_14_method_70_code
def yX12_leaps : MethodName := ⟨RX12, "leaps", "(III)I"⟩
abbrev cX12_next : ByteArray := prog_14_method_71_code
def yX12_next : MethodName := ⟨RX12, "next", "()I"⟩
abbrev cX12_papersOn : ByteArray := prog_14_method_72_code
def yX12_papersOn : MethodName := ⟨RX12, "papersOn", "(I)I"⟩
abbrev cX12_agesOn : ByteArray := prog_14_method_73_code
def yX12_agesOn : MethodName := ⟨RX12, "agesOn", "(I)I"⟩
abbrev cX12_close : ByteArray := prog_14_method_74_code
def yX12_close : MethodName := ⟨RX12, "close", "()I"⟩
abbrev cX12_mean : ByteArray := prog_14_method_75_code
def yX12_mean : MethodName := ⟨RX12, "mean", "(I)I"⟩
abbrev cX12_kept : ByteArray := prog_14_method_76_code
def yX12_kept : MethodName := ⟨RX12, "kept", "(I)I"⟩
abbrev cX12_keepsLaw : ByteArray := prog_14_method_77_code
def yX12_keepsLaw : MethodName := ⟨RX12, "keepsLaw", "()V"⟩
abbrev cX12_keepsPapers : ByteArray := prog_14_method_78_code
def yX12_keepsPapers : MethodName := ⟨RX12, "keepsPapers", "()V"⟩
abbrev cX12_image : ByteArray := prog_14_method_79_code
def yX12_image : MethodName := ⟨RX12, "image", "(Z)Z"⟩
abbrev cX12_look : ByteArray := prog_14_method_80_code
def yX12_look : MethodName := ⟨RX12, "look", "(I)I"⟩
def RJ11 : String := "java/lang/Character"
def TJ11 : u_T := fun k => match k with
  | _ => ("", "", "", false)
def tyJ11 : Nat → FieldType := fun k => match k with
  | _ => .int
theorem nmJ11 : ∀ a, a < 0 → ∀ b, b < 0 → a ≠ b → (TJ11 a).2.1 ≠ (TJ11 b).2.1 := by decide +kernel
theorem tyJ11_ok : ∀ k, k < 0 → parseFieldDescriptor (TJ11 k).2.2.1 = some (tyJ11 k) := by decide +kernel
abbrev cJ11_isValidCodePoint_9a6ad : ByteArray := prog_15_method_11_code
def yJ11_isValidCodePoint_9a6ad : MethodName := ⟨RJ11, "isValidCodePoint", "(I)Z"⟩
abbrev cJ11_highSurrogate_5068e : ByteArray := prog_15_method_28_code
def yJ11_highSurrogate_5068e : MethodName := ⟨RJ11, "highSurrogate", "(I)C"⟩
abbrev cJ11_lowSurrogate_5068e : ByteArray := prog_15_method_29_code
def yJ11_lowSurrogate_5068e : MethodName := ⟨RJ11, "lowSurrogate", "(I)C"⟩
def RJ6 : String := "java/lang/Integer"
def TJ6 : u_T := fun k => match k with
  | _ => ("", "", "", false)
def tyJ6 : Nat → FieldType := fun k => match k with
  | _ => .int
theorem nmJ6 : ∀ a, a < 0 → ∀ b, b < 0 → a ≠ b → (TJ6 a).2.1 ≠ (TJ6 b).2.1 := by decide +kernel
theorem tyJ6_ok : ∀ k, k < 0 → parseFieldDescriptor (TJ6 k).2.2.1 = some (tyJ6 k) := by decide +kernel
abbrev cJ6_numberOfTrailingZeros_0f7a4 : ByteArray := prog_16_method_48_code
def yJ6_numberOfTrailingZeros_0f7a4 : MethodName := ⟨RJ6, "numberOfTrailingZeros", "(I)I"⟩
abbrev cJ6_bitCount_0f7a4 : ByteArray := prog_16_method_49_code
def yJ6_bitCount_0f7a4 : MethodName := ⟨RJ6, "bitCount", "(I)I"⟩
def RJ9 : String := "java/lang/Math"
def TJ9 : u_T := fun k => match k with
  | _ => ("", "", "", false)
def tyJ9 : Nat → FieldType := fun k => match k with
  | _ => .int
theorem nmJ9 : ∀ a, a < 0 → ∀ b, b < 0 → a ≠ b → (TJ9 a).2.1 ≠ (TJ9 b).2.1 := by decide +kernel
theorem tyJ9_ok : ∀ k, k < 0 → parseFieldDescriptor (TJ9 k).2.2.1 = some (tyJ9 k) := by decide +kernel
abbrev cJ9_abs_0f7a4 : ByteArray := prog_17_method_59_code
def yJ9_abs_0f7a4 : MethodName := ⟨RJ9, "abs", "(I)I"⟩
abbrev cJ9_max_7cf53 : ByteArray := prog_17_method_65_code
def yJ9_max_7cf53 : MethodName := ⟨RJ9, "max", "(II)I"⟩
abbrev cJ9_min_7cf53 : ByteArray := prog_17_method_69_code
def yJ9_min_7cf53 : MethodName := ⟨RJ9, "min", "(II)I"⟩
def RJ0 : String := "java/lang/String"
def TJ0 : u_T := fun k => match k with
  | _ => ("", "", "", false)
def tyJ0 : Nat → FieldType := fun k => match k with
  | _ => .int
theorem nmJ0 : ∀ a, a < 0 → ∀ b, b < 0 → a ≠ b → (TJ0 a).2.1 ≠ (TJ0 b).2.1 := by decide +kernel
theorem tyJ0_ok : ∀ k, k < 0 → parseFieldDescriptor (TJ0 k).2.2.1 = some (tyJ0 k) := by decide +kernel
abbrev cJ0_length_8abf5 : ByteArray := prog_18_method_54_code
def yJ0_length_8abf5 : MethodName := ⟨RJ0, "length", "()I"⟩
abbrev cJ0_charAt_5068e : ByteArray := prog_18_method_56_code
def yJ0_charAt_5068e : MethodName := ⟨RJ0, "charAt", "(I)C"⟩
abbrev cJ0_indexOf_0f7a4 : ByteArray := prog_18_method_79_code
def yJ0_indexOf_0f7a4 : MethodName := ⟨RJ0, "indexOf", "(I)I"⟩
abbrev cJ0_indexOf_7cf53 : ByteArray := prog_18_method_80_code
def yJ0_indexOf_7cf53 : MethodName := ⟨RJ0, "indexOf", "(II)I"⟩
abbrev cJ0_coder_7d493 : ByteArray := prog_18_method_152_code
def yJ0_coder_7d493 : MethodName := ⟨RJ0, "coder", "()B"⟩
abbrev cJ0_isLatin1_aae02 : ByteArray := prog_18_method_154_code
def yJ0_isLatin1_aae02 : MethodName := ⟨RJ0, "isLatin1", "()Z"⟩
abbrev cJ0_checkIndex_df160 : ByteArray := prog_18_method_155_code
def yJ0_checkIndex_df160 : MethodName := ⟨RJ0, "checkIndex", "(II)V"⟩
abbrev cJ0_checkBoundsBeginEnd_23922 : ByteArray := prog_18_method_158_code
def yJ0_checkBoundsBeginEnd_23922 : MethodName := ⟨RJ0, "checkBoundsBeginEnd", "(III)V"⟩
def RJ1 : String := "java/lang/StringLatin1"
def TJ1 : u_T := fun k => match k with
  | _ => ("", "", "", false)
def tyJ1 : Nat → FieldType := fun k => match k with
  | _ => .int
theorem nmJ1 : ∀ a, a < 0 → ∀ b, b < 0 → a ≠ b → (TJ1 a).2.1 ≠ (TJ1 b).2.1 := by decide +kernel
theorem tyJ1_ok : ∀ k, k < 0 → parseFieldDescriptor (TJ1 k).2.2.1 = some (tyJ1 k) := by decide +kernel
abbrev cJ1_charAt_3b067 : ByteArray := prog_19_method_2_code
def yJ1_charAt_3b067 : MethodName := ⟨RJ1, "charAt", "([BI)C"⟩
abbrev cJ1_canEncode_9a6ad : ByteArray := prog_19_method_4_code
def yJ1_canEncode_9a6ad : MethodName := ⟨RJ1, "canEncode", "(I)Z"⟩
abbrev cJ1_indexOf_4cfef : ByteArray := prog_19_method_22_code
def yJ1_indexOf_4cfef : MethodName := ⟨RJ1, "indexOf", "([BIII)I"⟩
abbrev cJ1_indexOfChar_4cfef : ByteArray := prog_19_method_23_code
def yJ1_indexOfChar_4cfef : MethodName := ⟨RJ1, "indexOfChar", "([BIII)I"⟩
def RJ2 : String := "java/lang/StringUTF16"
def TJ2 : u_T := fun k => match k with
  | _ => ("", "", "", false)
def tyJ2 : Nat → FieldType := fun k => match k with
  | _ => .int
theorem nmJ2 : ∀ a, a < 0 → ∀ b, b < 0 → a ≠ b → (TJ2 a).2.1 ≠ (TJ2 b).2.1 := by decide +kernel
theorem tyJ2_ok : ∀ k, k < 0 → parseFieldDescriptor (TJ2 k).2.2.1 = some (tyJ2 k) := by decide +kernel
abbrev cJ2_getChar_3b067 : ByteArray := prog_20_method_5_code
def yJ2_getChar_3b067 : MethodName := ⟨RJ2, "getChar", "([BI)C"⟩
abbrev cJ2_length_9d52b : ByteArray := prog_20_method_6_code
def yJ2_length_9d52b : MethodName := ⟨RJ2, "length", "([B)I"⟩
abbrev cJ2_indexOf_4cfef : ByteArray := prog_20_method_40_code
def yJ2_indexOf_4cfef : MethodName := ⟨RJ2, "indexOf", "([BIII)I"⟩
abbrev cJ2_indexOfChar_4cfef : ByteArray := prog_20_method_47_code
def yJ2_indexOfChar_4cfef : MethodName := ⟨RJ2, "indexOfChar", "([BIII)I"⟩
abbrev cJ2_indexOfCharUnsafe_4cfef : ByteArray := prog_20_method_48_code
def yJ2_indexOfCharUnsafe_4cfef : MethodName := ⟨RJ2, "indexOfCharUnsafe", "([BIII)I"⟩
abbrev cJ2_indexOfSupplementary_4cfef : ByteArray := prog_20_method_49_code
def yJ2_indexOfSupplementary_4cfef : MethodName := ⟨RJ2, "indexOfSupplementary", "([BIII)I"⟩
abbrev cJ2_charAt_3b067 : ByteArray := prog_20_method_83_code
def yJ2_charAt_3b067 : MethodName := ⟨RJ2, "charAt", "([BI)C"⟩
abbrev cJ2_checkIndex_2214a : ByteArray := prog_20_method_91_code
def yJ2_checkIndex_2214a : MethodName := ⟨RJ2, "checkIndex", "(I[B)V"⟩
abbrev cJ2_checkBoundsBeginEnd_d044e : ByteArray := prog_20_method_93_code
def yJ2_checkBoundsBeginEnd_d044e : MethodName := ⟨RJ2, "checkBoundsBeginEnd", "(II[B)V"⟩
def RJ10 : String := "java/lang/System"
def TJ10 : u_T := fun k => match k with
  | _ => ("", "", "", false)
def tyJ10 : Nat → FieldType := fun k => match k with
  | _ => .int
theorem nmJ10 : ∀ a, a < 0 → ∀ b, b < 0 → a ≠ b → (TJ10 a).2.1 ≠ (TJ10 b).2.1 := by decide +kernel
theorem tyJ10_ok : ∀ k, k < 0 → parseFieldDescriptor (TJ10 k).2.2.1 = some (tyJ10 k) := by decide +kernel
def RJ3 : String := "jdk/internal/util/Preconditions"
def TJ3 : u_T := fun k => match k with
  | _ => ("", "", "", false)
def tyJ3 : Nat → FieldType := fun k => match k with
  | _ => .int
theorem nmJ3 : ∀ a, a < 0 → ∀ b, b < 0 → a ≠ b → (TJ3 a).2.1 ≠ (TJ3 b).2.1 := by decide +kernel
theorem tyJ3_ok : ∀ k, k < 0 → parseFieldDescriptor (TJ3 k).2.2.1 = some (tyJ3 k) := by decide +kernel
abbrev cJ3_checkIndex_8e157 : ByteArray := prog_22_method_11_code
def yJ3_checkIndex_8e157 : MethodName := ⟨RJ3, "checkIndex", "(IILjava/util/function/BiFunction;)I"⟩
abbrev cJ3_checkFromToIndex_8c36e : ByteArray := prog_22_method_12_code
def yJ3_checkFromToIndex_8c36e : MethodName := ⟨RJ3, "checkFromToIndex", "(IIILjava/util/function/BiFunction;)I"⟩
def RL : String := "PaperAgerLaw"
abbrev cL_law : ByteArray := code
def yL_law : MethodName := ⟨RL, "law", "([I)Z"⟩
abbrev vwCl : List vw_C := [(RX0, TX0, 11), (RX1, TX1, 2), (RX2, TX2, 5), (RX3, TX3, 7), (RX4, TX4, 9), (RX5, TX5, 8), (RX6, TX6, 5), (RX7, TX7, 2), (RX8, TX8, 5), (RX9, TX9, 4), (RX10, TX10, 4), (RX11, TX11, 7), (RX12, TX12, 55)]
/-! kinds: 13 classes, arrays up to 89; the class's up to 30 -/
def nObj : Nat := 13
def nslT : List Nat := [11, 2, 5, 7, 9, 8, 5, 2, 5, 4, 4, 7, 55, 12, 12, 9, 600, 6, 6, 6, 6, 400, 16, 16, 16, 40, 40, 400, 12, 10, 10, 0, 0, 0, 0, 0, 0, 0, 0, 0, 0, 0, 0, 0, 0, 0, 0, 0, 0, 0, 0, 0, 0, 0, 0, 0, 0, 0, 0, 0, 12, 12, 12, 12, 12, 13, 13, 13, 13, 13, 13, 12, 600, 400, 67, 32, 32, 32, 800, 800, 40, 9, 420, 60, 6, 6, 6, 6, 12, 1900]
def nsl (k : Nat) : Nat := nslT.getD k 0
def rfT : List (List Nat) := [[0, 1, 2, 3, 4, 5], [0], [0, 1, 2, 3], [0, 1, 2, 3, 4], [0, 1, 2], [], [], [0], [0, 1], [], [0, 1], [0, 1, 3, 4, 5, 6], [4, 5, 6, 7, 8, 11, 12, 13, 14, 15, 16, 17, 19, 20, 26, 28, 29, 30, 31, 32, 35, 41, 42, 43, 46, 47, 48, 49, 50, 54]]
def isRf (k j : Nat) : Bool := (rfT.getD k []).contains j
def akT : List Nat := [9, 9, 9, 9, 9, 9, 9, 9, 9, 9, 9, 9, 9, 3, 4, 0, 0, 0, 0, 0, 0, 0, 0, 0, 0, 0, 0, 1, 0, 4, 2, 9, 9, 9, 9, 9, 9, 9, 9, 9, 9, 9, 9, 9, 9, 9, 9, 9, 9, 9, 9, 9, 9, 9, 9, 9, 9, 9, 9, 9, 0, 0, 0, 0, 0, 0, 0, 0, 0, 0, 0, 0, 0, 0, 0, 0, 0, 0, 0, 0, 0, 0, 0, 0, 0, 0, 0, 0, 0, 0]
def ak (k : Nat) : Nat := akT.getD k 9
def sd (k : Nat) : Bool := k == 12 || decide (59 < k)
def L0 : Nat → Nat → Nat → Option (Nat × Nat) := fun k i j => match k with
  | 0 => (match j with | 0 => some (13, i) | 1 => some (14, i) | 2 => some (1, i) | 3 => some (2, i) | 4 => some (3, i) | 5 => some (15, i) | _ => none)
  | 1 => (match j with | 0 => some (16, i) | _ => none)
  | 2 => (match j with | 0 => some (17, i) | 1 => some (18, i) | 2 => some (19, i) | 3 => some (20, i) | _ => none)
  | 3 => (match j with | 0 => some (21, i) | 1 => some (22, i) | 2 => some (23, i) | 3 => some (24, i) | 4 => some (25, i) | _ => none)
  | 4 => (match j with | 0 => some (3, 2) | 1 => some (9, 0) | 2 => some (26, i) | _ => none)
  | 7 => (match j with | 0 => some (27, i) | _ => none)
  | 8 => (match j with | 0 => some (28, i) | 1 => some (5, 24) | _ => none)
  | 10 => (match j with | 0 => some (29, i) | 1 => some (30, i) | _ => none)
  | 11 => (match j with | 0 => some (0, 0) | 1 => some (0, 1) | 3 => some (7, 0) | 4 => some (4, 0) | 5 => some (10, 0) | 6 => some (8, 0) | _ => none)
  | 12 => (match j with | 4 => some (60, i) | 5 => some (61, i) | 6 => some (62, i) | 7 => some (63, i) | 8 => some (64, i) | 11 => some (65, i) | 12 => some (66, i) | 13 => some (67, i) | 14 => some (68, i) | 15 => some (69, i) | 16 => some (70, i) | 17 => some (71, i) | 19 => some (72, i) | 20 => some (73, i) | 26 => some (74, i) | 28 => some (75, i) | 29 => some (76, i) | 30 => some (77, i) | 31 => some (78, i) | 32 => some (79, i) | 35 => some (80, i) | 41 => some (81, i) | 42 => some (82, i) | 43 => some (83, i) | 46 => some (84, i) | 47 => some (85, i) | 48 => some (86, i) | 49 => some (87, i) | 50 => some (88, i) | 54 => some (89, i) | _ => none)
  | 13 => if j < 12 then some (6, 12 * i + j) else none
  | 14 => if j < 12 then some (5, 12 * i + j) else none
  | 29 => if j < 10 then some (5, 25 + j) else none
  | _ => none
end
section
/-! ===== the words that every method's contract stands on ===== -/
def GT : List Jvm.Cond := lw_tbl.filter goodWord
theorem mg {w : Jvm.Cond} (i : Nat) (h : lw_tbl[i]? = some w) (hg : goodWord w = true) : w ∈ GT := List.mem_filter.mpr ⟨List.mem_of_getElem? h, hg⟩
theorem GT_good {w : Jvm.Cond} (h : w ∈ GT) : (w.onTables && w.keeps) = true ∨ ∃ ty, w = .arrayClass ty := good_of_word (List.mem_filter.mp h).2
/-! ===== the abstract machine: values, memory, locals ===== -/
abbrev AV : Type := Int32 ⊕ Option (Nat × Nat)
abbrev vi (x : Int32) : AV := Sum.inl x
abbrev vr (k i : Nat) : AV := Sum.inr (some (k, i))
abbrev vn : AV := Sum.inr none
abbrev Mem : Type := Nat → Nat → Nat → Int32
abbrev Lay : Type := Nat → Nat → Nat → Option (Nat × Nat)
abbrev Lv : Type := List (Option AV)
abbrev Obs : Type := List (Nat × Nat)
def gl : Lv → Nat → Option AV
  | [], _ => none
  | a :: _, 0 => a
  | _ :: l, n + 1 => gl l n
def sl : Lv → Nat → AV → Lv
  | [], _, _ => []
  | _ :: l, 0, v => some v :: l
  | a :: l, n + 1, v => a :: sl l n v
def up (S : Mem) (k i j : Nat) (x : Int32) : Mem := fun k' i' j' => if k' = k ∧ i' = i ∧ j' = j then x else S k' i' j'
def upA (S : Mem) (k i : Nat) (f : Nat → Int32) : Mem := fun k' i' => if k' = k ∧ i' = i then f else S k' i'
def upL (L : Lay) (k i j : Nat) (x : Option (Nat × Nat)) : Lay := fun k' i' j' => if k' = k ∧ i' = i ∧ j' = j then x else L k' i' j'
def nwL (L : Lay) (k i : Nat) : Lay := fun k' i' j' => if k' = k ∧ i' = i then none else L k' i' j'
def nwS (S : Mem) (k i : Nat) : Mem := fun k' i' j' => if k' = k ∧ i' = i then 0 else S k' i' j'
/-- an index into an array of n -/
def ix (x : Int32) (n : Nat) : Option Nat := if x < 0 then none else if x.toNatClampNeg < n then some x.toNatClampNeg else none
theorem ix_some {x : Int32} {n k : Nat} (h : ix x n = some k) : vp_in x n ∧ x.toNatClampNeg = k ∧ k < n := by
  unfold ix at h
  by_cases h0 : x < 0
  · rw [if_pos h0] at h; cases h
  · rw [if_neg h0] at h
    by_cases h1 : x.toNatClampNeg < n
    · rw [if_pos h1] at h
      cases h
      exact ⟨fun q => q.elim h0 (fun z => absurd h1 (Nat.not_lt.mpr z)), rfl, h1⟩
    · rw [if_neg h1] at h; cases h
/-- binding an answer and a memory -/
def bd {α β γ : Type} (o : Option (α × β)) (f : α → β → Option γ) : Option γ := match o with
  | none => none
  | some (a, b) => f a b
theorem bd_some {α β γ : Type} {o : Option (α × β)} {f : α → β → Option γ} {r : γ} (h : bd o f = some r) : ∃ a b, o = some (a, b) ∧ f a b = some r := by
  cases o with
  | none => cases h
  | some q => exact ⟨q.1, q.2, rfl, h⟩
theorem bn_some {α γ : Type} {o : Option α} {f : α → Option γ} {r : γ} (h : o.bind f = some r) : ∃ a, o = some a ∧ f a = some r := by
  cases o with
  | none => cases h
  | some q => exact ⟨q, rfl, h⟩
theorem gd_some {α : Type} {c : Prop} [Decidable c] {A : Option α} {r : α} (h : (if c then A else none) = some r) : c ∧ A = some r := by
  by_cases hc : c
  · rw [if_pos hc] at h; exact ⟨hc, h⟩
  · rw [if_neg hc] at h; cases h
theorem gn_some {α : Type} {c : Prop} [Decidable c] {A : Option α} {r : α} (h : (if c then none else A) = some r) : ¬ c ∧ A = some r := by
  by_cases hc : c
  · rw [if_pos hc] at h; cases h
  · rw [if_neg hc] at h; exact ⟨hc, h⟩
def cv (ad : Nat → Nat → Nat) : AV → Value
  | .inl x => .int x
  | .inr none => .null
  | .inr (some q) => .ref (ad q.1 q.2)
theorem cv_cat (ad : Nat → Nat → Nat) (v : AV) : (cv ad v).category = 1 := by rcases v with x | (_ | q) <;> rfl
/-! the class's memory and the reference's -/
def mm (Sc Sm : Mem) : Mem := fun k => if sd k = true then Sm k else Sc k
theorem mm_c {Sc Sm : Mem} {k : Nat} (h : sd k = false) : mm Sc Sm k = Sc k := by unfold mm; rw [if_neg (by rw [h]; decide)]
theorem mm_m {Sc Sm : Mem} {k : Nat} (h : sd k = true) : mm Sc Sm k = Sm k := by unfold mm; rw [if_pos h]
theorem mm_upC {Sc Sm : Mem} {k i j : Nat} {x : Int32} (h : sd k = false) : mm (up Sc k i j x) Sm = up (mm Sc Sm) k i j x := by
  funext k' i' j'
  by_cases hk : k' = k
  · subst hk
    simp [mm, up, h]
  · by_cases hs : sd k' = true
    · simp [mm, up, hs, hk]
    · simp [mm, up, hs, hk]
theorem mm_upM {Sc Sm : Mem} {k i j : Nat} {x : Int32} (h : sd k = true) : mm Sc (up Sm k i j x) = up (mm Sc Sm) k i j x := by
  funext k' i' j'
  by_cases hk : k' = k
  · subst hk
    simp [mm, up, h]
  · by_cases hs : sd k' = true
    · simp [mm, up, hs, hk]
    · simp [mm, up, hs, hk]
theorem mm_upAC {Sc Sm : Mem} {k i : Nat} {f : Nat → Int32} (h : sd k = false) : mm (upA Sc k i f) Sm = upA (mm Sc Sm) k i f := by
  funext k' i' j'
  by_cases hk : k' = k
  · subst hk
    simp [mm, upA, h]
  · by_cases hs : sd k' = true
    · simp [mm, upA, hs, hk]
    · simp [mm, upA, hs, hk]
theorem mm_nwC {Sc Sm : Mem} {k i : Nat} (h : sd k = false) : mm (nwS Sc k i) Sm = nwS (mm Sc Sm) k i := by
  funext k' i' j'
  by_cases hk : k' = k
  · subst hk
    simp [mm, nwS, h]
  · by_cases hs : sd k' = true
    · simp [mm, nwS, hs, hk]
    · simp [mm, nwS, hs, hk]
theorem mm_nwM {Sc Sm : Mem} {k i : Nat} (h : sd k = true) : mm Sc (nwS Sm k i) = nwS (mm Sc Sm) k i := by
  funext k' i' j'
  by_cases hk : k' = k
  · subst hk
    simp [mm, nwS, h]
  · by_cases hs : sd k' = true
    · simp [mm, nwS, hs, hk]
    · simp [mm, nwS, hs, hk]
/-! the world: objects (kind, instance), their cells -/
abbrev Ad : Type := Nat → Nat → Nat
def fvv (ad : Ad) (L : Lay) (X : Mem) (k i j : Nat) : Value := if isRf k j = true then cv ad (.inr (L k i j)) else .int (X k i j)
def ent (tc : Nat → ClassId) (ad : Ad) (L : Lay) (X : Mem) (q : Nat × Nat) : va_E :=
  if q.1 < nObj then .inr (q.1, (List.range (nsl q.1)).map (fvv ad L X q.1 q.2))
  else if ak q.1 < 3 then .inl (tc (ak q.1), nsl q.1, .inl (X q.1 q.2))
  else .inl (tc (ak q.1), nsl q.1, .inr (.inr (.inr (.inr (fun j => (L q.1 q.2 j).map fun r => ad r.1 r.2)))))
def tysOf (tc : Nat → ClassId) : List (ClassId × FieldType) := [(tc 0, .int), (tc 1, .byte), (tc 2, .boolean), (tc 3, .object "PaperAger$Reader"), (tc 4, .object "PaperAger$Paper")]
def wls (tc : Nat → ClassId) (ad : Ad) (wl : Obs) (L : Lay) (X : Mem) : va_W := wl.map (fun q => (ad q.1 q.2, ent tc ad L X q))
def PW (D : va_G) (tc : Nat → ClassId) (ad : Ad) (wl : Obs) (L : Lay) (X : Mem) (H : Heap) : Prop := va_P D vwCl (wls tc ad wl L X) H
def AD (A : Nat → Prop) (ad : Ad) (wl : Obs) : Prop := (∀ (i j : Nat) (p q : Nat × Nat), wl[i]? = some p → wl[j]? = some q → ad p.1 p.2 = ad q.1 q.2 → i = j) ∧ ∀ q ∈ wl, A (ad q.1 q.2)
def LV (wl : Obs) (L : Lay) : Prop := ∀ q ∈ wl, ∀ (j : Nat) (r : Nat × Nat), L q.1 q.2 j = some r → r ∈ wl
def Wok (D : va_G) (tc : Nat → ClassId) (sa : Ad) (A : Nat → Prop) (ad : Ad) (wl : Obs) (L : Lay) (X : Mem) (H : Heap) : Prop := (∀ k i, 90 ≤ k → ad k i = sa k i) ∧ AD A ad wl ∧ LV wl L ∧ PW D tc ad wl L X H ∧ ∀ q ∈ wl, q.1 < 90
theorem AD.inj {A : Nat → Prop} {ad : Ad} {wl : Obs} (h : AD A ad wl) {p q : Nat × Nat} (hp : p ∈ wl) (hq : q ∈ wl) (he : ad p.1 p.2 = ad q.1 q.2) : p = q := by
  obtain ⟨i, hi⟩ := List.getElem?_of_mem hp
  obtain ⟨j, hj⟩ := List.getElem?_of_mem hq
  have := h.1 i j p q hi hj he
  subst this
  exact Option.some.inj (hi.symm.trans hj)
theorem wls_at {tc : Nat → ClassId} {ad : Ad} {wl : Obs} {L : Lay} {X : Mem} {n : Nat} {q : Nat × Nat} (h : wl[n]? = some q) : (wls tc ad wl L X)[n]? = some (ad q.1 q.2, ent tc ad L X q) := by
  unfold wls
  rw [List.getElem?_map, h]
  rfl
theorem wls_of {tc : Nat → ClassId} {ad : Ad} {wl : Obs} {L : Lay} {X : Mem} {n : Nat} {x : Nat × va_E} (h : (wls tc ad wl L X)[n]? = some x) : ∃ q, wl[n]? = some q ∧ x = (ad q.1 q.2, ent tc ad L X q) := by
  unfold wls at h
  rw [List.getElem?_map] at h
  cases hq : wl[n]? with
  | none => rw [hq] at h; cases h
  | some q => rw [hq] at h; exact ⟨q, rfl, (Option.some.inj h).symm⟩
theorem AD.D {A : Nat → Prop} {ad : Ad} {wl : Obs} (h : AD A ad wl) (tc : Nat → ClassId) (L : Lay) (X : Mem) : va_D A (wls tc ad wl L X) := by
  refine ⟨fun i j p q hi hj he => ?_, fun k q hk => ?_⟩
  · obtain ⟨p', h1, rfl⟩ := wls_of hi
    obtain ⟨q', h2, rfl⟩ := wls_of hj
    exact h.1 i j p' q' h1 h2 he
  · obtain ⟨q', h1, rfl⟩ := wls_of hk
    exact h.2 q' (List.mem_of_getElem? h1)
/-- one cell changes: the others are as they were -/
theorem PW.set {D : va_G} {tc : Nat → ClassId} {A : Nat → Prop} {ad : Ad} {wl : Obs} {L L' : Lay} {X X' : Mem} {H1 : Heap} {n : Nat} {q : Nat × Nat} (hq : wl[n]? = some q) (hA : AD A ad wl) (h : va_P D vwCl ((wls tc ad wl L X).set n (ad q.1 q.2, ent tc ad L' X' q)) H1)
    (hs : ∀ r ∈ wl, r ≠ q → ent tc ad L' X' r = ent tc ad L X r) : PW D tc ad wl L' X' H1 := by
  intro k x hx
  obtain ⟨r, hr, rfl⟩ := wls_of hx
  have hl : n < (wls tc ad wl L X).length := by
    unfold wls
    rw [List.length_map]
    exact (List.getElem?_eq_some_iff.mp hq).1
  by_cases hk : k = n
  · subst hk
    have e : r = q := Option.some.inj (hr.symm.trans hq)
    subst e
    exact h k _ (List.getElem?_set_self hl)
  · have hne : r ≠ q := fun e => hk (by subst e; exact hA.1 k n r r hr hq rfl)
    rw [hs r (List.mem_of_getElem? hr) hne]
    exact h k _ (by rw [List.getElem?_set_ne (Ne.symm hk)]; exact wls_at hr)
theorem ent_congr {tc : Nat → ClassId} {ad ad' : Ad} {L L' : Lay} {X X' : Mem} {q : Nat × Nat} (hX : ∀ j, X' q.1 q.2 j = X q.1 q.2 j) (hL : ∀ j, L' q.1 q.2 j = L q.1 q.2 j) (had : ∀ j r, L q.1 q.2 j = some r → ad' r.1 r.2 = ad r.1 r.2) : ent tc ad' L' X' q = ent tc ad L X q := by
  unfold ent
  split
  · congr 2
    refine List.map_congr_left (fun j hj => ?_)
    unfold fvv
    split
    · rw [hL j]
      cases h : L q.1 q.2 j with
      | none => rfl
      | some r => show Value.ref _ = Value.ref _; rw [had j r h]
    · rw [hX j]
  · split
    · rw [show X' q.1 q.2 = X q.1 q.2 from funext hX]
    · have e : (fun j => (L' q.1 q.2 j).map fun r => ad' r.1 r.2) = fun j => (L q.1 q.2 j).map fun r => ad r.1 r.2 := by
        funext j
        rw [hL j]
        cases h : L q.1 q.2 j with
        | none => rfl
        | some r => show some (ad' r.1 r.2) = some (ad r.1 r.2); rw [had j r h]
      rw [e]
theorem up_ne {S : Mem} {k i j : Nat} {x : Int32} {q : Nat × Nat} (h : q ≠ (k, i)) (j' : Nat) : up S k i j x q.1 q.2 j' = S q.1 q.2 j' := by
  unfold up
  rw [if_neg]
  intro z
  exact h (by obtain ⟨a, b⟩ := q; obtain ⟨z1, z2, -⟩ := z; exact Prod.ext z1 z2)
theorem upA_ne {S : Mem} {k i : Nat} {f : Nat → Int32} {q : Nat × Nat} (h : q ≠ (k, i)) (j' : Nat) : upA S k i f q.1 q.2 j' = S q.1 q.2 j' := by
  unfold upA
  rw [if_neg]
  intro z
  exact h (by obtain ⟨a, b⟩ := q; obtain ⟨z1, z2⟩ := z; exact Prod.ext z1 z2)
theorem upL_ne {L : Lay} {k i j : Nat} {x : Option (Nat × Nat)} {q : Nat × Nat} (h : q ≠ (k, i)) (j' : Nat) : upL L k i j x q.1 q.2 j' = L q.1 q.2 j' := by
  unfold upL
  rw [if_neg]
  intro z
  exact h (by obtain ⟨a, b⟩ := q; obtain ⟨z1, z2, -⟩ := z; exact Prod.ext z1 z2)
theorem nwL_ne {L : Lay} {k i : Nat} {q : Nat × Nat} (h : q ≠ (k, i)) (j' : Nat) : nwL L k i q.1 q.2 j' = L q.1 q.2 j' := by
  unfold nwL
  rw [if_neg]
  intro z
  exact h (by obtain ⟨a, b⟩ := q; obtain ⟨z1, z2⟩ := z; exact Prod.ext z1 z2)
theorem nwS_ne {S : Mem} {k i : Nat} {q : Nat × Nat} (h : q ≠ (k, i)) (j' : Nat) : nwS S k i q.1 q.2 j' = S q.1 q.2 j' := by
  unfold nwS
  rw [if_neg]
  intro z
  exact h (by obtain ⟨a, b⟩ := q; obtain ⟨z1, z2⟩ := z; exact Prod.ext z1 z2)
/-! valid values; the locals -/
def okv (wl : Obs) : AV → Prop
  | .inr (some q) => q ∈ wl ∨ 90 ≤ q.1
  | _ => True
def okS (wl : Obs) (st : List AV) : Prop := ∀ v ∈ st, okv wl v
def okL (wl : Obs) (lv : Lv) : Prop := ∀ (k : Nat) (v : AV), gl lv k = some v → okv wl v
theorem okS.cons {wl : Obs} {v : AV} {st : List AV} (h : okv wl v) (hs : okS wl st) : okS wl (v :: st) := by
  intro w hw
  rcases List.mem_cons.mp hw with rfl | hw
  · exact h
  · exact hs w hw
theorem okS.i {wl : Obs} {x : Int32} {st : List AV} (hs : okS wl st) : okS wl (vi x :: st) := okS.cons (v := vi x) trivial hs
theorem okS.n {wl : Obs} {st : List AV} (hs : okS wl st) : okS wl (vn :: st) := okS.cons (v := vn) trivial hs
theorem okS.hd {wl : Obs} {v : AV} {st : List AV} (hs : okS wl (v :: st)) : okv wl v := hs v List.mem_cons_self
theorem okS.tl {wl : Obs} {v : AV} {st : List AV} (hs : okS wl (v :: st)) : okS wl st := fun w hw => hs w (List.mem_cons_of_mem _ hw)
theorem okv.mono {wl wl' : Obs} (h : ∀ q ∈ wl, q ∈ wl') {v : AV} (hv : okv wl v) : okv wl' v := by
  rcases v with x | (_ | q)
  · trivial
  · trivial
  · exact hv.imp (h q) id
theorem gl_sl {lv : Lv} {i : Nat} {v : AV} {k : Nat} {w : AV} (h : gl (sl lv i v) k = some w) : (k = i ∧ w = v) ∨ (k ≠ i ∧ gl lv k = some w) := by
  induction lv generalizing i k with
  | nil => cases h
  | cons a l ih =>
    cases i with
    | zero =>
      cases k with
      | zero => exact Or.inl ⟨rfl, (Option.some.inj h).symm⟩
      | succ k => exact Or.inr ⟨Nat.succ_ne_zero k, h⟩
    | succ i =>
      cases k with
      | zero => exact Or.inr ⟨(Nat.succ_ne_zero i).symm, h⟩
      | succ k =>
        rcases ih (show gl (sl l i v) k = some w from h) with ⟨h1, h2⟩ | ⟨h1, h2⟩
        · exact Or.inl ⟨by rw [h1], h2⟩
        · exact Or.inr ⟨fun e => h1 (Nat.succ.inj e), h2⟩
theorem okL.set {wl : Obs} {lv : Lv} (h : okL wl lv) {i : Nat} {v : AV} (hv : okv wl v) : okL wl (sl lv i v) := by
  intro k w hw
  rcases gl_sl hw with ⟨-, rfl⟩ | ⟨-, h2⟩
  · exact hv
  · exact h k w h2
def lvl (ad : Ad) : Nat → Lv → List (Nat × Value)
  | _, [] => []
  | n, none :: l => lvl ad (n + 1) l
  | n, some v :: l => (n, cv ad v) :: lvl ad (n + 1) l
theorem lvl_mem {ad : Ad} {lv : Lv} {n : Nat} {q : Nat × Value} (h : q ∈ lvl ad n lv) : ∃ k v, gl lv k = some v ∧ q = (n + k, cv ad v) := by
  induction lv generalizing n with
  | nil => cases h
  | cons a l ih =>
    cases a with
    | none =>
      obtain ⟨k, v, h1, h2⟩ := ih (show q ∈ lvl ad (n + 1) l from h)
      exact ⟨k + 1, v, h1, by rw [h2]; congr 1; omega⟩
    | some w =>
      rcases List.mem_cons.mp (show q ∈ (n, cv ad w) :: lvl ad (n + 1) l from h) with rfl | h
      · exact ⟨0, w, rfl, rfl⟩
      · obtain ⟨k, v, h1, h2⟩ := ih h
        exact ⟨k + 1, v, h1, by rw [h2]; congr 1; omega⟩
theorem lvl_in {ad : Ad} {lv : Lv} {n k : Nat} {v : AV} (h : gl lv k = some v) : (n + k, cv ad v) ∈ lvl ad n lv := by
  induction lv generalizing n k with
  | nil => cases h
  | cons a l ih =>
    cases k with
    | zero =>
      cases a with
      | none => cases h
      | some w =>
        cases (Option.some.inj h)
        exact List.mem_cons_self
    | succ k =>
      have h2 := ih (n := n + 1) (show gl l k = some v from h)
      rw [show n + 1 + k = n + (k + 1) by omega] at h2
      cases a with
      | none => exact h2
      | some w => exact List.mem_cons_of_mem _ h2
def LH (ad : Ad) (ls : Array Slot) (nL : Nat) (lv : Lv) : Prop := lv_has ls nL (lvl ad 0 lv)
theorem LH.at {ad : Ad} {ls : Array Slot} {nL : Nat} {lv : Lv} (h : LH ad ls nL lv) {k : Nat} {v : AV} (hk : gl lv k = some v) : ls[k]? = some (.val (cv ad v)) := by
  have h1 := h.2.2 _ (lvl_in (ad := ad) (n := 0) hk)
  rw [Nat.zero_add] at h1
  exact h1
theorem LH.of {ad : Ad} {ls : Array Slot} {nL : Nat} {lv : Lv} (h1 : ls.size = nL) (h2 : lv_wf ls) (h3 : ∀ k v, gl lv k = some v → ls[k]? = some (.val (cv ad v))) : LH ad ls nL lv := by
  refine ⟨h1, h2, fun q hq => ?_⟩
  obtain ⟨k, v, hk, rfl⟩ := lvl_mem hq
  rw [Nat.zero_add]
  exact h3 k v hk
theorem LH.stored {ad : Ad} {ls' : Array Slot} {nL : Nat} {lv : Lv} {i : Nat} {v : AV} (h : lv_has ls' nL ((i, cv ad v) :: (lvl ad 0 lv).filter (fun q => !(q.1 == i) && !(q.1 + 1 == i && q.2.category == 2)))) : LH ad ls' nL (sl lv i v) := by
  refine LH.of h.1 h.2.1 (fun k w hw => ?_)
  rcases gl_sl hw with ⟨rfl, rfl⟩ | ⟨hne, hk⟩
  · exact h.2.2 (k, cv ad w) List.mem_cons_self
  · have h1 := lvl_in (ad := ad) (n := 0) hk
    rw [Nat.zero_add] at h1
    refine h.2.2 (k, cv ad w) (List.mem_cons_of_mem _ (List.mem_filter.mpr ⟨h1, ?_⟩))
    simp [hne, cv_cat]
theorem LH.ad {ad ad' : Ad} {wl : Obs} {ls : Array Slot} {nL : Nat} {lv : Lv} (h : LH ad ls nL lv) (hc : ∀ v, okv wl v → cv ad' v = cv ad v) (ho : okL wl lv) : LH ad' ls nL lv := LH.of h.1 h.2.1 (fun k v hk => by rw [hc v (ho k v hk)]; exact h.at hk)
theorem cv_agree {ad ad' sa : Ad} {wl : Obs} (h : ∀ q ∈ wl, ad' q.1 q.2 = ad q.1 q.2) (h1 : ∀ k i, 90 ≤ k → ad k i = sa k i) (h2 : ∀ k i, 90 ≤ k → ad' k i = sa k i) (v : AV) (hv : okv wl v) : cv ad' v = cv ad v := by
  rcases v with x | (_ | q)
  · rfl
  · rfl
  · show Value.ref _ = Value.ref _
    rcases hv with hv | hv
    · rw [h q hv]
    · rw [h1 _ _ hv, h2 _ _ hv]
theorem map_agree {ad ad' : Ad} {wl : Obs} {st : List AV} (hc : ∀ v, okv wl v → cv ad' v = cv ad v) (ho : okS wl st) : st.map (cv ad') = st.map (cv ad) := List.map_congr_left (fun v hv => hc v (ho v hv))
theorem cat_sum (ad : Ad) (st : List AV) : ((st.map (cv ad)).map fun v => v.category).sum = st.length := by
  induction st with
  | nil => rfl
  | cons v l ih => simp only [List.map_cons, List.sum_cons, List.length_cons, ih, cv_cat]; omega
end
section
/-! ===== the environment of every method ===== -/
def sTx (i : Nat) : String := if i = 0 then "age when or and not then now dust own read shelf kind alive paper " else ";+-*/()<=>"
def sPool (i : Nat) : Nat := if i = 0 then 54 else 66
def sLen : List Nat := [66, 10]
def sByt : List (List Int32) := [[97, 103, 101, 32, 119, 104, 101, 110, 32, 111, 114, 32, 97, 110, 100, 32, 110, 111, 116, 32, 116, 104, 101, 110, 32, 110, 111, 119, 32, 100, 117, 115, 116, 32, 111, 119, 110, 32, 114, 101, 97, 100, 32, 115, 104, 101, 108, 102, 32, 107, 105, 110, 100, 32, 97, 108, 105, 118, 101, 32, 112, 97, 112, 101, 114, 32], [59, 43, 45, 42, 47, 40, 41, 60, 61, 62]]
def isNest : Jvm.Cond → Bool
  | .methodLinkNest _ _ _ _ => true
  | _ => false
def nests : List Jvm.Cond := lw_tbl.filter isNest
theorem nests_of {w : Jvm.Cond} (h : w ∈ nests) : ∃ a i x b, w = .methodLinkNest a i x b := by
  have h2 := (List.mem_filter.mp h).2
  cases w <;> first | exact ⟨_, _, _, _, rfl⟩ | cases h2
def Env0 (D : va_G) (tc : Nat → ClassId) (sa : Ad) (A : Nat → Prop) (U : State) (H : Heap) : Prop :=
  va_K D vwCl (tysOf tc) U ∧ (∀ w ∈ nests, va_Nw w U) ∧ vk_S 2 sLen sByt (sa 90) (sa 91) A U H ∧ (∀ i, i < 2 → vk_R "PaperAger$Token" (sPool i) (sTx i) (sa 90 i) U) ∧ va_Z "java/lang/String" "COMPACT_STRINGS" "Z" (.int 1) A U H ∧ va_AO "PaperAger$Reader" U ∧ va_AO "PaperAger$Paper" U ∧ (va_Z "jdk/internal/util/Preconditions" "SIOOBE_FORMATTER" "Ljava/util/function/BiFunction;" .null A U H ∨ va_Z "jdk/internal/util/Preconditions" "SIOOBE_FORMATTER" "Ljava/util/function/BiFunction;" (.ref (sa 98 0)) A U H)
theorem Env0.moved {D : va_G} {tc : Nat → ClassId} {sa : Ad} {A : Nat → Prop} {s U : State} {H H1 : Heap} (h : Env0 D tc sa A s H) (hW : s.WarmedH U.vm) (hq : ∀ a : Nat, a < H.size → ¬ A a → H1[a]? = H[a]?) : Env0 D tc sa A U H1 := by
  obtain ⟨h1, h2, h3, h4, h5, h6, h7, h8⟩ := h
  refine ⟨va_K.moved hW.alike h1, fun w hw => ?_, (vk_S.moved hW.alike h3).kept hq, fun i hi => (h4 i hi).warm hW, ?_, h6.moved hW.alike, h7.moved hW.alike, h8.imp (fun z => (va_Z.moved hW.alike z).kept hq) (fun z => (va_Z.moved hW.alike z).kept hq)⟩
  · obtain ⟨a, i, x, b, rfl⟩ := nests_of hw
    exact va_Nw.warmM hW (h2 _ hw)
  · exact (va_Z.moved hW.alike h5).kept hq
/-! ===== the judgement of the abstract machine ===== -/
def Scr (sa : Ad) (A : Nat → Prop) (s : State) (sc : Option (Nat × (Nat → Int32))) : Prop := match sc with
  | none => True
  | some q => va_X (sa 99 0) q.1 q.2 s s.heap ∧ sa 99 0 < s.heap.size ∧ ¬ A (sa 99 0)
def Cx (p : Program) (s : State) (m : MethodId) (args : Array Value) (meth : Method) (c : Code) (D : va_G) (tc : Nat → ClassId) (sa : Ad) (A : Nat → Prop) (own : String) (cc : ByteArray) (nL : Nat) (Ts : List Jvm.Cond) (sc : Option (Nat × (Nat → Int32))) : Prop :=
  CallFix p m c cc nL s args Ts own ∧ (∀ w ∈ GT, w ∈ Ts) ∧ Env0 D tc sa A s s.heap ∧ (∀ q, s.heap.size ≤ q → A q) ∧ Scr sa A s sc
def Jw (p : Program) (l : Launch) (e : Env) (R : Room) (s : State) (m : MethodId) (args : Array Value) (below : List Frame) (meth : Method) (c : Code) (Q : State → Prop) (D : va_G) (tc : Nat → ClassId) (sa : Ad) (A : Nat → Prop) (nL : Nat) (wp : Obs) (ap : Ad) : Nat → Lv → List AV → Obs → Lay → Nat → Nat → Mem → Mem → Prop := fun pc lv st wl L ce sz Sc Sm =>
  okL wl lv → okS wl st → (∀ q ∈ wp, q ∈ wl) → ∀ (ad : Ad) (H : Heap) (locs : List Loc) (ls : Array Slot), (∀ q ∈ wp, ad q.1 q.2 = ap q.1 q.2) → Wok D tc sa A ad wl L (mm Sc Sm) H → va_S A s.heap H locs → LH ad ls nL lv →
    W p l e R s m args below meth c H locs ce sz Q (F0 m pc ls (st.map (cv ad)))
/-- J is the judgement at some method of class own with code cc and so much room -/
def Cl (own : String) (cc : ByteArray) (nL fr lo rc rs : Nat) (sc : Option (Nat × (Nat → Int32))) (isI : Bool) (J : Nat → Lv → List AV → Obs → Lay → Nat → Nat → Mem → Mem → Prop) : Prop :=
  ∃ (p : Program) (l : Launch) (e : Env) (R : Room) (s : State) (m : MethodId) (args : Array Value) (below : List Frame) (meth : Method) (c : Code) (Q : State → Prop) (D : va_G) (tc : Nat → ClassId) (sa : Ad) (A : Nat → Prop) (Ts : List Jvm.Cond) (wp : Obs) (ap : Ad),
    Cx p s m args meth c D tc sa A own cc nL Ts sc ∧ (R.frames = fr ∧ R.locals = lo ∧ R.cells = rc ∧ R.slots = rs) ∧ (isI = true → meth.name = "<init>") ∧ J = Jw p l e R s m args below meth c Q D tc sa A nL wp ap
section RU
variable {own : String} {cc : ByteArray} {nL fr lo rc rs : Nat} {sc : Option (Nat × (Nat → Int32))} {isI : Bool} {J : Nat → Lv → List AV → Obs → Lay → Nat → Nat → Mem → Mem → Prop}
variable {pc : Nat} {lv : Lv} {st : List AV} {wl : Obs} {L : Lay} {ce sz : Nat} {Sc Sm : Mem}
theorem Cl.iload_n (h : Cl own cc nL fr lo rc rs sc isI J) {k : Fin 4} {x : Int32} (hd : decode cc pc = .ok (.iload_n k, 1)) (hl : gl lv k.val = some (vi x)) (kk : J (pc + 1) lv (vi x :: st) wl L ce sz Sc Sm) : J pc lv st wl L ce sz Sc Sm := by
  obtain ⟨p, l, e, R, s, m, args, below, meth, c, Q, D, tc, sa, A, Ts, wp, ap, ⟨⟨hx, hb, hml, hown, hts⟩, hG, hE, hA, hX⟩, ⟨hRf, hRl, hRc, hRs⟩, hI, rfl⟩ := h
  intro o1 o2 w1 ad H locs ls w2 hW hS hL
  exact lv_iload_n hx hb hd rfl (hL.at hl) (kk o1 o2.i w1 ad H locs ls w2 hW hS hL)
theorem Cl.iload (h : Cl own cc nL fr lo rc rs sc isI J) {i : Nat} {x : Int32} (hd : decode cc pc = .ok (.iload i, 2)) (hl : gl lv i = some (vi x)) (kk : J (pc + 2) lv (vi x :: st) wl L ce sz Sc Sm) : J pc lv st wl L ce sz Sc Sm := by
  obtain ⟨p, l, e, R, s, m, args, below, meth, c, Q, D, tc, sa, A, Ts, wp, ap, ⟨⟨hx, hb, hml, hown, hts⟩, hG, hE, hA, hX⟩, ⟨hRf, hRl, hRc, hRs⟩, hI, rfl⟩ := h
  intro o1 o2 w1 ad H locs ls w2 hW hS hL
  exact lv_iload hx hb hd (hL.at hl) (kk o1 o2.i w1 ad H locs ls w2 hW hS hL)
theorem Cl.aload_n (h : Cl own cc nL fr lo rc rs sc isI J) {k : Fin 4} {r : Option (Nat × Nat)} (hd : decode cc pc = .ok (.aload_n k, 1)) (hl : gl lv k.val = some (.inr r)) (kk : J (pc + 1) lv (.inr r :: st) wl L ce sz Sc Sm) : J pc lv st wl L ce sz Sc Sm := by
  obtain ⟨p, l, e, R, s, m, args, below, meth, c, Q, D, tc, sa, A, Ts, wp, ap, ⟨⟨hx, hb, hml, hown, hts⟩, hG, hE, hA, hX⟩, ⟨hRf, hRl, hRc, hRs⟩, hI, rfl⟩ := h
  intro o1 o2 w1 ad H locs ls w2 hW hS hL
  have hk := kk o1 (okS.cons (o1 _ _ hl) o2) w1 ad H locs ls w2 hW hS hL
  cases r with
  | none => exact lv_aload_nN hx hb hd rfl (hL.at hl) hk
  | some q => exact lv_aload_n hx hb hd rfl (hL.at hl) hk
theorem Cl.aload (h : Cl own cc nL fr lo rc rs sc isI J) {i : Nat} {r : Option (Nat × Nat)} (hd : decode cc pc = .ok (.aload i, 2)) (hl : gl lv i = some (.inr r)) (kk : J (pc + 2) lv (.inr r :: st) wl L ce sz Sc Sm) : J pc lv st wl L ce sz Sc Sm := by
  obtain ⟨p, l, e, R, s, m, args, below, meth, c, Q, D, tc, sa, A, Ts, wp, ap, ⟨⟨hx, hb, hml, hown, hts⟩, hG, hE, hA, hX⟩, ⟨hRf, hRl, hRc, hRs⟩, hI, rfl⟩ := h
  intro o1 o2 w1 ad H locs ls w2 hW hS hL
  have hk := kk o1 (okS.cons (o1 _ _ hl) o2) w1 ad H locs ls w2 hW hS hL
  cases r with
  | none => exact lv_aloadN hx hb hd (hL.at hl) hk
  | some q => exact lv_aload hx hb hd (hL.at hl) hk
theorem Cl.istore_n (h : Cl own cc nL fr lo rc rs sc isI J) {k : Fin 4} {x : Int32} (lv' : Lv) (hd : decode cc pc = .ok (.istore_n k, 1)) (hn : k.val < nL) (hl : sl lv k.val (vi x) = lv') (kk : J (pc + 1) lv' st wl L ce sz Sc Sm) : J pc lv (vi x :: st) wl L ce sz Sc Sm := by
  obtain ⟨p, l, e, R, s, m, args, below, meth, c, Q, D, tc, sa, A, Ts, wp, ap, ⟨⟨hx, hb, hml, hown, hts⟩, hG, hE, hA, hX⟩, ⟨hRf, hRl, hRc, hRs⟩, hI, rfl⟩ := h
  subst hl
  intro o1 o2 w1 ad H locs ls w2 hW hS hL
  exact lv_istore_n hx hb hd rfl hL hn rfl (fun ls' h' => kk (o1.set (v := vi x) trivial) o2.tl w1 ad H locs ls' w2 hW hS (LH.stored (v := vi x) h'))
theorem Cl.istore (h : Cl own cc nL fr lo rc rs sc isI J) {i : Nat} {x : Int32} (lv' : Lv) (hd : decode cc pc = .ok (.istore i, 2)) (hn : i < nL) (hl : sl lv i (vi x) = lv') (kk : J (pc + 2) lv' st wl L ce sz Sc Sm) : J pc lv (vi x :: st) wl L ce sz Sc Sm := by
  obtain ⟨p, l, e, R, s, m, args, below, meth, c, Q, D, tc, sa, A, Ts, wp, ap, ⟨⟨hx, hb, hml, hown, hts⟩, hG, hE, hA, hX⟩, ⟨hRf, hRl, hRc, hRs⟩, hI, rfl⟩ := h
  subst hl
  intro o1 o2 w1 ad H locs ls w2 hW hS hL
  exact lv_istore hx hb hd hL hn rfl (fun ls' h' => kk (o1.set (v := vi x) trivial) o2.tl w1 ad H locs ls' w2 hW hS (LH.stored (v := vi x) h'))
theorem Cl.astore_n (h : Cl own cc nL fr lo rc rs sc isI J) {k : Fin 4} {r : Option (Nat × Nat)} (lv' : Lv) (hd : decode cc pc = .ok (.astore_n k, 1)) (hn : k.val < nL) (hl : sl lv k.val (.inr r) = lv') (kk : J (pc + 1) lv' st wl L ce sz Sc Sm) : J pc lv (.inr r :: st) wl L ce sz Sc Sm := by
  obtain ⟨p, l, e, R, s, m, args, below, meth, c, Q, D, tc, sa, A, Ts, wp, ap, ⟨⟨hx, hb, hml, hown, hts⟩, hG, hE, hA, hX⟩, ⟨hRf, hRl, hRc, hRs⟩, hI, rfl⟩ := h
  subst hl
  intro o1 o2 w1 ad H locs ls w2 hW hS hL
  cases r with
  | none => exact lv_astore_nN hx hb hd rfl hL hn rfl (fun ls' h' => kk (o1.set o2.hd) o2.tl w1 ad H locs ls' w2 hW hS (LH.stored (v := vn) h'))
  | some q => exact lv_astore_n hx hb hd rfl hL hn rfl (fun ls' h' => kk (o1.set o2.hd) o2.tl w1 ad H locs ls' w2 hW hS (LH.stored (v := vr q.1 q.2) h'))
theorem Cl.astore (h : Cl own cc nL fr lo rc rs sc isI J) {i : Nat} {r : Option (Nat × Nat)} (lv' : Lv) (hd : decode cc pc = .ok (.astore i, 2)) (hn : i < nL) (hl : sl lv i (.inr r) = lv') (kk : J (pc + 2) lv' st wl L ce sz Sc Sm) : J pc lv (.inr r :: st) wl L ce sz Sc Sm := by
  obtain ⟨p, l, e, R, s, m, args, below, meth, c, Q, D, tc, sa, A, Ts, wp, ap, ⟨⟨hx, hb, hml, hown, hts⟩, hG, hE, hA, hX⟩, ⟨hRf, hRl, hRc, hRs⟩, hI, rfl⟩ := h
  subst hl
  intro o1 o2 w1 ad H locs ls w2 hW hS hL
  cases r with
  | none => exact lv_astoreN hx hb hd hL hn rfl (fun ls' h' => kk (o1.set o2.hd) o2.tl w1 ad H locs ls' w2 hW hS (LH.stored (v := vn) h'))
  | some q => exact lv_astore hx hb hd hL hn rfl (fun ls' h' => kk (o1.set o2.hd) o2.tl w1 ad H locs ls' w2 hW hS (LH.stored (v := vr q.1 q.2) h'))
theorem lvl_get {ad : Ad} {lv : Lv} {n k : Nat} {v : AV} (h : gl lv k = some v) : ∃ j : Nat, (lvl ad n lv)[j]? = some (n + k, cv ad v) := by
  obtain ⟨j, hj⟩ := List.getElem?_of_mem (lvl_in (ad := ad) (n := n) h)
  exact ⟨j, hj⟩
theorem Cl.iinc (h : Cl own cc nL fr lo rc rs sc isI J) {i : Nat} {n : Int} {x : Int32} (v : Int32) (lv' : Lv) (hd : decode cc pc = .ok (.iinc i n, 3)) (hn : i < nL) (hg : gl lv i = some (vi x)) (hv : x + Int32.ofInt n = v) (hl : sl lv i (vi v) = lv') (kk : J (pc + 3) lv' st wl L ce sz Sc Sm) : J pc lv st wl L ce sz Sc Sm := by
  obtain ⟨p, l, e, R, s, m, args, below, meth, c, Q, D, tc, sa, A, Ts, wp, ap, ⟨⟨hx, hb, hml, hown, hts⟩, hG, hE, hA, hX⟩, ⟨hRf, hRl, hRc, hRs⟩, hI, rfl⟩ := h
  subst hl
  intro o1 o2 w1 ad H locs ls w2 hW hS hL
  obtain ⟨j, hj⟩ := lvl_get (ad := ad) (n := 0) hg
  rw [Nat.zero_add] at hj
  exact lv_iinc (k := j) hx hb hd hL hj hv hn rfl (fun ls' h' => kk (o1.set (v := vi v) trivial) o2 w1 ad H locs ls' w2 hW hS (LH.stored (v := vi v) h'))
theorem Cl.iconst (h : Cl own cc nL fr lo rc rs sc isI J) {n : Int} (v : Int32) (hd : decode cc pc = .ok (.iconst n, 1)) (hv : Int32.ofInt n = v) (kk : J (pc + 1) lv (vi v :: st) wl L ce sz Sc Sm) : J pc lv st wl L ce sz Sc Sm := by
  obtain ⟨p, l, e, R, s, m, args, below, meth, c, Q, D, tc, sa, A, Ts, wp, ap, ⟨⟨hx, hb, hml, hown, hts⟩, hG, hE, hA, hX⟩, ⟨hRf, hRl, hRc, hRs⟩, hI, rfl⟩ := h
  intro o1 o2 w1 ad H locs ls w2 hW hS hL
  exact lv_iconst hx hb hd hv (kk o1 o2.i w1 ad H locs ls w2 hW hS hL)
theorem Cl.bipush (h : Cl own cc nL fr lo rc rs sc isI J) {n : Int} (v : Int32) (hd : decode cc pc = .ok (.bipush n, 2)) (hv : (Int8.ofInt n).toInt32 = v) (kk : J (pc + 2) lv (vi v :: st) wl L ce sz Sc Sm) : J pc lv st wl L ce sz Sc Sm := by
  obtain ⟨p, l, e, R, s, m, args, below, meth, c, Q, D, tc, sa, A, Ts, wp, ap, ⟨⟨hx, hb, hml, hown, hts⟩, hG, hE, hA, hX⟩, ⟨hRf, hRl, hRc, hRs⟩, hI, rfl⟩ := h
  intro o1 o2 w1 ad H locs ls w2 hW hS hL
  exact lv_bipush hx hb hd hv (kk o1 o2.i w1 ad H locs ls w2 hW hS hL)
theorem Cl.sipush (h : Cl own cc nL fr lo rc rs sc isI J) {n : Int} (v : Int32) (hd : decode cc pc = .ok (.sipush n, 3)) (hv : (Int16.ofInt n).toInt32 = v) (kk : J (pc + 3) lv (vi v :: st) wl L ce sz Sc Sm) : J pc lv st wl L ce sz Sc Sm := by
  obtain ⟨p, l, e, R, s, m, args, below, meth, c, Q, D, tc, sa, A, Ts, wp, ap, ⟨⟨hx, hb, hml, hown, hts⟩, hG, hE, hA, hX⟩, ⟨hRf, hRl, hRc, hRs⟩, hI, rfl⟩ := h
  intro o1 o2 w1 ad H locs ls w2 hW hS hL
  exact lv_sipush hx hb hd hv (kk o1 o2.i w1 ad H locs ls w2 hW hS hL)
theorem Cl.ldc (h : Cl own cc nL fr lo rc rs sc isI J) {i : Nat} {v : Int32} (hd : decode cc pc = .ok (.ldc i, 2)) (hv : Jvm.Cond.constant own i v ∈ GT) (kk : J (pc + 2) lv (vi v :: st) wl L ce sz Sc Sm) : J pc lv st wl L ce sz Sc Sm := by
  obtain ⟨p, l, e, R, s, m, args, below, meth, c, Q, D, tc, sa, A, Ts, wp, ap, ⟨⟨hx, hb, hml, hown, hts⟩, hG, hE, hA, hX⟩, ⟨hRf, hRl, hRc, hRs⟩, hI, rfl⟩ := h
  intro o1 o2 w1 ad H locs ls w2 hW hS hL
  exact lv_ldc hx hb hown (hts _ (hG _ hv)) hd (kk o1 o2.i w1 ad H locs ls w2 hW hS hL)
theorem Cl.ldc_w (h : Cl own cc nL fr lo rc rs sc isI J) {i : Nat} {v : Int32} (hd : decode cc pc = .ok (.ldc_w i, 3)) (hv : Jvm.Cond.constant own i v ∈ GT) (kk : J (pc + 3) lv (vi v :: st) wl L ce sz Sc Sm) : J pc lv st wl L ce sz Sc Sm := by
  obtain ⟨p, l, e, R, s, m, args, below, meth, c, Q, D, tc, sa, A, Ts, wp, ap, ⟨⟨hx, hb, hml, hown, hts⟩, hG, hE, hA, hX⟩, ⟨hRf, hRl, hRc, hRs⟩, hI, rfl⟩ := h
  intro o1 o2 w1 ad H locs ls w2 hW hS hL
  exact lv_ldcw hx hb hown (hts _ (hG _ hv)) hd (kk o1 o2.i w1 ad H locs ls w2 hW hS hL)
theorem Cl.aconst_null (h : Cl own cc nL fr lo rc rs sc isI J) (hd : decode cc pc = .ok (.aconst_null, 1)) (kk : J (pc + 1) lv (vn :: st) wl L ce sz Sc Sm) : J pc lv st wl L ce sz Sc Sm := by
  obtain ⟨p, l, e, R, s, m, args, below, meth, c, Q, D, tc, sa, A, Ts, wp, ap, ⟨⟨hx, hb, hml, hown, hts⟩, hG, hE, hA, hX⟩, ⟨hRf, hRl, hRc, hRs⟩, hI, rfl⟩ := h
  intro o1 o2 w1 ad H locs ls w2 hW hS hL
  exact lv_null hx hb hd (kk o1 o2.n w1 ad H locs ls w2 hW hS hL)
theorem Cl.iadd (h : Cl own cc nL fr lo rc rs sc isI J) {x y : Int32} (hd : decode cc pc = .ok (.iadd, 1)) (kk : J (pc + 1) lv (vi (x + y) :: st) wl L ce sz Sc Sm) : J pc lv (vi y :: vi x :: st) wl L ce sz Sc Sm := by
  obtain ⟨p, l, e, R, s, m, args, below, meth, c, Q, D, tc, sa, A, Ts, wp, ap, ⟨⟨hx, hb, hml, hown, hts⟩, hG, hE, hA, hX⟩, ⟨hRf, hRl, hRc, hRs⟩, hI, rfl⟩ := h
  intro o1 o2 w1 ad H locs ls w2 hW hS hL
  exact lv_iadd hx hb hd (kk o1 o2.tl.tl.i w1 ad H locs ls w2 hW hS hL)
theorem Cl.isub (h : Cl own cc nL fr lo rc rs sc isI J) {x y : Int32} (hd : decode cc pc = .ok (.isub, 1)) (kk : J (pc + 1) lv (vi (x - y) :: st) wl L ce sz Sc Sm) : J pc lv (vi y :: vi x :: st) wl L ce sz Sc Sm := by
  obtain ⟨p, l, e, R, s, m, args, below, meth, c, Q, D, tc, sa, A, Ts, wp, ap, ⟨⟨hx, hb, hml, hown, hts⟩, hG, hE, hA, hX⟩, ⟨hRf, hRl, hRc, hRs⟩, hI, rfl⟩ := h
  intro o1 o2 w1 ad H locs ls w2 hW hS hL
  exact lv_isub hx hb hd (kk o1 o2.tl.tl.i w1 ad H locs ls w2 hW hS hL)
theorem Cl.imul (h : Cl own cc nL fr lo rc rs sc isI J) {x y : Int32} (hd : decode cc pc = .ok (.imul, 1)) (kk : J (pc + 1) lv (vi (x * y) :: st) wl L ce sz Sc Sm) : J pc lv (vi y :: vi x :: st) wl L ce sz Sc Sm := by
  obtain ⟨p, l, e, R, s, m, args, below, meth, c, Q, D, tc, sa, A, Ts, wp, ap, ⟨⟨hx, hb, hml, hown, hts⟩, hG, hE, hA, hX⟩, ⟨hRf, hRl, hRc, hRs⟩, hI, rfl⟩ := h
  intro o1 o2 w1 ad H locs ls w2 hW hS hL
  exact lv_imul hx hb hd (kk o1 o2.tl.tl.i w1 ad H locs ls w2 hW hS hL)
theorem Cl.iand (h : Cl own cc nL fr lo rc rs sc isI J) {x y : Int32} (hd : decode cc pc = .ok (.iand, 1)) (kk : J (pc + 1) lv (vi (x &&& y) :: st) wl L ce sz Sc Sm) : J pc lv (vi y :: vi x :: st) wl L ce sz Sc Sm := by
  obtain ⟨p, l, e, R, s, m, args, below, meth, c, Q, D, tc, sa, A, Ts, wp, ap, ⟨⟨hx, hb, hml, hown, hts⟩, hG, hE, hA, hX⟩, ⟨hRf, hRl, hRc, hRs⟩, hI, rfl⟩ := h
  intro o1 o2 w1 ad H locs ls w2 hW hS hL
  exact lv_iand hx hb hd (kk o1 o2.tl.tl.i w1 ad H locs ls w2 hW hS hL)
theorem Cl.ior (h : Cl own cc nL fr lo rc rs sc isI J) {x y : Int32} (hd : decode cc pc = .ok (.ior, 1)) (kk : J (pc + 1) lv (vi (x ||| y) :: st) wl L ce sz Sc Sm) : J pc lv (vi y :: vi x :: st) wl L ce sz Sc Sm := by
  obtain ⟨p, l, e, R, s, m, args, below, meth, c, Q, D, tc, sa, A, Ts, wp, ap, ⟨⟨hx, hb, hml, hown, hts⟩, hG, hE, hA, hX⟩, ⟨hRf, hRl, hRc, hRs⟩, hI, rfl⟩ := h
  intro o1 o2 w1 ad H locs ls w2 hW hS hL
  exact lv_ior hx hb hd (kk o1 o2.tl.tl.i w1 ad H locs ls w2 hW hS hL)
theorem Cl.ixor (h : Cl own cc nL fr lo rc rs sc isI J) {x y : Int32} (hd : decode cc pc = .ok (.ixor, 1)) (kk : J (pc + 1) lv (vi (x ^^^ y) :: st) wl L ce sz Sc Sm) : J pc lv (vi y :: vi x :: st) wl L ce sz Sc Sm := by
  obtain ⟨p, l, e, R, s, m, args, below, meth, c, Q, D, tc, sa, A, Ts, wp, ap, ⟨⟨hx, hb, hml, hown, hts⟩, hG, hE, hA, hX⟩, ⟨hRf, hRl, hRc, hRs⟩, hI, rfl⟩ := h
  intro o1 o2 w1 ad H locs ls w2 hW hS hL
  exact lv_ixor hx hb hd (kk o1 o2.tl.tl.i w1 ad H locs ls w2 hW hS hL)
theorem Cl.ishl (h : Cl own cc nL fr lo rc rs sc isI J) {x y : Int32} (hd : decode cc pc = .ok (.ishl, 1)) (kk : J (pc + 1) lv (vi (x <<< (y &&& 31)) :: st) wl L ce sz Sc Sm) : J pc lv (vi y :: vi x :: st) wl L ce sz Sc Sm := by
  obtain ⟨p, l, e, R, s, m, args, below, meth, c, Q, D, tc, sa, A, Ts, wp, ap, ⟨⟨hx, hb, hml, hown, hts⟩, hG, hE, hA, hX⟩, ⟨hRf, hRl, hRc, hRs⟩, hI, rfl⟩ := h
  intro o1 o2 w1 ad H locs ls w2 hW hS hL
  exact lv_ishl hx hb hd (kk o1 o2.tl.tl.i w1 ad H locs ls w2 hW hS hL)
theorem Cl.ishr (h : Cl own cc nL fr lo rc rs sc isI J) {x y : Int32} (hd : decode cc pc = .ok (.ishr, 1)) (kk : J (pc + 1) lv (vi (x >>> (y &&& 31)) :: st) wl L ce sz Sc Sm) : J pc lv (vi y :: vi x :: st) wl L ce sz Sc Sm := by
  obtain ⟨p, l, e, R, s, m, args, below, meth, c, Q, D, tc, sa, A, Ts, wp, ap, ⟨⟨hx, hb, hml, hown, hts⟩, hG, hE, hA, hX⟩, ⟨hRf, hRl, hRc, hRs⟩, hI, rfl⟩ := h
  intro o1 o2 w1 ad H locs ls w2 hW hS hL
  exact lv_ishr hx hb hd (kk o1 o2.tl.tl.i w1 ad H locs ls w2 hW hS hL)
theorem Cl.idiv (h : Cl own cc nL fr lo rc rs sc isI J) {x y : Int32} (hd : decode cc pc = .ok (.idiv, 1)) (hne : ¬ y = 0) (kk : J (pc + 1) lv (vi (x / y) :: st) wl L ce sz Sc Sm) : J pc lv (vi y :: vi x :: st) wl L ce sz Sc Sm := by
  obtain ⟨p, l, e, R, s, m, args, below, meth, c, Q, D, tc, sa, A, Ts, wp, ap, ⟨⟨hx, hb, hml, hown, hts⟩, hG, hE, hA, hX⟩, ⟨hRf, hRl, hRc, hRs⟩, hI, rfl⟩ := h
  intro o1 o2 w1 ad H locs ls w2 hW hS hL
  exact lv_idiv hx hb hd hne (kk o1 o2.tl.tl.i w1 ad H locs ls w2 hW hS hL)
theorem Cl.irem (h : Cl own cc nL fr lo rc rs sc isI J) {x y : Int32} (hd : decode cc pc = .ok (.irem, 1)) (hne : ¬ y = 0) (kk : J (pc + 1) lv (vi (x - x / y * y) :: st) wl L ce sz Sc Sm) : J pc lv (vi y :: vi x :: st) wl L ce sz Sc Sm := by
  obtain ⟨p, l, e, R, s, m, args, below, meth, c, Q, D, tc, sa, A, Ts, wp, ap, ⟨⟨hx, hb, hml, hown, hts⟩, hG, hE, hA, hX⟩, ⟨hRf, hRl, hRc, hRs⟩, hI, rfl⟩ := h
  intro o1 o2 w1 ad H locs ls w2 hW hS hL
  exact lv_irem hx hb hd hne (kk o1 o2.tl.tl.i w1 ad H locs ls w2 hW hS hL)
def ushr (x y : Int32) : Int32 := (x.toUInt32 >>> (y.toUInt32 &&& Int32.toUInt32 31)).toInt32
theorem Cl.iushr (h : Cl own cc nL fr lo rc rs sc isI J) {x y : Int32} (hd : decode cc pc = .ok (.iushr, 1)) (kk : J (pc + 1) lv (vi (ushr x y) :: st) wl L ce sz Sc Sm) : J pc lv (vi y :: vi x :: st) wl L ce sz Sc Sm := by
  obtain ⟨p, l, e, R, s, m, args, below, meth, c, Q, D, tc, sa, A, Ts, wp, ap, ⟨⟨hx, hb, hml, hown, hts⟩, hG, hE, hA, hX⟩, ⟨hRf, hRl, hRc, hRs⟩, hI, rfl⟩ := h
  intro o1 o2 w1 ad H locs ls w2 hW hS hL
  exact lv_iushr hx hb hd rfl (kk o1 o2.tl.tl.i w1 ad H locs ls w2 hW hS hL)
theorem Cl.ineg (h : Cl own cc nL fr lo rc rs sc isI J) {x : Int32} (hd : decode cc pc = .ok (.ineg, 1)) (kk : J (pc + 1) lv (vi (-x) :: st) wl L ce sz Sc Sm) : J pc lv (vi x :: st) wl L ce sz Sc Sm := by
  obtain ⟨p, l, e, R, s, m, args, below, meth, c, Q, D, tc, sa, A, Ts, wp, ap, ⟨⟨hx, hb, hml, hown, hts⟩, hG, hE, hA, hX⟩, ⟨hRf, hRl, hRc, hRs⟩, hI, rfl⟩ := h
  intro o1 o2 w1 ad H locs ls w2 hW hS hL
  exact lv_ineg hx hb hd (kk o1 o2.tl.i w1 ad H locs ls w2 hW hS hL)
theorem Cl.i2b (h : Cl own cc nL fr lo rc rs sc isI J) {x : Int32} (hd : decode cc pc = .ok (.i2b, 1)) (kk : J (pc + 1) lv (vi x.toInt8.toInt32 :: st) wl L ce sz Sc Sm) : J pc lv (vi x :: st) wl L ce sz Sc Sm := by
  obtain ⟨p, l, e, R, s, m, args, below, meth, c, Q, D, tc, sa, A, Ts, wp, ap, ⟨⟨hx, hb, hml, hown, hts⟩, hG, hE, hA, hX⟩, ⟨hRf, hRl, hRc, hRs⟩, hI, rfl⟩ := h
  intro o1 o2 w1 ad H locs ls w2 hW hS hL
  exact lv_i2b hx hb hd rfl (kk o1 o2.tl.i w1 ad H locs ls w2 hW hS hL)
def i2c (x : Int32) : Int32 := (x.toUInt32 % 65536).toInt32
theorem Cl.i2c (h : Cl own cc nL fr lo rc rs sc isI J) {x : Int32} (hd : decode cc pc = .ok (.i2c, 1)) (kk : J (pc + 1) lv (vi (i2c x) :: st) wl L ce sz Sc Sm) : J pc lv (vi x :: st) wl L ce sz Sc Sm := by
  obtain ⟨p, l, e, R, s, m, args, below, meth, c, Q, D, tc, sa, A, Ts, wp, ap, ⟨⟨hx, hb, hml, hown, hts⟩, hG, hE, hA, hX⟩, ⟨hRf, hRl, hRc, hRs⟩, hI, rfl⟩ := h
  intro o1 o2 w1 ad H locs ls w2 hW hS hL
  exact lv_i2c hx hb hd rfl (kk o1 o2.tl.i w1 ad H locs ls w2 hW hS hL)
theorem Cl.dup (h : Cl own cc nL fr lo rc rs sc isI J) {v : AV} (hd : decode cc pc = .ok (.dup, 1)) (kk : J (pc + 1) lv (v :: v :: st) wl L ce sz Sc Sm) : J pc lv (v :: st) wl L ce sz Sc Sm := by
  obtain ⟨p, l, e, R, s, m, args, below, meth, c, Q, D, tc, sa, A, Ts, wp, ap, ⟨⟨hx, hb, hml, hown, hts⟩, hG, hE, hA, hX⟩, ⟨hRf, hRl, hRc, hRs⟩, hI, rfl⟩ := h
  intro o1 o2 w1 ad H locs ls w2 hW hS hL
  exact lv_dup hx hb hd (cv_cat ad v) (kk o1 (okS.cons o2.hd o2) w1 ad H locs ls w2 hW hS hL)
theorem Cl.pop (h : Cl own cc nL fr lo rc rs sc isI J) {v : AV} (hd : decode cc pc = .ok (.pop, 1)) (kk : J (pc + 1) lv st wl L ce sz Sc Sm) : J pc lv (v :: st) wl L ce sz Sc Sm := by
  obtain ⟨p, l, e, R, s, m, args, below, meth, c, Q, D, tc, sa, A, Ts, wp, ap, ⟨⟨hx, hb, hml, hown, hts⟩, hG, hE, hA, hX⟩, ⟨hRf, hRl, hRc, hRs⟩, hI, rfl⟩ := h
  intro o1 o2 w1 ad H locs ls w2 hW hS hL
  exact lv_pop hx hb hd (cv_cat ad v) (kk o1 o2.tl w1 ad H locs ls w2 hW hS hL)
theorem Cl.dup2 (h : Cl own cc nL fr lo rc rs sc isI J) {v w : AV} (hd : decode cc pc = .ok (.dup2, 1)) (kk : J (pc + 1) lv (v :: w :: v :: w :: st) wl L ce sz Sc Sm) : J pc lv (v :: w :: st) wl L ce sz Sc Sm := by
  obtain ⟨p, l, e, R, s, m, args, below, meth, c, Q, D, tc, sa, A, Ts, wp, ap, ⟨⟨hx, hb, hml, hown, hts⟩, hG, hE, hA, hX⟩, ⟨hRf, hRl, hRc, hRs⟩, hI, rfl⟩ := h
  intro o1 o2 w1 ad H locs ls w2 hW hS hL
  exact lv_dup2_11 hx hb hd (cv_cat ad v) (cv_cat ad w) (kk o1 (okS.cons o2.hd (okS.cons o2.tl.hd o2)) w1 ad H locs ls w2 hW hS hL)
theorem Cl.goto (h : Cl own cc nL fr lo rc rs sc isI J) {off : Int} (tgt : Nat) (hd : decode cc pc = .ok (.goto off, 3)) (ht : (pc : Int) + off = (tgt : Int)) (kk : J tgt lv st wl L ce sz Sc Sm) : J pc lv st wl L ce sz Sc Sm := by
  obtain ⟨p, l, e, R, s, m, args, below, meth, c, Q, D, tc, sa, A, Ts, wp, ap, ⟨⟨hx, hb, hml, hown, hts⟩, hG, hE, hA, hX⟩, ⟨hRf, hRl, hRc, hRs⟩, hI, rfl⟩ := h
  intro o1 o2 w1 ad H locs ls w2 hW hS hL
  exact lv_goto hx hb hd ht (kk o1 o2 w1 ad H locs ls w2 hW hS hL)
theorem Cl.icmp_eq (h : Cl own cc nL fr lo rc rs sc isI J) {x y : Int32} {off : Int} (tgt : Nat) (hd : decode cc pc = .ok (.if_icmp .eq off, 3)) (ht : (pc : Int) + off = (tgt : Int)) (kt : x = y → J tgt lv st wl L ce sz Sc Sm) (kf : ¬ x = y → J (pc + 3) lv st wl L ce sz Sc Sm) : J pc lv (vi y :: vi x :: st) wl L ce sz Sc Sm := by
  obtain ⟨p, l, e, R, s, m, args, below, meth, c, Q, D, tc, sa, A, Ts, wp, ap, ⟨⟨hx, hb, hml, hown, hts⟩, hG, hE, hA, hX⟩, ⟨hRf, hRl, hRc, hRs⟩, hI, rfl⟩ := h
  intro o1 o2 w1 ad H locs ls w2 hW hS hL
  exact lv_icmp_eq hx hb hd ht (fun q => kt q o1 o2.tl.tl w1 ad H locs ls w2 hW hS hL) (fun q => kf q o1 o2.tl.tl w1 ad H locs ls w2 hW hS hL)
theorem Cl.if_eq (h : Cl own cc nL fr lo rc rs sc isI J) {x : Int32} {off : Int} (tgt : Nat) (hd : decode cc pc = .ok (.ifCond .eq off, 3)) (ht : (pc : Int) + off = (tgt : Int)) (kt : x = 0 → J tgt lv st wl L ce sz Sc Sm) (kf : ¬ x = 0 → J (pc + 3) lv st wl L ce sz Sc Sm) : J pc lv (vi x :: st) wl L ce sz Sc Sm := by
  obtain ⟨p, l, e, R, s, m, args, below, meth, c, Q, D, tc, sa, A, Ts, wp, ap, ⟨⟨hx, hb, hml, hown, hts⟩, hG, hE, hA, hX⟩, ⟨hRf, hRl, hRc, hRs⟩, hI, rfl⟩ := h
  intro o1 o2 w1 ad H locs ls w2 hW hS hL
  exact lv_if_eq hx hb hd ht (fun q => kt q o1 o2.tl w1 ad H locs ls w2 hW hS hL) (fun q => kf q o1 o2.tl w1 ad H locs ls w2 hW hS hL)
theorem Cl.icmp_ne (h : Cl own cc nL fr lo rc rs sc isI J) {x y : Int32} {off : Int} (tgt : Nat) (hd : decode cc pc = .ok (.if_icmp .ne off, 3)) (ht : (pc : Int) + off = (tgt : Int)) (kt : ¬ x = y → J tgt lv st wl L ce sz Sc Sm) (kf : x = y → J (pc + 3) lv st wl L ce sz Sc Sm) : J pc lv (vi y :: vi x :: st) wl L ce sz Sc Sm := by
  obtain ⟨p, l, e, R, s, m, args, below, meth, c, Q, D, tc, sa, A, Ts, wp, ap, ⟨⟨hx, hb, hml, hown, hts⟩, hG, hE, hA, hX⟩, ⟨hRf, hRl, hRc, hRs⟩, hI, rfl⟩ := h
  intro o1 o2 w1 ad H locs ls w2 hW hS hL
  exact lv_icmp_ne hx hb hd ht (fun q => kt q o1 o2.tl.tl w1 ad H locs ls w2 hW hS hL) (fun q => kf q o1 o2.tl.tl w1 ad H locs ls w2 hW hS hL)
theorem Cl.if_ne (h : Cl own cc nL fr lo rc rs sc isI J) {x : Int32} {off : Int} (tgt : Nat) (hd : decode cc pc = .ok (.ifCond .ne off, 3)) (ht : (pc : Int) + off = (tgt : Int)) (kt : ¬ x = 0 → J tgt lv st wl L ce sz Sc Sm) (kf : x = 0 → J (pc + 3) lv st wl L ce sz Sc Sm) : J pc lv (vi x :: st) wl L ce sz Sc Sm := by
  obtain ⟨p, l, e, R, s, m, args, below, meth, c, Q, D, tc, sa, A, Ts, wp, ap, ⟨⟨hx, hb, hml, hown, hts⟩, hG, hE, hA, hX⟩, ⟨hRf, hRl, hRc, hRs⟩, hI, rfl⟩ := h
  intro o1 o2 w1 ad H locs ls w2 hW hS hL
  exact lv_if_ne hx hb hd ht (fun q => kt q o1 o2.tl w1 ad H locs ls w2 hW hS hL) (fun q => kf q o1 o2.tl w1 ad H locs ls w2 hW hS hL)
theorem Cl.icmp_lt (h : Cl own cc nL fr lo rc rs sc isI J) {x y : Int32} {off : Int} (tgt : Nat) (hd : decode cc pc = .ok (.if_icmp .lt off, 3)) (ht : (pc : Int) + off = (tgt : Int)) (kt : x < y → J tgt lv st wl L ce sz Sc Sm) (kf : ¬ x < y → J (pc + 3) lv st wl L ce sz Sc Sm) : J pc lv (vi y :: vi x :: st) wl L ce sz Sc Sm := by
  obtain ⟨p, l, e, R, s, m, args, below, meth, c, Q, D, tc, sa, A, Ts, wp, ap, ⟨⟨hx, hb, hml, hown, hts⟩, hG, hE, hA, hX⟩, ⟨hRf, hRl, hRc, hRs⟩, hI, rfl⟩ := h
  intro o1 o2 w1 ad H locs ls w2 hW hS hL
  exact lv_icmp_lt hx hb hd ht (fun q => kt q o1 o2.tl.tl w1 ad H locs ls w2 hW hS hL) (fun q => kf q o1 o2.tl.tl w1 ad H locs ls w2 hW hS hL)
theorem Cl.if_lt (h : Cl own cc nL fr lo rc rs sc isI J) {x : Int32} {off : Int} (tgt : Nat) (hd : decode cc pc = .ok (.ifCond .lt off, 3)) (ht : (pc : Int) + off = (tgt : Int)) (kt : x < 0 → J tgt lv st wl L ce sz Sc Sm) (kf : ¬ x < 0 → J (pc + 3) lv st wl L ce sz Sc Sm) : J pc lv (vi x :: st) wl L ce sz Sc Sm := by
  obtain ⟨p, l, e, R, s, m, args, below, meth, c, Q, D, tc, sa, A, Ts, wp, ap, ⟨⟨hx, hb, hml, hown, hts⟩, hG, hE, hA, hX⟩, ⟨hRf, hRl, hRc, hRs⟩, hI, rfl⟩ := h
  intro o1 o2 w1 ad H locs ls w2 hW hS hL
  exact lv_if_lt hx hb hd ht (fun q => kt q o1 o2.tl w1 ad H locs ls w2 hW hS hL) (fun q => kf q o1 o2.tl w1 ad H locs ls w2 hW hS hL)
theorem Cl.icmp_ge (h : Cl own cc nL fr lo rc rs sc isI J) {x y : Int32} {off : Int} (tgt : Nat) (hd : decode cc pc = .ok (.if_icmp .ge off, 3)) (ht : (pc : Int) + off = (tgt : Int)) (kt : y ≤ x → J tgt lv st wl L ce sz Sc Sm) (kf : ¬ y ≤ x → J (pc + 3) lv st wl L ce sz Sc Sm) : J pc lv (vi y :: vi x :: st) wl L ce sz Sc Sm := by
  obtain ⟨p, l, e, R, s, m, args, below, meth, c, Q, D, tc, sa, A, Ts, wp, ap, ⟨⟨hx, hb, hml, hown, hts⟩, hG, hE, hA, hX⟩, ⟨hRf, hRl, hRc, hRs⟩, hI, rfl⟩ := h
  intro o1 o2 w1 ad H locs ls w2 hW hS hL
  exact lv_icmp_ge hx hb hd ht (fun q => kt q o1 o2.tl.tl w1 ad H locs ls w2 hW hS hL) (fun q => kf q o1 o2.tl.tl w1 ad H locs ls w2 hW hS hL)
theorem Cl.if_ge (h : Cl own cc nL fr lo rc rs sc isI J) {x : Int32} {off : Int} (tgt : Nat) (hd : decode cc pc = .ok (.ifCond .ge off, 3)) (ht : (pc : Int) + off = (tgt : Int)) (kt : 0 ≤ x → J tgt lv st wl L ce sz Sc Sm) (kf : ¬ 0 ≤ x → J (pc + 3) lv st wl L ce sz Sc Sm) : J pc lv (vi x :: st) wl L ce sz Sc Sm := by
  obtain ⟨p, l, e, R, s, m, args, below, meth, c, Q, D, tc, sa, A, Ts, wp, ap, ⟨⟨hx, hb, hml, hown, hts⟩, hG, hE, hA, hX⟩, ⟨hRf, hRl, hRc, hRs⟩, hI, rfl⟩ := h
  intro o1 o2 w1 ad H locs ls w2 hW hS hL
  exact lv_if_ge hx hb hd ht (fun q => kt q o1 o2.tl w1 ad H locs ls w2 hW hS hL) (fun q => kf q o1 o2.tl w1 ad H locs ls w2 hW hS hL)
theorem Cl.icmp_gt (h : Cl own cc nL fr lo rc rs sc isI J) {x y : Int32} {off : Int} (tgt : Nat) (hd : decode cc pc = .ok (.if_icmp .gt off, 3)) (ht : (pc : Int) + off = (tgt : Int)) (kt : y < x → J tgt lv st wl L ce sz Sc Sm) (kf : ¬ y < x → J (pc + 3) lv st wl L ce sz Sc Sm) : J pc lv (vi y :: vi x :: st) wl L ce sz Sc Sm := by
  obtain ⟨p, l, e, R, s, m, args, below, meth, c, Q, D, tc, sa, A, Ts, wp, ap, ⟨⟨hx, hb, hml, hown, hts⟩, hG, hE, hA, hX⟩, ⟨hRf, hRl, hRc, hRs⟩, hI, rfl⟩ := h
  intro o1 o2 w1 ad H locs ls w2 hW hS hL
  exact lv_icmp_gt hx hb hd ht (fun q => kt q o1 o2.tl.tl w1 ad H locs ls w2 hW hS hL) (fun q => kf q o1 o2.tl.tl w1 ad H locs ls w2 hW hS hL)
theorem Cl.if_gt (h : Cl own cc nL fr lo rc rs sc isI J) {x : Int32} {off : Int} (tgt : Nat) (hd : decode cc pc = .ok (.ifCond .gt off, 3)) (ht : (pc : Int) + off = (tgt : Int)) (kt : 0 < x → J tgt lv st wl L ce sz Sc Sm) (kf : ¬ 0 < x → J (pc + 3) lv st wl L ce sz Sc Sm) : J pc lv (vi x :: st) wl L ce sz Sc Sm := by
  obtain ⟨p, l, e, R, s, m, args, below, meth, c, Q, D, tc, sa, A, Ts, wp, ap, ⟨⟨hx, hb, hml, hown, hts⟩, hG, hE, hA, hX⟩, ⟨hRf, hRl, hRc, hRs⟩, hI, rfl⟩ := h
  intro o1 o2 w1 ad H locs ls w2 hW hS hL
  exact lv_if_gt hx hb hd ht (fun q => kt q o1 o2.tl w1 ad H locs ls w2 hW hS hL) (fun q => kf q o1 o2.tl w1 ad H locs ls w2 hW hS hL)
theorem Cl.icmp_le (h : Cl own cc nL fr lo rc rs sc isI J) {x y : Int32} {off : Int} (tgt : Nat) (hd : decode cc pc = .ok (.if_icmp .le off, 3)) (ht : (pc : Int) + off = (tgt : Int)) (kt : x ≤ y → J tgt lv st wl L ce sz Sc Sm) (kf : ¬ x ≤ y → J (pc + 3) lv st wl L ce sz Sc Sm) : J pc lv (vi y :: vi x :: st) wl L ce sz Sc Sm := by
  obtain ⟨p, l, e, R, s, m, args, below, meth, c, Q, D, tc, sa, A, Ts, wp, ap, ⟨⟨hx, hb, hml, hown, hts⟩, hG, hE, hA, hX⟩, ⟨hRf, hRl, hRc, hRs⟩, hI, rfl⟩ := h
  intro o1 o2 w1 ad H locs ls w2 hW hS hL
  exact lv_icmp_le hx hb hd ht (fun q => kt q o1 o2.tl.tl w1 ad H locs ls w2 hW hS hL) (fun q => kf q o1 o2.tl.tl w1 ad H locs ls w2 hW hS hL)
theorem Cl.if_le (h : Cl own cc nL fr lo rc rs sc isI J) {x : Int32} {off : Int} (tgt : Nat) (hd : decode cc pc = .ok (.ifCond .le off, 3)) (ht : (pc : Int) + off = (tgt : Int)) (kt : x ≤ 0 → J tgt lv st wl L ce sz Sc Sm) (kf : ¬ x ≤ 0 → J (pc + 3) lv st wl L ce sz Sc Sm) : J pc lv (vi x :: st) wl L ce sz Sc Sm := by
  obtain ⟨p, l, e, R, s, m, args, below, meth, c, Q, D, tc, sa, A, Ts, wp, ap, ⟨⟨hx, hb, hml, hown, hts⟩, hG, hE, hA, hX⟩, ⟨hRf, hRl, hRc, hRs⟩, hI, rfl⟩ := h
  intro o1 o2 w1 ad H locs ls w2 hW hS hL
  exact lv_if_le hx hb hd ht (fun q => kt q o1 o2.tl w1 ad H locs ls w2 hW hS hL) (fun q => kf q o1 o2.tl w1 ad H locs ls w2 hW hS hL)
theorem Cl.ifnullY (h : Cl own cc nL fr lo rc rs sc isI J) {off : Int} (tgt : Nat) (hd : decode cc pc = .ok (.ifnull off, 3)) (ht : (pc : Int) + off = (tgt : Int)) (kk : J tgt lv st wl L ce sz Sc Sm) : J pc lv (vn :: st) wl L ce sz Sc Sm := by
  obtain ⟨p, l, e, R, s, m, args, below, meth, c, Q, D, tc, sa, A, Ts, wp, ap, ⟨⟨hx, hb, hml, hown, hts⟩, hG, hE, hA, hX⟩, ⟨hRf, hRl, hRc, hRs⟩, hI, rfl⟩ := h
  intro o1 o2 w1 ad H locs ls w2 hW hS hL
  exact lv_ifnullN hx hb hd ht (kk o1 o2.tl w1 ad H locs ls w2 hW hS hL)
theorem Cl.ifnullN (h : Cl own cc nL fr lo rc rs sc isI J) {off : Int} {k i : Nat} (hd : decode cc pc = .ok (.ifnull off, 3)) (kk : J (pc + 3) lv st wl L ce sz Sc Sm) : J pc lv (vr k i :: st) wl L ce sz Sc Sm := by
  obtain ⟨p, l, e, R, s, m, args, below, meth, c, Q, D, tc, sa, A, Ts, wp, ap, ⟨⟨hx, hb, hml, hown, hts⟩, hG, hE, hA, hX⟩, ⟨hRf, hRl, hRc, hRs⟩, hI, rfl⟩ := h
  intro o1 o2 w1 ad H locs ls w2 hW hS hL
  exact lv_ifnull hx hb hd (kk o1 o2.tl w1 ad H locs ls w2 hW hS hL)
theorem Cl.ifnonnullY (h : Cl own cc nL fr lo rc rs sc isI J) {off : Int} {k i : Nat} (tgt : Nat) (hd : decode cc pc = .ok (.ifnonnull off, 3)) (ht : (pc : Int) + off = (tgt : Int)) (kk : J tgt lv st wl L ce sz Sc Sm) : J pc lv (vr k i :: st) wl L ce sz Sc Sm := by
  obtain ⟨p, l, e, R, s, m, args, below, meth, c, Q, D, tc, sa, A, Ts, wp, ap, ⟨⟨hx, hb, hml, hown, hts⟩, hG, hE, hA, hX⟩, ⟨hRf, hRl, hRc, hRs⟩, hI, rfl⟩ := h
  intro o1 o2 w1 ad H locs ls w2 hW hS hL
  exact lv_ifnonnull hx hb hd ht (kk o1 o2.tl w1 ad H locs ls w2 hW hS hL)
theorem Cl.ifnonnullN (h : Cl own cc nL fr lo rc rs sc isI J) {off : Int} (hd : decode cc pc = .ok (.ifnonnull off, 3)) (kk : J (pc + 3) lv st wl L ce sz Sc Sm) : J pc lv (vn :: st) wl L ce sz Sc Sm := by
  obtain ⟨p, l, e, R, s, m, args, below, meth, c, Q, D, tc, sa, A, Ts, wp, ap, ⟨⟨hx, hb, hml, hown, hts⟩, hG, hE, hA, hX⟩, ⟨hRf, hRl, hRc, hRs⟩, hI, rfl⟩ := h
  intro o1 o2 w1 ad H locs ls w2 hW hS hL
  exact lv_ifnonnullN hx hb hd (kk o1 o2.tl w1 ad H locs ls w2 hW hS hL)
theorem Cl.tswIn (h : Cl own cc nL fr lo rc rs sc isI J) {dflt lo' hi' : Int} {offs : Array Int} {len : Nat} {x : Int32} {off : Int} (tgt : Nat) (hd : decode cc pc = .ok (.tableswitch dflt lo' hi' offs, len)) (h1 : ¬ x.toInt < lo') (h2 : ¬ hi' < x.toInt) (ho : offs[(x.toInt - lo').toNat]? = some off) (ht : (pc : Int) + off = (tgt : Int)) (kk : J tgt lv st wl L ce sz Sc Sm) : J pc lv (vi x :: st) wl L ce sz Sc Sm := by
  obtain ⟨p, l, e, R, s, m, args, below, meth, c, Q, D, tc, sa, A, Ts, wp, ap, ⟨⟨hx, hb, hml, hown, hts⟩, hG, hE, hA, hX⟩, ⟨hRf, hRl, hRc, hRs⟩, hI, rfl⟩ := h
  intro o1 o2 w1 ad H locs ls w2 hW hS hL
  exact lv_tableIn hx hb hd h1 h2 ho ht (kk o1 o2.tl w1 ad H locs ls w2 hW hS hL)
theorem Cl.tswOut (h : Cl own cc nL fr lo rc rs sc isI J) {dflt lo' hi' : Int} {offs : Array Int} {len : Nat} {x : Int32} (tgt : Nat) (hd : decode cc pc = .ok (.tableswitch dflt lo' hi' offs, len)) (h1 : x.toInt < lo' ∨ hi' < x.toInt) (ht : (pc : Int) + dflt = (tgt : Int)) (kk : J tgt lv st wl L ce sz Sc Sm) : J pc lv (vi x :: st) wl L ce sz Sc Sm := by
  obtain ⟨p, l, e, R, s, m, args, below, meth, c, Q, D, tc, sa, A, Ts, wp, ap, ⟨⟨hx, hb, hml, hown, hts⟩, hG, hE, hA, hX⟩, ⟨hRf, hRl, hRc, hRs⟩, hI, rfl⟩ := h
  intro o1 o2 w1 ad H locs ls w2 hW hS hL
  exact lv_tableOut hx hb hd h1 ht (kk o1 o2.tl w1 ad H locs ls w2 hW hS hL)
theorem Cl.tswD (h : Cl own cc nL fr lo rc rs sc isI J) {dflt lo' hi' : Int} {offs : Array Int} {len : Nat} {x : Int32} (tgt : Nat) (sp : List Int) (hd : decode cc pc = .ok (.tableswitch dflt lo' hi' offs, len)) (hx' : ∀ c ∈ sp, ¬ x.toInt = c) (hchk : ((hi' < lo' + offs.size) && ((List.range offs.size).all fun k => offs[k]? == some dflt || sp.contains (lo' + (k : Int)))) = true) (ht : (pc : Int) + dflt = (tgt : Int)) (kk : J tgt lv st wl L ce sz Sc Sm) : J pc lv (vi x :: st) wl L ce sz Sc Sm := by
  rw [Bool.and_eq_true, decide_eq_true_eq] at hchk
  by_cases h1 : x.toInt < lo' ∨ hi' < x.toInt
  · exact h.tswOut tgt hd h1 ht kk
  · have e : ((x.toInt - lo').toNat : Int) = x.toInt - lo' := by omega
    have hk : (x.toInt - lo').toNat < offs.size := by omega
    have h2 := List.all_eq_true.mp hchk.2 _ (List.mem_range.mpr hk)
    rw [Bool.or_eq_true] at h2
    rcases h2 with h2 | h2
    · exact h.tswIn tgt hd (by omega) (by omega) (by simpa using h2) ht kk
    · rw [e, show lo' + (x.toInt - lo') = x.toInt by omega] at h2
      exact absurd rfl (hx' x.toInt (by simpa using h2))
theorem Cl.lsw (h : Cl own cc nL fr lo rc rs sc isI J) {dflt : Int} {ps : Array (Int × Int)} {len : Nat} {x : Int32} {off : Int} (tgt : Nat) (hd : decode cc pc = .ok (.lookupswitch dflt ps, len)) (hp : (ps.toList.zip (ps.toList.drop 1)).all (fun (a, next) => a.1 < next.1) = true) (ho : Op.lookupswitch.offset ps.toList dflt x.toInt = off) (ht : (pc : Int) + off = (tgt : Int)) (kk : J tgt lv st wl L ce sz Sc Sm) : J pc lv (vi x :: st) wl L ce sz Sc Sm := by
  obtain ⟨p, l, e, R, s, m, args, below, meth, c, Q, D, tc, sa, A, Ts, wp, ap, ⟨⟨hx, hb, hml, hown, hts⟩, hG, hE, hA, hX⟩, ⟨hRf, hRl, hRc, hRs⟩, hI, rfl⟩ := h
  intro o1 o2 w1 ad H locs ls w2 hW hS hL
  exact lv_lookup hx hb hd hp ho ht (kk o1 o2.tl w1 ad H locs ls w2 hW hS hL)
end RU
end
section
/-! ===== fields ===== -/
def KC (k : Nat) (C : String) (T : u_T) (ty0 : Nat → FieldType) : Prop := vwCl[k]? = some (C, T, nsl k) ∧ k < nObj ∧ (∀ w ∈ u_ws C T (nsl k), w ∈ GT) ∧ (∀ j, j < nsl k → parseFieldDescriptor (T j).2.2.1 = some (ty0 j)) ∧ (∀ a, a < nsl k → ∀ b, b < nsl k → a ≠ b → (T a).2.1 ≠ (T b).2.1) ∧ (∀ j, j < nsl k → (isRf k j = false → ty0 j = .int ∨ ty0 j = .boolean) ∧ (isRf k j = true → (∃ n, ty0 j = .object n) ∨ ∃ t, ty0 j = .array t))
def FL (own : String) (idx k j : Nat) : Prop := ∃ C T ty0, KC k C T ty0 ∧ j < nsl k ∧ Jvm.Cond.fieldLink own idx (T j).1 (T j).2.1 (T j).2.2.1 ∈ GT
def FP (own : String) (idx k j : Nat) (ty : FieldType) : Prop := ∃ C T ty0, KC k C T ty0 ∧ j < nsl k ∧ Jvm.Cond.fieldLink own idx (T j).1 (T j).2.1 (T j).2.2.1 ∈ GT ∧ (T j).2.2.2 = false ∧ parseFieldDescriptor (T j).2.2.1 = some ty
def FF (own : String) (idx k j : Nat) : Prop := ∃ C T ty0, KC k C T ty0 ∧ j < nsl k ∧ Jvm.Cond.fieldLink own idx (T j).1 (T j).2.1 (T j).2.2.1 ∈ GT ∧ (T j).2.2.2 = true ∧ (T j).1 = own
theorem ent_obj {tc : Nat → ClassId} {ad : Ad} {L : Lay} {X : Mem} {k i : Nat} (h : k < nObj) : ent tc ad L X (k, i) = .inr (k, (List.range (nsl k)).map (fvv ad L X k i)) := if_pos h
theorem ak_obj : ∀ k, k < nObj → ak k = 9 := by decide +kernel
theorem ak_big {k : Nat} (h : 90 ≤ k) : ak k = 9 := by
  unfold ak
  rw [List.getD_eq_getElem?_getD, List.getElem?_eq_none (show akT.length ≤ k from h)]
  rfl
theorem ent_arr {tc : Nat → ClassId} {ad : Ad} {L : Lay} {X : Mem} {k i : Nat} (h : ak k < 3) : ent tc ad L X (k, i) = .inl (tc (ak k), nsl k, .inl (X k i)) := by
  have h1 : ¬ k < nObj := fun q => by rw [ak_obj k q] at h; omega
  exact (if_neg h1).trans (if_pos h)
theorem ent_arq {tc : Nat → ClassId} {ad : Ad} {L : Lay} {X : Mem} {k i : Nat} (h : ak k = 3 ∨ ak k = 4) : ent tc ad L X (k, i) = .inl (tc (ak k), nsl k, .inr (.inr (.inr (.inr (fun j => (L k i j).map fun r => ad r.1 r.2))))) := by
  have h1 : ¬ k < nObj := fun q => by rw [ak_obj k q] at h; omega
  have h2 : ¬ ak k < 3 := by omega
  exact (if_neg h1).trans (if_neg h2)
theorem okv_obj {wl : Obs} {k i : Nat} (h : okv wl (vr k i)) (hk : k < nObj) : (k, i) ∈ wl := h.resolve_right (fun q => by have q2 : (90 : Nat) ≤ k := q; have h3 : nObj = 13 := rfl; omega)
theorem okv_arr {wl : Obs} {k i : Nat} (h : okv wl (vr k i)) (hk : ak k ≠ 9) : (k, i) ∈ wl := h.resolve_right (fun q => hk (ak_big q))
theorem range_get {α : Type} {f : Nat → α} {n j : Nat} (h : j < n) : ((List.range n).map f)[j]? = some (f j) := by simp [h]
theorem range_set {f g : Nat → Value} {n j : Nat} {v : Value} (hj : g j = v) (hg : ∀ k, k ≠ j → g k = f k) : ((List.range n).map f).set j v = (List.range n).map g := by
  apply List.ext_getElem?
  intro k
  by_cases hk : k < n
  · by_cases e : k = j
    · subst e
      rw [List.getElem?_set_self (by simp [hk])]
      simp [hk, hj]
    · rw [List.getElem?_set_ne (Ne.symm e)]
      simp [hk, hg k e]
  · rw [List.getElem?_eq_none (by simp; omega), List.getElem?_eq_none (by simp; omega)]
section RH
variable {own : String} {cc : ByteArray} {nL fr lo rc rs : Nat} {sc : Option (Nat × (Nat → Int32))} {isI : Bool} {J : Nat → Lv → List AV → Obs → Lay → Nat → Nat → Mem → Mem → Prop}
variable {pc : Nat} {lv : Lv} {st : List AV} {wl : Obs} {L : Lay} {ce sz : Nat} {Sc Sm : Mem} {idx k i j : Nat}
theorem Cl.getX (h : Cl own cc nL fr lo rc rs sc isI J) (hd : decode cc pc = .ok (.getfield idx, 3)) (hf : FL own idx k j) (hr : isRf k j = false) {x : Int32} (hv : mm Sc Sm k i j = x) (kk : J (pc + 3) lv (vi x :: st) wl L ce sz Sc Sm) : J pc lv (vr k i :: st) wl L ce sz Sc Sm := by
  obtain ⟨p, l, e, R, s, m, args, below, meth, c, Q, D, tc, sa, A, Ts, wp, ap, ⟨⟨hx, hb, hml, hown, hts⟩, hG, hE, hA, hX⟩, ⟨hRf, hRl, hRc, hRs⟩, hI, rfl⟩ := h
  obtain ⟨C, T, ty0, ⟨k1, k2, k3, k4, k5, k6⟩, f1, f2⟩ := hf
  intro o1 o2 w1 ad H locs ls w2 hW hS hL
  obtain ⟨n, hn⟩ := List.getElem?_of_mem (okv_obj o2.hd k2)
  have he := wls_at (tc := tc) (ad := ad) (L := L) (X := mm Sc Sm) hn
  rw [ent_obj k2] at he
  have hv' : fvv ad L (mm Sc Sm) k i j = .int x := by unfold fvv; rw [if_neg (by rw [hr]; decide), hv]
  exact va_get (D := D) (v := .int x) hx hb hts (fun w h => hG w (k3 w h)) hown hE.1 hW.2.2.2.1 n he k1 j f1 (hts _ (hG _ f2)) (fun _ h => h) (by rw [range_get f1, hv']) hd (kk o1 o2.tl.i w1 ad H locs ls w2 hW hS hL)
theorem Cl.getI (h : Cl own cc nL fr lo rc rs sc isI J) (hd : decode cc pc = .ok (.getfield idx, 3)) (hf : FL own idx k j) (hr : isRf k j = false) (hs : sd k = false) (kk : J (pc + 3) lv (vi (Sc k i j) :: st) wl L ce sz Sc Sm) : J pc lv (vr k i :: st) wl L ce sz Sc Sm := h.getX hd hf hr (by rw [mm_c hs]) kk
theorem Cl.getM (h : Cl own cc nL fr lo rc rs sc isI J) (hd : decode cc pc = .ok (.getfield idx, 3)) (hf : FL own idx k j) (hr : isRf k j = false) (hs : sd k = true) (kk : J (pc + 3) lv (vi (Sm k i j) :: st) wl L ce sz Sc Sm) : J pc lv (vr k i :: st) wl L ce sz Sc Sm := h.getX hd hf hr (by rw [mm_m hs]) kk
theorem Cl.getR (h : Cl own cc nL fr lo rc rs sc isI J) (hd : decode cc pc = .ok (.getfield idx, 3)) (hf : FL own idx k j) (hr : isRf k j = true) {k' i' : Nat} (hL' : L k i j = some (k', i')) (kk : J (pc + 3) lv (vr k' i' :: st) wl L ce sz Sc Sm) : J pc lv (vr k i :: st) wl L ce sz Sc Sm := by
  obtain ⟨p, l, e, R, s, m, args, below, meth, c, Q, D, tc, sa, A, Ts, wp, ap, ⟨⟨hx, hb, hml, hown, hts⟩, hG, hE, hA, hX⟩, ⟨hRf, hRl, hRc, hRs⟩, hI, rfl⟩ := h
  obtain ⟨C, T, ty0, ⟨k1, k2, k3, k4, k5, k6⟩, f1, f2⟩ := hf
  intro o1 o2 w1 ad H locs ls w2 hW hS hL
  have hm := okv_obj o2.hd k2
  obtain ⟨n, hn⟩ := List.getElem?_of_mem hm
  have he := wls_at (tc := tc) (ad := ad) (L := L) (X := mm Sc Sm) hn
  rw [ent_obj k2] at he
  have hv' : fvv ad L (mm Sc Sm) k i j = .ref (ad k' i') := by unfold fvv; rw [if_pos hr, hL']; rfl
  exact va_get (D := D) (v := .ref (ad k' i')) hx hb hts (fun w h => hG w (k3 w h)) hown hE.1 hW.2.2.2.1 n he k1 j f1 (hts _ (hG _ f2)) (fun _ h => h) (by rw [range_get f1, hv']) hd (kk o1 (okS.cons (v := vr k' i') (Or.inl (hW.2.2.1 _ hm j _ hL')) o2.tl) w1 ad H locs ls w2 hW hS hL)
theorem Cl.putX (h : Cl own cc nL fr lo rc rs sc isI J) {ty : FieldType} (hd : decode cc pc = .ok (.putfield idx, 3)) (hf : FP own idx k j ty) (hr : isRf k j = false) {x : Int32} (hn : narrow ty (.int x) = .int x) (hfit : fits ty (.int x) = true) {Sc' Sm' : Mem} (hmm : mm Sc' Sm' = up (mm Sc Sm) k i j x) (kk : J (pc + 3) lv st wl L ce sz Sc' Sm') : J pc lv (vi x :: vr k i :: st) wl L ce sz Sc Sm := by
  obtain ⟨p, l, e, R, s, m, args, below, meth, c, Q, D, tc, sa, A, Ts, wp, ap, ⟨⟨hx, hb, hml, hown, hts⟩, hG, hE, hA, hX⟩, ⟨hRf, hRl, hRc, hRs⟩, hI, rfl⟩ := h
  obtain ⟨C, T, ty0, ⟨k1, k2, k3, k4, k5, k6⟩, f1, f2, f3, f4⟩ := hf
  intro o1 o2 w1 ad H locs ls w2 hW hS hL
  have hm := okv_obj o2.tl.hd k2
  obtain ⟨n, hn'⟩ := List.getElem?_of_mem hm
  have he := wls_at (tc := tc) (ad := ad) (L := L) (X := mm Sc Sm) hn'
  rw [ent_obj k2] at he
  refine va_put (D := D) (v := .int x) hx hb hts (fun w h => hG w (k3 w h)) ty0 k4 k5 hown hE.1 hW.2.2.2.1 (hW.2.1.D tc L (mm Sc Sm)) hS n he k1 j f1 (hts _ (hG _ f2)) (fun _ h => h) f3 f4 hn hfit (by simp [f1]) hd (fun H1 locs1 hP1 _ hS1 => ?_)
  refine kk o1 o2.tl.tl w1 ad H1 locs1 ls w2 ⟨hW.1, hW.2.1, hW.2.2.1, ?_, hW.2.2.2.2⟩ hS1 hL
  rw [hmm]
  refine PW.set (q := (k, i)) hn' hW.2.1 ?_ (fun r _ hne => ent_congr (fun j' => up_ne hne j') (fun _ => rfl) (fun _ _ _ => rfl))
  rw [ent_obj k2]
  rw [range_set (g := fvv ad L (up (mm Sc Sm) k i j x) k i)] at hP1
  · exact hP1
  · unfold fvv; rw [if_neg (by rw [hr]; decide)]; simp [up]
  · intro j' hne
    unfold fvv
    split
    · rfl
    · simp [up, hne]
theorem Cl.putI (h : Cl own cc nL fr lo rc rs sc isI J) (hd : decode cc pc = .ok (.putfield idx, 3)) (hf : FP own idx k j .int) (hr : isRf k j = false) {x : Int32} (hs : sd k = false) (kk : J (pc + 3) lv st wl L ce sz (up Sc k i j x) Sm) : J pc lv (vi x :: vr k i :: st) wl L ce sz Sc Sm := h.putX hd hf hr rfl rfl (mm_upC hs) kk
theorem Cl.putM (h : Cl own cc nL fr lo rc rs sc isI J) (hd : decode cc pc = .ok (.putfield idx, 3)) (hf : FP own idx k j .int) (hr : isRf k j = false) {x : Int32} (hs : sd k = true) (kk : J (pc + 3) lv st wl L ce sz Sc (up Sm k i j x)) : J pc lv (vi x :: vr k i :: st) wl L ce sz Sc Sm := h.putX hd hf hr rfl rfl (mm_upM hs) kk
theorem bool_nar {x : Int32} (h : x = 0 ∨ x = 1) : narrow .boolean (.int x) = .int x ∧ fits .boolean (.int x) = true := by
  rcases h with rfl | rfl <;> exact ⟨by decide, by decide⟩
theorem Cl.putZ (h : Cl own cc nL fr lo rc rs sc isI J) (hd : decode cc pc = .ok (.putfield idx, 3)) (hf : FP own idx k j .boolean) (hr : isRf k j = false) {x : Int32} (hb01 : x = 0 ∨ x = 1) (hs : sd k = false) (kk : J (pc + 3) lv st wl L ce sz (up Sc k i j x) Sm) : J pc lv (vi x :: vr k i :: st) wl L ce sz Sc Sm := h.putX hd hf hr (bool_nar hb01).1 (bool_nar hb01).2 (mm_upC hs) kk
theorem Cl.putZM (h : Cl own cc nL fr lo rc rs sc isI J) (hd : decode cc pc = .ok (.putfield idx, 3)) (hf : FP own idx k j .boolean) (hr : isRf k j = false) {x : Int32} (hb01 : x = 0 ∨ x = 1) (hs : sd k = true) (kk : J (pc + 3) lv st wl L ce sz Sc (up Sm k i j x)) : J pc lv (vi x :: vr k i :: st) wl L ce sz Sc Sm := h.putX hd hf hr (bool_nar hb01).1 (bool_nar hb01).2 (mm_upM hs) kk
/-! ===== arrays ===== -/
theorem Cl.aldX (h : Cl own cc nL fr lo rc rs sc isI J) {ins : Instr} (hins : (ins = .iaload ∧ ak k = 0) ∨ (ins = .baload ∧ (ak k = 1 ∨ ak k = 2))) (hd : decode cc pc = .ok (ins, 1)) {x : Int32} {n : Nat} (hn : nsl k = n) (hi : ix x n = some j) {v : Int32} (hv : mm Sc Sm k i j = v) (kk : J (pc + 1) lv (vi v :: st) wl L ce sz Sc Sm) : J pc lv (vi x :: vr k i :: st) wl L ce sz Sc Sm := by
  obtain ⟨p, l, e, R, s, m, args, below, meth, c, Q, D, tc, sa, A, Ts, wp, ap, ⟨⟨hx, hb, hml, hown, hts⟩, hG, hE, hA, hX⟩, ⟨hRf, hRl, hRc, hRs⟩, hI, rfl⟩ := h
  intro o1 o2 w1 ad H locs ls w2 hW hS hL
  have h9 : ak k < 3 := by omega
  have hm := okv_arr o2.tl.hd (by omega)
  obtain ⟨n', hn'⟩ := List.getElem?_of_mem hm
  have he := wls_at (tc := tc) (ad := ad) (L := L) (X := mm Sc Sm) hn'
  rw [ent_arr h9] at he
  subst hn
  obtain ⟨i1, i2, i3⟩ := ix_some hi
  subst hv
  subst i2
  have hk := kk o1 o2.tl.tl.i w1 ad H locs ls w2 hW hS hL
  rcases hins with ⟨rfl, h0⟩ | ⟨rfl, h0 | h0⟩
  · rw [h0] at he
    exact va_iald hx hb hE.1 hW.2.2.2.1 n' 0 he rfl i1 hd hk
  · rw [h0] at he
    exact va_bald hx hb hE.1 hW.2.2.2.1 n' 1 he rfl i1 hd hk
  · rw [h0] at he
    exact va_zald hx hb hE.1 hW.2.2.2.1 n' 2 he rfl i1 hd hk
theorem Cl.iald (h : Cl own cc nL fr lo rc rs sc isI J) (hd : decode cc pc = .ok (.iaload, 1)) (hk : ak k = 0) {x : Int32} {n : Nat} (hn : nsl k = n) (hi : ix x n = some j) (hs : sd k = false) (kk : J (pc + 1) lv (vi (Sc k i j) :: st) wl L ce sz Sc Sm) : J pc lv (vi x :: vr k i :: st) wl L ce sz Sc Sm := h.aldX (Or.inl ⟨rfl, hk⟩) hd hn hi (by rw [mm_c hs]) kk
theorem Cl.ialdM (h : Cl own cc nL fr lo rc rs sc isI J) (hd : decode cc pc = .ok (.iaload, 1)) (hk : ak k = 0) {x : Int32} {n : Nat} (hn : nsl k = n) (hi : ix x n = some j) (hs : sd k = true) (kk : J (pc + 1) lv (vi (Sm k i j) :: st) wl L ce sz Sc Sm) : J pc lv (vi x :: vr k i :: st) wl L ce sz Sc Sm := h.aldX (Or.inl ⟨rfl, hk⟩) hd hn hi (by rw [mm_m hs]) kk
theorem Cl.bald (h : Cl own cc nL fr lo rc rs sc isI J) (hd : decode cc pc = .ok (.baload, 1)) (hk : ak k = 1 ∨ ak k = 2) {x : Int32} {n : Nat} (hn : nsl k = n) (hi : ix x n = some j) (hs : sd k = false) (kk : J (pc + 1) lv (vi (Sc k i j) :: st) wl L ce sz Sc Sm) : J pc lv (vi x :: vr k i :: st) wl L ce sz Sc Sm := h.aldX (Or.inr ⟨rfl, hk⟩) hd hn hi (by rw [mm_c hs]) kk
theorem up_row {X : Mem} {k i j : Nat} {v : Int32} : upd (X k i) j v = up X k i j v k i := by
  funext q
  simp [up, upd]
theorem Cl.astX (h : Cl own cc nL fr lo rc rs sc isI J) {ins : Instr} {v w : Int32} (hins : (ins = .iastore ∧ ak k = 0 ∧ w = v) ∨ (ins = .bastore ∧ ak k = 1 ∧ w = vp_nar .byte v) ∨ (ins = .bastore ∧ ak k = 2 ∧ w = vp_nar .boolean v)) (hd : decode cc pc = .ok (ins, 1)) {x : Int32} {n : Nat} (hn : nsl k = n) (hi : ix x n = some j) {Sc' Sm' : Mem} (hmm : mm Sc' Sm' = up (mm Sc Sm) k i j w) (kk : J (pc + 1) lv st wl L ce sz Sc' Sm') : J pc lv (vi v :: vi x :: vr k i :: st) wl L ce sz Sc Sm := by
  obtain ⟨p, l, e, R, s, m, args, below, meth, c, Q, D, tc, sa, A, Ts, wp, ap, ⟨⟨hx, hb, hml, hown, hts⟩, hG, hE, hA, hX⟩, ⟨hRf, hRl, hRc, hRs⟩, hI, rfl⟩ := h
  intro o1 o2 w1 ad H locs ls w2 hW hS hL
  have h9 : ak k < 3 := by omega
  have hm := okv_arr o2.tl.tl.hd (by omega)
  obtain ⟨n', hn'⟩ := List.getElem?_of_mem hm
  have he := wls_at (tc := tc) (ad := ad) (L := L) (X := mm Sc Sm) hn'
  rw [ent_arr h9] at he
  subst hn
  obtain ⟨i1, i2, i3⟩ := ix_some hi
  subst i2
  have fin : ∀ (H1 : Heap) (locs1 : List Loc), va_P D vwCl ((wls tc ad wl L (mm Sc Sm)).set n' (ad k i, .inl (tc (ak k), nsl k, .inl (upd (mm Sc Sm k i) x.toNatClampNeg w)))) H1 → va_S A s.heap H1 locs1 → W p l e R s m args below meth c H1 locs1 ce sz Q (F0 m (pc + 1) ls (st.map (cv ad))) := by
    intro H1 locs1 hP1 hS1
    refine kk o1 o2.tl.tl.tl w1 ad H1 locs1 ls w2 ⟨hW.1, hW.2.1, hW.2.2.1, ?_, hW.2.2.2.2⟩ hS1 hL
    rw [hmm]
    refine PW.set (q := (k, i)) hn' hW.2.1 ?_ (fun r _ hne => ent_congr (fun j' => up_ne hne j') (fun _ => rfl) (fun _ _ _ => rfl))
    rw [ent_arr h9, ← up_row]
    exact hP1
  rcases hins with ⟨rfl, h0, rfl⟩ | ⟨rfl, h0, rfl⟩ | ⟨rfl, h0, rfl⟩
  · rw [h0] at he fin
    exact va_iast hx hb hE.1 hW.2.2.2.1 (hW.2.1.D tc L (mm Sc Sm)) hS n' 0 he rfl i1 hd (fun H1 locs1 hP1 _ hS1 => fin H1 locs1 hP1 hS1)
  · rw [h0] at he fin
    exact va_bast hx hb hE.1 hW.2.2.2.1 (hW.2.1.D tc L (mm Sc Sm)) hS n' 1 he rfl i1 hd (fun H1 locs1 hP1 _ hS1 => fin H1 locs1 hP1 hS1)
  · rw [h0] at he fin
    exact va_zast hx hb hE.1 hW.2.2.2.1 (hW.2.1.D tc L (mm Sc Sm)) hS n' 2 he rfl i1 hd (fun H1 locs1 hP1 _ hS1 => fin H1 locs1 hP1 hS1)
theorem Cl.iast (h : Cl own cc nL fr lo rc rs sc isI J) {v : Int32} (hd : decode cc pc = .ok (.iastore, 1)) (hk : ak k = 0) {x : Int32} {n : Nat} (hn : nsl k = n) (hi : ix x n = some j) (hs : sd k = false) (kk : J (pc + 1) lv st wl L ce sz (up Sc k i j v) Sm) : J pc lv (vi v :: vi x :: vr k i :: st) wl L ce sz Sc Sm := h.astX (Or.inl ⟨rfl, hk, rfl⟩) hd hn hi (mm_upC hs) kk
theorem Cl.iastM (h : Cl own cc nL fr lo rc rs sc isI J) {v : Int32} (hd : decode cc pc = .ok (.iastore, 1)) (hk : ak k = 0) {x : Int32} {n : Nat} (hn : nsl k = n) (hi : ix x n = some j) (hs : sd k = true) (kk : J (pc + 1) lv st wl L ce sz Sc (up Sm k i j v)) : J pc lv (vi v :: vi x :: vr k i :: st) wl L ce sz Sc Sm := h.astX (Or.inl ⟨rfl, hk, rfl⟩) hd hn hi (mm_upM hs) kk
theorem Cl.bast (h : Cl own cc nL fr lo rc rs sc isI J) {v : Int32} (hd : decode cc pc = .ok (.bastore, 1)) (hk : ak k = 1) {x : Int32} {n : Nat} (hn : nsl k = n) (hi : ix x n = some j) (hs : sd k = false) (kk : J (pc + 1) lv st wl L ce sz (up Sc k i j (vp_nar .byte v)) Sm) : J pc lv (vi v :: vi x :: vr k i :: st) wl L ce sz Sc Sm := h.astX (Or.inr (Or.inl ⟨rfl, hk, rfl⟩)) hd hn hi (mm_upC hs) kk
theorem Cl.zast (h : Cl own cc nL fr lo rc rs sc isI J) {v : Int32} (hd : decode cc pc = .ok (.bastore, 1)) (hk : ak k = 2) {x : Int32} {n : Nat} (hn : nsl k = n) (hi : ix x n = some j) (hs : sd k = false) (kk : J (pc + 1) lv st wl L ce sz (up Sc k i j (vp_nar .boolean v)) Sm) : J pc lv (vi v :: vi x :: vr k i :: st) wl L ce sz Sc Sm := h.astX (Or.inr (Or.inr ⟨rfl, hk, rfl⟩)) hd hn hi (mm_upC hs) kk
theorem Cl.aald (h : Cl own cc nL fr lo rc rs sc isI J) (hd : decode cc pc = .ok (.aaload, 1)) (hk : ak k = 3 ∨ ak k = 4) {x : Int32} {n : Nat} (hn : nsl k = n) (hi : ix x n = some j) {k' i' : Nat} (hL' : L k i j = some (k', i')) (kk : J (pc + 1) lv (vr k' i' :: st) wl L ce sz Sc Sm) : J pc lv (vi x :: vr k i :: st) wl L ce sz Sc Sm := by
  obtain ⟨p, l, e, R, s, m, args, below, meth, c, Q, D, tc, sa, A, Ts, wp, ap, ⟨⟨hx, hb, hml, hown, hts⟩, hG, hE, hA, hX⟩, ⟨hRf, hRl, hRc, hRs⟩, hI, rfl⟩ := h
  intro o1 o2 w1 ad H locs ls w2 hW hS hL
  have hm := okv_arr o2.tl.hd (by omega)
  obtain ⟨n', hn'⟩ := List.getElem?_of_mem hm
  have he := wls_at (tc := tc) (ad := ad) (L := L) (X := mm Sc Sm) hn'
  rw [ent_arq hk] at he
  subst hn
  obtain ⟨i1, i2, i3⟩ := ix_some hi
  subst i2
  have hk2 := kk o1 (okS.cons (v := vr k' i') (Or.inl (hW.2.2.1 _ hm _ _ hL')) o2.tl.tl) w1 ad H locs ls w2 hW hS hL
  have hv : va_rf ((L k i x.toNatClampNeg).map fun r => ad r.1 r.2) = .ref (ad k' i') := by rw [hL']; rfl
  rcases hk with h0 | h0
  · rw [h0] at he
    refine va_aldq hx hb hE.1 hW.2.2.2.1 n' 3 he rfl i1 hd ?_
    rw [hv]
    exact hk2
  · rw [h0] at he
    refine va_aldq hx hb hE.1 hW.2.2.2.1 n' 4 he rfl i1 hd ?_
    rw [hv]
    exact hk2
theorem Cl.alen (h : Cl own cc nL fr lo rc rs sc isI J) (hd : decode cc pc = .ok (.arraylength, 1)) (hk : ak k = 0) {n : Nat} (hn : nsl k = n) {v : Int32} (hv : Int32.ofNat n = v) (kk : J (pc + 1) lv (vi v :: st) wl L ce sz Sc Sm) : J pc lv (vr k i :: st) wl L ce sz Sc Sm := by
  obtain ⟨p, l, e, R, s, m, args, below, meth, c, Q, D, tc, sa, A, Ts, wp, ap, ⟨⟨hx, hb, hml, hown, hts⟩, hG, hE, hA, hX⟩, ⟨hRf, hRl, hRc, hRs⟩, hI, rfl⟩ := h
  intro o1 o2 w1 ad H locs ls w2 hW hS hL
  have hm := okv_arr o2.hd (by omega)
  obtain ⟨n', hn'⟩ := List.getElem?_of_mem hm
  have he := wls_at (tc := tc) (ad := ad) (L := L) (X := mm Sc Sm) hn'
  rw [ent_arr (by omega), hk] at he
  subst hn
  exact va_alen hx hb hE.1 hW.2.2.2.1 n' 0 he rfl hv hd (kk o1 o2.tl.i w1 ad H locs ls w2 hW hS hL)
/-! ===== strings and statics ===== -/
theorem Cl.ldcS (h : Cl "PaperAger$Token" cc nL fr lo rc rs sc isI J) {i : Nat} (hi : i < 2) (hd : decode cc pc = .ok (.ldc (sPool i), 2)) (kk : J (pc + 2) lv (vr 90 i :: st) wl L ce sz Sc Sm) : J pc lv st wl L ce sz Sc Sm := by
  obtain ⟨p, l, e, R, s, m, args, below, meth, c, Q, D, tc, sa, A, Ts, wp, ap, ⟨⟨hx, hb, hml, hown, hts⟩, hG, hE, hA, hX⟩, ⟨hRf, hRl, hRc, hRs⟩, hI, rfl⟩ := h
  intro o1 o2 w1 ad H locs ls w2 hW hS hL
  refine va_ldcS hx hb hown (hE.2.2.2.1 i hi) hd ?_
  have h1 := kk o1 (okS.cons (v := vr 90 i) (Or.inr (Nat.le_refl 90)) o2) w1 ad H locs ls w2 hW hS hL
  rw [← hW.1 90 i (Nat.le_refl 90)]
  exact h1
theorem Cl.getSV (h : Cl own cc nL fr lo rc rs sc isI J) {i : Nat} (hi : i < 2) (hd : decode cc pc = .ok (.getfield idx, 3)) (hf : Jvm.Cond.fieldLink own idx "java/lang/String" "value" "[B" ∈ GT) (kk : J (pc + 3) lv (vr 91 i :: st) wl L ce sz Sc Sm) : J pc lv (vr 90 i :: st) wl L ce sz Sc Sm := by
  obtain ⟨p, l, e, R, s, m, args, below, meth, c, Q, D, tc, sa, A, Ts, wp, ap, ⟨⟨hx, hb, hml, hown, hts⟩, hG, hE, hA, hX⟩, ⟨hRf, hRl, hRc, hRs⟩, hI, rfl⟩ := h
  intro o1 o2 w1 ad H locs ls w2 hW hS hL
  have h1 := kk o1 (okS.cons (v := vr 91 i) (Or.inr (show 90 ≤ 91 by decide)) o2.tl) w1 ad H locs ls w2 hW hS hL
  show W _ _ _ _ _ _ _ _ _ _ _ _ _ _ _ (F0 m pc ls (.ref (ad 90 i) :: st.map (cv ad)))
  rw [hW.1 90 i (Nat.le_refl 90)]
  refine vk_getf hx hb (hE.2.2.1.1 i hi).2.2.1 hS hown (hts _ (hG _ hf)) (fun _ h => h) hd ?_
  rw [← hW.1 91 i (by decide)]
  exact h1
theorem Cl.getSC (h : Cl own cc nL fr lo rc rs sc isI J) {i : Nat} (hi : i < 2) (hd : decode cc pc = .ok (.getfield idx, 3)) (hf : Jvm.Cond.fieldLink own idx "java/lang/String" "coder" "B" ∈ GT) (kk : J (pc + 3) lv (vi 0 :: st) wl L ce sz Sc Sm) : J pc lv (vr 90 i :: st) wl L ce sz Sc Sm := by
  obtain ⟨p, l, e, R, s, m, args, below, meth, c, Q, D, tc, sa, A, Ts, wp, ap, ⟨⟨hx, hb, hml, hown, hts⟩, hG, hE, hA, hX⟩, ⟨hRf, hRl, hRc, hRs⟩, hI, rfl⟩ := h
  intro o1 o2 w1 ad H locs ls w2 hW hS hL
  have h1 := kk o1 o2.tl.i w1 ad H locs ls w2 hW hS hL
  show W _ _ _ _ _ _ _ _ _ _ _ _ _ _ _ (F0 m pc ls (.ref (ad 90 i) :: st.map (cv ad)))
  rw [hW.1 90 i (Nat.le_refl 90)]
  exact vk_getf hx hb (hE.2.2.1.1 i hi).2.1 hS hown (hts _ (hG _ hf)) (fun _ h => h) hd h1
theorem Cl.getCS (h : Cl own cc nL fr lo rc rs sc isI J) (hd : decode cc pc = .ok (.getstatic idx, 3)) (hf : Jvm.Cond.fieldLink own idx "java/lang/String" "COMPACT_STRINGS" "Z" ∈ GT) (kk : J (pc + 3) lv (vi 1 :: st) wl L ce sz Sc Sm) : J pc lv st wl L ce sz Sc Sm := by
  obtain ⟨p, l, e, R, s, m, args, below, meth, c, Q, D, tc, sa, A, Ts, wp, ap, ⟨⟨hx, hb, hml, hown, hts⟩, hG, hE, hA, hX⟩, ⟨hRf, hRl, hRc, hRs⟩, hI, rfl⟩ := h
  intro o1 o2 w1 ad H locs ls w2 hW hS hL
  exact va_gets hx hb hE.2.2.2.2.1 hS hown (hts _ (hG _ hf)) (fun _ h => h) hd (kk o1 o2.i w1 ad H locs ls w2 hW hS hL)
theorem Cl.getSF (h : Cl own cc nL fr lo rc rs sc isI J) (hd : decode cc pc = .ok (.getstatic idx, 3)) (hf : Jvm.Cond.fieldLink own idx "jdk/internal/util/Preconditions" "SIOOBE_FORMATTER" "Ljava/util/function/BiFunction;" ∈ GT) (kk : ∀ r : Option (Nat × Nat), J (pc + 3) lv (.inr r :: st) wl L ce sz Sc Sm) : J pc lv st wl L ce sz Sc Sm := by
  obtain ⟨p, l, e, R, s, m, args, below, meth, c, Q, D, tc, sa, A, Ts, wp, ap, ⟨⟨hx, hb, hml, hown, hts⟩, hG, hE, hA, hX⟩, ⟨hRf, hRl, hRc, hRs⟩, hI, rfl⟩ := h
  intro o1 o2 w1 ad H locs ls w2 hW hS hL
  rcases hE.2.2.2.2.2.2.2 with hZ | hZ
  · exact va_gets hx hb hZ hS hown (hts _ (hG _ hf)) (fun _ h => h) hd (kk none o1 o2.n w1 ad H locs ls w2 hW hS hL)
  · refine va_gets hx hb hZ hS hown (hts _ (hG _ hf)) (fun _ h => h) hd ?_
    have h1 := kk (some (98, 0)) o1 (okS.cons (v := vr 98 0) (Or.inr (show 90 ≤ 98 by decide)) o2) w1 ad H locs ls w2 hW hS hL
    rw [← hW.1 98 0 (by decide)]
    exact h1
theorem Cl.sbald (h : Cl own cc nL fr lo rc rs sc isI J) {i : Nat} (hi : i < 2) (hd : decode cc pc = .ok (.baload, 1)) {x : Int32} (hj : ix x (sLen.getD i 0) = some j) (kk : J (pc + 1) lv (vi ((sByt.getD i []).getD j 0) :: st) wl L ce sz Sc Sm) : J pc lv (vi x :: vr 91 i :: st) wl L ce sz Sc Sm := by
  obtain ⟨p, l, e, R, s, m, args, below, meth, c, Q, D, tc, sa, A, Ts, wp, ap, ⟨⟨hx, hb, hml, hown, hts⟩, hG, hE, hA, hX⟩, ⟨hRf, hRl, hRc, hRs⟩, hI, rfl⟩ := h
  intro o1 o2 w1 ad H locs ls w2 hW hS hL
  obtain ⟨i1, i2, i3⟩ := ix_some hj
  subst i2
  have h1 := kk o1 o2.tl.tl.i w1 ad H locs ls w2 hW hS hL
  show W _ _ _ _ _ _ _ _ _ _ _ _ _ _ _ (F0 m pc ls (.int x :: .ref (ad 91 i) :: st.map (cv ad)))
  rw [hW.1 91 i (by decide)]
  exact va_tb hx hb (hE.2.2.1.1 i hi).2.2.2 hS i1 rfl hd h1
theorem Cl.salen (h : Cl own cc nL fr lo rc rs sc isI J) {i : Nat} (hi : i < 2) (hd : decode cc pc = .ok (.arraylength, 1)) {v : Int32} (hv : Int32.ofNat (sLen.getD i 0) = v) (kk : J (pc + 1) lv (vi v :: st) wl L ce sz Sc Sm) : J pc lv (vr 91 i :: st) wl L ce sz Sc Sm := by
  obtain ⟨p, l, e, R, s, m, args, below, meth, c, Q, D, tc, sa, A, Ts, wp, ap, ⟨⟨hx, hb, hml, hown, hts⟩, hG, hE, hA, hX⟩, ⟨hRf, hRl, hRc, hRs⟩, hI, rfl⟩ := h
  intro o1 o2 w1 ad H locs ls w2 hW hS hL
  have h1 := kk o1 o2.tl.i w1 ad H locs ls w2 hW hS hL
  show W _ _ _ _ _ _ _ _ _ _ _ _ _ _ _ (F0 m pc ls (.ref (ad 91 i) :: st.map (cv ad)))
  rw [hW.1 91 i (by decide)]
  exact va_tlen hx hb (hE.2.2.1.1 i hi).2.2.2 hS hv hd h1
/-! ===== the script ===== -/
theorem Cl.scld {n : Nat} {xs : Nat → Int32} (h : Cl own cc nL fr lo rc rs (some (n, xs)) isI J) (hd : decode cc pc = .ok (.iaload, 1)) {x : Int32} (hj : ix x n = some j) (kk : J (pc + 1) lv (vi (xs j) :: st) wl L ce sz Sc Sm) : J pc lv (vi x :: vr 99 0 :: st) wl L ce sz Sc Sm := by
  obtain ⟨p, l, e, R, s, m, args, below, meth, c, Q, D, tc, sa, A, Ts, wp, ap, ⟨⟨hx, hb, hml, hown, hts⟩, hG, hE, hA, hX⟩, ⟨hRf, hRl, hRc, hRs⟩, hI, rfl⟩ := h
  intro o1 o2 w1 ad H locs ls w2 hW hS hL
  obtain ⟨i1, i2, i3⟩ := ix_some hj
  subst i2
  have h1 := kk o1 o2.tl.tl.i w1 ad H locs ls w2 hW hS hL
  show W _ _ _ _ _ _ _ _ _ _ _ _ _ _ _ (F0 m pc ls (.int x :: .ref (ad 99 0) :: st.map (cv ad)))
  rw [hW.1 99 0 (by decide)]
  exact va_sld hx hb hX.1 hX.2.1 hX.2.2 hS i1 hd h1
theorem Cl.sclen {n : Nat} {xs : Nat → Int32} (h : Cl own cc nL fr lo rc rs (some (n, xs)) isI J) (hd : decode cc pc = .ok (.arraylength, 1)) (kk : J (pc + 1) lv (vi (nI n) :: st) wl L ce sz Sc Sm) : J pc lv (vr 99 0 :: st) wl L ce sz Sc Sm := by
  obtain ⟨p, l, e, R, s, m, args, below, meth, c, Q, D, tc, sa, A, Ts, wp, ap, ⟨⟨hx, hb, hml, hown, hts⟩, hG, hE, hA, hX⟩, ⟨hRf, hRl, hRc, hRs⟩, hI, rfl⟩ := h
  intro o1 o2 w1 ad H locs ls w2 hW hS hL
  have h1 := kk o1 o2.tl.i w1 ad H locs ls w2 hW hS hL
  show W _ _ _ _ _ _ _ _ _ _ _ _ _ _ _ (F0 m pc ls (.ref (ad 99 0) :: st.map (cv ad)))
  rw [hW.1 99 0 (by decide)]
  exact va_slen hx hb hX.1 hX.2.1 hX.2.2 hS hd h1
end RH
end
section
/-! ===== contracts ===== -/
theorem Env0.same {D : va_G} {tc : Nat → ClassId} {sa : Ad} {A : Nat → Prop} {s U : State} {H : Heap} (h : Env0 D tc sa A s H) (hv : s.vm = U.vm) : Env0 D tc sa A U H := by
  obtain ⟨h1, h2, h3, h4, h5, h6, h7, h8⟩ := h
  have ha : s.vm.Alike U.vm := by rw [hv]; exact Vm.Alike.refl U.vm
  refine ⟨va_K.moved ha h1, fun w hw => ?_, vk_S.moved ha h3, fun i hi => (h4 i hi).same hv.symm, va_Z.moved ha h5, h6.moved ha, h7.moved ha, h8.imp (va_Z.moved ha) (va_Z.moved ha)⟩
  obtain ⟨a, i, x, b, rfl⟩ := nests_of hw
  exact va_Nw.same rfl hv (h2 _ hw)
def Pcc (D : va_G) (tc : Nat → ClassId) (sa : Ad) (A : Nat → Prop) (ad : Ad) (as : List AV) (wl : Obs) (L : Lay) (X : Mem) : Array Value → State → Prop := fun v U =>
  v = (as.map (cv ad)).toArray ∧ okS wl as ∧ Env0 D tc sa A U U.heap ∧ (∀ q, U.heap.size ≤ q → A q) ∧ Wok D tc sa A ad wl L X U.heap
def Qcc (D : va_G) (tc : Nat → ClassId) (sa : Ad) (A : Nat → Prop) (ad : Ad) (r : Option AV) (wl wl' : Obs) (L' : Lay) (X' : Mem) : Array Value → State → Outcome → State → Prop := fun _ st oc t =>
  (∃ ad' : Ad, (∀ q ∈ wl, ad' q.1 q.2 = ad q.1 q.2) ∧ oc = .returned (r.map (cv ad')) ∧ Wok D tc sa A ad' wl' L' X' t.heap ∧ (∀ q ∈ wl, q ∈ wl') ∧ okS wl' r.toList) ∧ va_F A st t
def Ct (y : MethodName) (cc : ByteArray) (nL : Nat) (rt : Option FieldType) (fr lo mc ms : Nat) (as : List AV) (wl : Obs) (L : Lay) (Sc Sm : Mem) (r : Option AV) (wl' : Obs) (L' : Lay) (Sc' Sm' : Mem) : Prop :=
  ∀ (l : Launch) (D : va_G) (tc : Nat → ClassId) (sa : Ad) (A : Nat → Prop) (ad : Ad), Met l y (.code y cc nL rt :: GT) { frames := fr, cells := mc, slots := ms, locals := lo } (Pcc D tc sa A ad as wl L (mm Sc Sm)) (Qcc D tc sa A ad r wl wl' L' (mm Sc' Sm')) mc ms A
/-- what a return instruction wants -/
def RI (cc : ByteArray) (rt : Option FieldType) (pc : Nat) (st : List AV) (r : Option AV) : Prop :=
  (rt = none ∧ r = none ∧ st = [] ∧ decode cc pc = .ok (.return_, 1)) ∨
  (∃ ty x, rt = some ty ∧ narrow ty (.int x) = .int x ∧ r = some (vi x) ∧ st = [vi x] ∧ decode cc pc = .ok (.ireturn, 1)) ∨
  (∃ ty q, rt = some ty ∧ ((∃ n, ty = .object n) ∨ ∃ t, ty = .array t) ∧ r = some (.inr q) ∧ st = [.inr q] ∧ decode cc pc = .ok (.areturn, 1))
def Rk (cc : ByteArray) (rt : Option FieldType) (r : Option AV) (wl : Obs) (L : Lay) (mc ms : Nat) (Sc Sm : Mem) (J : Nat → Lv → List AV → Obs → Lay → Nat → Nat → Mem → Mem → Prop) : Prop := ∀ (pc : Nat) (lv : Lv) (st : List AV), RI cc rt pc st r → J pc lv st wl L mc ms Sc Sm
section RT
variable {cc : ByteArray} {wl : Obs} {L : Lay} {mc ms : Nat} {Sc Sm : Mem} {J : Nat → Lv → List AV → Obs → Lay → Nat → Nat → Mem → Mem → Prop} {pc : Nat} {lv : Lv}
theorem Rk.v (h : Rk cc none none wl L mc ms Sc Sm J) (hd : decode cc pc = .ok (.return_, 1)) : J pc lv [] wl L mc ms Sc Sm := h pc lv [] (Or.inl ⟨rfl, rfl, rfl, hd⟩)
theorem Rk.i {x : Int32} (h : Rk cc (some .int) (some (vi x)) wl L mc ms Sc Sm J) (hd : decode cc pc = .ok (.ireturn, 1)) : J pc lv [vi x] wl L mc ms Sc Sm := h pc lv _ (Or.inr (Or.inl ⟨_, x, rfl, rfl, rfl, rfl, hd⟩))
theorem Rk.n {x : Int32} {ty : FieldType} (h : Rk cc (some ty) (some (vi x)) wl L mc ms Sc Sm J) (hn : narrow ty (.int x) = .int x) (hd : decode cc pc = .ok (.ireturn, 1)) : J pc lv [vi x] wl L mc ms Sc Sm := h pc lv _ (Or.inr (Or.inl ⟨_, x, rfl, hn, rfl, rfl, hd⟩))
theorem Rk.a {q : Option (Nat × Nat)} {n : String} (h : Rk cc (some (.object n)) (some (.inr q)) wl L mc ms Sc Sm J) (hd : decode cc pc = .ok (.areturn, 1)) : J pc lv [.inr q] wl L mc ms Sc Sm := h pc lv _ (Or.inr (Or.inr ⟨_, q, rfl, Or.inl ⟨n, rfl⟩, rfl, rfl, hd⟩))
end RT
def lv0 (as : List AV) (nL : Nat) : Lv := as.map some ++ List.replicate (nL - as.length) none
theorem gl_none (n k : Nat) : gl (List.replicate n none) k = none := by
  induction n generalizing k with
  | zero => rfl
  | succ n ih =>
    cases k with
    | zero => rfl
    | succ k => exact ih k
theorem lv0_in {ad : Ad} {as : List AV} {n k m : Nat} {v : AV} (h : gl (as.map some ++ List.replicate n none) k = some v) : v ∈ as ∧ (m + k, cv ad v) ∈ lv_args m (as.map (cv ad)) := by
  induction as generalizing k m with
  | nil => rw [show (([] : List AV).map some ++ List.replicate n none : Lv) = List.replicate n none from rfl, gl_none] at h; cases h
  | cons a l ih =>
    cases k with
    | zero =>
      cases (Option.some.inj h)
      exact ⟨List.mem_cons_self, List.mem_cons_self⟩
    | succ k =>
      obtain ⟨h1, h2⟩ := ih (m := m + 1) (show gl (l.map some ++ List.replicate n none) k = some v from h)
      refine ⟨List.mem_cons_of_mem _ h1, ?_⟩
      show _ ∈ (m, cv ad a) :: lv_args (if (cv ad a).category = 2 then m + 2 else m + 1) (l.map (cv ad))
      rw [if_neg (by rw [cv_cat]; decide)]
      rw [show m + 1 + k = m + (k + 1) by omega] at h2
      exact List.mem_cons_of_mem _ h2
theorem lg_len (ad : Ad) (as : List AV) : (lg_sl (as.map (cv ad))).length = as.length := by
  induction as with
  | nil => rfl
  | cons a l ih =>
    have e : lg_sl ((a :: l).map (cv ad)) = .val (cv ad a) :: lg_sl (l.map (cv ad)) := by
      unfold lg_sl
      rw [List.map_cons, List.flatMap_cons, if_neg (by rw [cv_cat]; decide)]
      rfl
    rw [e, List.length_cons, List.length_cons, ih]
theorem Ct.of {y : MethodName} {cc : ByteArray} {nL : Nat} {rt : Option FieldType} {fr lo mc ms : Nat} {as : List AV} {wl : Obs} {L : Lay} {Sc Sm : Mem} {r : Option AV} {wl' : Obs} {L' : Lay} {Sc' Sm' : Mem} (own : String) (isI : Bool) (hy : plainName y.cls = true) (ho : y.cls = own) (hn : isI = true → y.name = "<init>") (hlen : as.length ≤ nL)
    (body : ∀ J, Cl own cc nL fr lo mc ms none isI J → Rk cc rt r wl' L' mc ms Sc' Sm' J → J 0 (lv0 as nL) [] wl L 0 0 Sc Sm) : Ct y cc nL rt fr lo mc ms as wl L Sc Sm r wl' L' Sc' Sm' := by
  intro l D tc sa A ad
  refine Met.ofW (cc := cc) (maxL := nL) (ret := rt) hy rfl ?_
  intro p e s m args below meth c s₁ B hml hv
  obtain ⟨rfl, ho1, hE, hA, hW⟩ := hv
  have hx := B.exec
  have hb := B.bytes
  have hr := B.returns
  have hts := atoms_spec (ws := .code y cc nL rt :: GT) B.pre
  have hown : s.vm.findClass own = some m.cls := by rw [← ho]; exact findClass_of_methodNamed B.named
  have hlocks := B.notSynchronized
  have K := body (Jw p l e _ s m _ below meth c (MQ below (Qcc D tc sa A ad r wl wl' L' (mm Sc' Sm')) (as.map (cv ad)).toArray s mc ms A) D tc sa A nL wl ad)
    ⟨p, l, e, (headSpec (.code y cc nL rt :: GT) { frames := fr, cells := mc, slots := ms, locals := lo }).room, s, m, (as.map (cv ad)).toArray, below, meth, c, _, D, tc, sa, A, .code y cc nL rt :: GT, wl, ad, ⟨⟨hx, hb, hml, hown, hts⟩, fun w h => List.mem_cons_of_mem _ h, hE, hA, trivial⟩, ⟨rfl, rfl, rfl, rfl⟩, fun q => ((name_of_methodNamed B.named B.method).1).trans (hn q), rfl⟩
    (by
      intro pc lv st hRI o1 o2 w1 ad' H locs ls w2 hW' hS hL
      have hQ : ∀ (v : Option AV), v = r → okS wl' v.toList → ∀ t : State, t.heap = H → s.WarmedH t.vm → Qcc D tc sa A ad r wl wl' L' (mm Sc' Sm') (as.map (cv ad)).toArray s (.returned (v.map (cv ad'))) t := by
        intro v hv hov t ht _
        subst hv
        exact ⟨⟨ad', w2, rfl, by rw [ht]; exact hW', w1, hov⟩, hS.F ht⟩
      rcases hRI with ⟨h1, h2, rfl, hd⟩ | ⟨ty, x, h1, hnar, h2, rfl, hd⟩ | ⟨ty, q, h1, hty, h2, rfl, hd⟩
      · exact W.vret hx hb (by rw [hr, h1]) (hQ none h2.symm (fun _ h => by cases h)) hS.2.2 hd
      · exact W.zret hx hb (by rw [hr, h1]) hnar (hQ (some (vi x)) h2.symm o2) hS.2.2 hd
      · refine W.aret hx hb (by rw [hr, h1]) hty ?_ (hQ (some (.inr q)) h2.symm o2) hS.2.2 hd
        cases q with
        | none => exact Or.inl rfl
        | some q => exact Or.inr ⟨_, rfl⟩)
  rw [lg_entry_eq]
  refine K ?_ (fun _ h => by cases h) (fun _ h => h) ad s.heap [] _ (fun _ _ => rfl) hW va_S.rf ?_
  · intro k v hk
    exact ho1 v (lv0_in (ad := ad) (m := 0) hk).1
  · have h1 := lv_entry (as.map (cv ad)) (n := nL) (by rw [lg_len]; exact hlen)
    refine LH.of h1.1 h1.2.1 (fun k v hk => ?_)
    have h2 := h1.2.2 _ (lv0_in (ad := ad) (m := 0) hk).2
    rw [Nat.zero_add] at h2
    exact h2
/-! ===== calls ===== -/
def LkB (own : String) (idx : Nat) (y : MethodName) (bytes : ByteArray) (maxL : Nat) (rt : Option FieldType) (n : Nat) : Prop := Jvm.Cond.methodLink own idx y ∈ GT ∧ Jvm.Cond.code y bytes maxL rt ∈ GT ∧ Jvm.Cond.initialized y.cls ∈ GT ∧ (y.cls ≠ "java/lang/invoke/MethodHandle" ∧ y.cls ≠ "java/lang/invoke/VarHandle" ∧ (parseMethodDescriptor y.desc).map (fun d => d.parameters.length) = some n)
def LkN (own : String) (idx : Nat) (y : MethodName) (bytes : ByteArray) (maxL : Nat) (rt : Option FieldType) (n : Nat) : Prop := (∃ host, Jvm.Cond.methodLinkNest own idx y host ∈ nests) ∧ Jvm.Cond.code y bytes maxL rt ∈ GT ∧ Jvm.Cond.initialized y.cls ∈ GT ∧ (y.cls ≠ "java/lang/invoke/MethodHandle" ∧ y.cls ≠ "java/lang/invoke/VarHandle" ∧ (parseMethodDescriptor y.desc).map (fun d => d.parameters.length) = some n)
theorem goodIn_code {w : Jvm.Cond} {Ts : List Jvm.Cond} (h : w ∈ GT) (hG : ∀ w ∈ GT, w ∈ Ts) : GoodIn Ts (w :: GT) := by
  intro v hv
  rcases List.mem_cons.mp hv with rfl | hv
  · exact ⟨hG _ h, GT_good h⟩
  · exact ⟨hG _ hv, GT_good hv⟩
theorem Pcc.blind {D : va_G} {tc : Nat → ClassId} {sa : Ad} {A : Nat → Prop} {ad : Ad} {as : List AV} {wl : Obs} {L : Lay} {X : Mem} : FrameBlind (Pcc D tc sa A ad as wl L X) := fun _ U g mk q => ⟨q.1, q.2.1, q.2.2.1.same (U := U.calling g mk _) rfl, q.2.2.2⟩
theorem Pcc.at {D : va_G} {tc : Nat → ClassId} {sa : Ad} {A : Nat → Prop} {ad : Ad} {as : List AV} {wl : Obs} {L : Lay} {X : Mem} {s : State} {H : Heap} {locs : List Loc} (ho : okS wl as) (hE : Env0 D tc sa A s s.heap) (hA : ∀ q, s.heap.size ≤ q → A q) (hW : Wok D tc sa A ad wl L X H) (hS : va_S A s.heap H locs) : ∀ U : State, U.heap = H → s.WarmedH U.vm → Pcc D tc sa A ad as wl L X (as.map (cv ad)).toArray U := by
  intro U hU hw
  subst hU
  exact ⟨rfl, ho, hE.moved hw hS.2.1, fun q h => hA q (Nat.le_trans hS.1 h), hW⟩
theorem run_J {p : Program} {l : Launch} {e : Env} {R : Room} {s : State} {m : MethodId} {args : Array Value} {below : List Frame} {meth : Method} {c : Code} {Q : State → Prop} {D : va_G} {tc : Nat → ClassId} {sa : Ad} {A : Nat → Prop} {nL : Nat} {wp : Obs} {ap : Ad} {pc : Nat} {lv : Lv} {rest : List AV} {wl : Obs} {ce sz mc ms : Nat} {ad : Ad} {H : Heap} {locs : List Loc} {ls : Array Slot} {st0 : List Value} {r : Option AV} {wl' : Obs} {L' : Lay} {Sc' Sm' : Mem} {a : Array Value}
    (hr : va_Run p l e R s m args below meth c H locs ce sz mc ms (F0 m pc ls st0) (rest.map (cv ad)) (Qcc D tc sa A ad r wl wl' L' (mm Sc' Sm') a) A) (hS : va_S A s.heap H locs) (ho1 : okL wl lv) (ho2 : okS wl rest) (w1 : ∀ q ∈ wp, q ∈ wl) (w2 : ∀ q ∈ wp, ad q.1 q.2 = ap q.1 q.2) (hsa : ∀ k i, 90 ≤ k → ad k i = sa k i) (hL : LH ad ls nL lv)
    (kk : Jw p l e R s m args below meth c Q D tc sa A nL wp ap (pc + 3) lv (r.toList ++ rest) wl' L' (ce + mc) (sz + ms) Sc' Sm') : W p l e R s m args below meth c H locs ce sz Q (F0 m pc ls st0) := by
  intro T hT X
  obtain ⟨v, st₀, t, T', Lc, h0, X', hLc, e1, e2, ⟨⟨ad', g1, g2, g3, g4, g5⟩, hz, hk⟩, stp⟩ := hr T hT X
  have hv : v = r.map (cv ad') := Outcome.returned.inj g2
  subst hv
  rw [h0] at hz hk
  have hc : ∀ v, okv wl v → cv ad' v = cv ad v := cv_agree g1 hsa g3.1
  have hS' : va_S A s.heap T'.heap (locs ++ Lc) := ⟨Nat.le_trans hS.1 (by rw [e1]; exact hz), fun q h1 h2 => by rw [e1, hk q (Nat.lt_of_lt_of_le h1 hS.1) h2]; exact hS.2.1 q h1 h2, fun q hq => by
      rcases List.mem_append.mp hq with h | h
      · exact hS.2.2 q h
      · exact hLc q h⟩
  obtain ⟨t2, a1, b1⟩ := kk (fun k v hk => (ho1 k v hk).mono g4) (by
      intro v hv
      rcases List.mem_append.mp hv with hv | hv
      · exact g5 v hv
      · exact (ho2 v hv).mono g4) (fun q hq => g4 q (w1 q hq)) ad' T'.heap (locs ++ Lc) ls (fun q hq => (g1 q (w1 q hq)).trans (w2 q hq)) (by rw [e1]; exact g3) hS' (hL.ad hc ho1) T' rfl X'
  refine ⟨t2, stp t2 ?_, b1⟩
  have e3 : (r.toList ++ rest).map (cv ad') = (r.map (cv ad')).toList ++ rest.map (cv ad) := by
    rw [List.map_append, map_agree hc ho2]
    cases r <;> rfl
  rw [e3] at a1
  exact a1
section RC
variable {own : String} {cc : ByteArray} {nL fr lo rc rs : Nat} {sc : Option (Nat × (Nat → Int32))} {isI : Bool} {J : Nat → Lv → List AV → Obs → Lay → Nat → Nat → Mem → Mem → Prop}
variable {pc : Nat} {lv : Lv} {rest : List AV} {wl : Obs} {L : Lay} {ce sz : Nat} {Sc Sm : Mem} {idx k i : Nat} {y : MethodName} {bytes : ByteArray} {maxL n fr1 lo1 mc ms : Nat} {rt : Option FieldType} {as : List AV} {r : Option AV} {wl' : Obs} {L' : Lay} {Sc' Sm' : Mem}
/-- the room that a callee wants -/
def Rm (fr lo rc rs fr1 lo1 maxL mc ms ce sz nrest : Nat) : Prop := fr1 + 1 ≤ fr ∧ 8 + (maxL + 11) + lo1 ≤ lo ∧ ce + mc ≤ rc ∧ sz + ms ≤ rs ∧ nrest ≤ 8
theorem okS_split {wl : Obs} {as rest : List AV} (h : okS wl (as.reverse ++ rest)) : okS wl as ∧ okS wl rest := ⟨fun v hv => h v (List.mem_append_left _ (List.mem_reverse.mpr hv)), fun v hv => h v (List.mem_append_right _ hv)⟩
theorem Cl.callV0 (h : Cl own cc nL fr lo rc rs sc isI J) {C : String} (hd : decode cc pc = .ok (.invokevirtual idx, 3)) (hl : LkB own idx y bytes maxL rt n) (hi : Jvm.Cond.instanceMethod y ∈ GT) (hs : Jvm.Cond.selects C y y ∈ GT) (hrecv : ∀ {s : State} {D : va_G} {tc : Nat → ClassId} {sa : Ad} {A : Nat → Prop} {ad : Ad} {H : Heap} {locs : List Loc}, Env0 D tc sa A s s.heap → Wok D tc sa A ad wl L (mm Sc Sm) H → va_S A s.heap H locs → okv wl (vr k i) → ∃ cell : Cell, H[ad k i]? = some cell ∧ cell.vm.isStatics = false ∧ s.vm.findClass C = some cell.cls) (hc : Ct y bytes maxL rt fr1 lo1 mc ms (vr k i :: as) wl L Sc Sm r wl' L' Sc' Sm') (hn : as.length = n) (hrm : Rm fr lo rc rs fr1 lo1 maxL mc ms ce sz rest.length) (kk : J (pc + 3) lv (r.toList ++ rest) wl' L' (ce + mc) (sz + ms) Sc' Sm') : J pc lv (as.reverse ++ vr k i :: rest) wl L ce sz Sc Sm := by
  obtain ⟨p, l, e, R, s, m, args, below, meth, c, Q, D, tc, sa, A, Ts, wp, ap, ⟨⟨hx, hb, hml, hown, hts⟩, hG, hE, hA, hX⟩, ⟨hRf, hRl, hRc, hRs⟩, hI, rfl⟩ := h
  intro o1 o2 w1 ad H locs ls w2 hW hS hL
  obtain ⟨m1, m2, m3, m4, m5⟩ := hrm
  obtain ⟨oa, ob⟩ := okS_split o2
  have hcw : CallW R s args own C idx y bytes maxL rt (.code y bytes maxL rt :: GT) { frames := fr1, cells := mc, slots := ms, locals := lo1 } mc ms n := ⟨callB_of n hts (goodIn_code hl.2.1 hG) rfl rfl rfl (hts _ (hG _ hl.2.2.1)) (hts _ (hG _ hl.1)) hl.2.2.2 ⟨by rw [hRf]; exact m1, by rw [hRl]; exact m2⟩, hts _ (hG _ hi), hts _ (hG _ hs)⟩
  have hrun := va_runV (H := H) (locs := locs) (cells := ce) (slots := sz) (below := below) (meth := meth) (e := e) (g := F0 m pc ls ((as.reverse ++ vr k i :: rest).map (cv ad))) (b := ad k i) (As := as.map (cv ad)) (rest := rest.map (cv ad)) ⟨hx, hb, hml, hown, hts⟩ (hc l D tc sa A ad) hcw
    ⟨Pcc.blind, hrecv hE hW hS ob.hd, Pcc.at (okS.cons ob.hd oa) hE hA hW hS⟩ rfl (by rw [List.length_map]; exact hn) hL.1 (by rw [List.map_append, List.map_reverse]; rfl) (lv_room (by rw [cat_sum]; exact m5)) hd ⟨by rw [hRc]; exact m3, by rw [hRs]; exact m4⟩
  exact run_J hrun hS o1 ob.tl w1 w2 hW.1 hL kk
theorem Cl.callV (h : Cl own cc nL fr lo rc rs sc isI J) {C : String} {T : u_T} {N : Nat} (hd : decode cc pc = .ok (.invokevirtual idx, 3)) (hl : LkB own idx y bytes maxL rt n) (hi : Jvm.Cond.instanceMethod y ∈ GT) (hs : Jvm.Cond.selects C y y ∈ GT) (hC : vwCl[k]? = some (C, T, N)) (hk : k < nObj) (hc : Ct y bytes maxL rt fr1 lo1 mc ms (vr k i :: as) wl L Sc Sm r wl' L' Sc' Sm') (hn : as.length = n) (hrm : Rm fr lo rc rs fr1 lo1 maxL mc ms ce sz rest.length) (kk : J (pc + 3) lv (r.toList ++ rest) wl' L' (ce + mc) (sz + ms) Sc' Sm') : J pc lv (as.reverse ++ vr k i :: rest) wl L ce sz Sc Sm := by
  refine h.callV0 hd hl hi hs ?_ hc hn hrm kk
  intro s D tc sa A ad H locs hE hW hS hok
  obtain ⟨n', hn'⟩ := List.getElem?_of_mem (okv_obj hok hk)
  have he := wls_at (tc := tc) (ad := ad) (L := L) (X := mm Sc Sm) hn'
  rw [ent_obj hk] at he
  exact va_recv hE.1 hW.2.2.2.1 hC he
theorem Cl.callVS (h : Cl own cc nL fr lo rc rs sc isI J) (hi2 : i < 2) (hd : decode cc pc = .ok (.invokevirtual idx, 3)) (hl : LkB own idx y bytes maxL rt n) (hi : Jvm.Cond.instanceMethod y ∈ GT) (hs : Jvm.Cond.selects "java/lang/String" y y ∈ GT) (hc : Ct y bytes maxL rt fr1 lo1 mc ms (vr 90 i :: as) wl L Sc Sm r wl' L' Sc' Sm') (hn : as.length = n) (hrm : Rm fr lo rc rs fr1 lo1 maxL mc ms ce sz rest.length) (kk : J (pc + 3) lv (r.toList ++ rest) wl' L' (ce + mc) (sz + ms) Sc' Sm') : J pc lv (as.reverse ++ vr 90 i :: rest) wl L ce sz Sc Sm := by
  refine h.callV0 hd hl hi hs ?_ hc hn hrm kk
  intro s D tc sa A ad H locs hE hW hS _
  rw [hW.1 90 i (Nat.le_refl 90)]
  exact vk_recv hE.2.2.1 hi2 hS
theorem Cl.callS (h : Cl own cc nL fr lo rc rs sc isI J) (hd : decode cc pc = .ok (.invokestatic idx, 3)) (hl : LkB own idx y bytes maxL rt n) (hi : Jvm.Cond.static y ∈ GT) (hc : Ct y bytes maxL rt fr1 lo1 mc ms as wl L Sc Sm r wl' L' Sc' Sm') (hn : as.length = n) (hrm : Rm fr lo rc rs fr1 lo1 maxL mc ms ce sz rest.length) (kk : J (pc + 3) lv (r.toList ++ rest) wl' L' (ce + mc) (sz + ms) Sc' Sm') : J pc lv (as.reverse ++ rest) wl L ce sz Sc Sm := by
  obtain ⟨p, l, e, R, s, m, args, below, meth, c, Q, D, tc, sa, A, Ts, wp, ap, ⟨⟨hx, hb, hml, hown, hts⟩, hG, hE, hA, hX⟩, ⟨hRf, hRl, hRc, hRs⟩, hI, rfl⟩ := h
  intro o1 o2 w1 ad H locs ls w2 hW hS hL
  obtain ⟨m1, m2, m3, m4, m5⟩ := hrm
  obtain ⟨oa, ob⟩ := okS_split o2
  have hcw : CallB R s args own idx y bytes maxL rt (.code y bytes maxL rt :: GT) { frames := fr1, cells := mc, slots := ms, locals := lo1 } mc ms n ∧ (Jvm.Cond.static y).before args s = true := ⟨callB_of n hts (goodIn_code hl.2.1 hG) rfl rfl rfl (hts _ (hG _ hl.2.2.1)) (hts _ (hG _ hl.1)) hl.2.2.2 ⟨by rw [hRf]; exact m1, by rw [hRl]; exact m2⟩, hts _ (hG _ hi)⟩
  have hrun := va_runS (H := H) (locs := locs) (cells := ce) (slots := sz) (below := below) (meth := meth) (e := e) (g := F0 m pc ls ((as.reverse ++ rest).map (cv ad))) (As := as.map (cv ad)) (rest := rest.map (cv ad)) ⟨hx, hb, hml, hown, hts⟩ (hc l D tc sa A ad) hcw
    ⟨Pcc.blind, Pcc.at oa hE hA hW hS⟩ rfl (by rw [List.length_map]; exact hn) hL.1 (by rw [List.map_append, List.map_reverse]) (lv_room (by rw [cat_sum]; exact m5)) hd ⟨by rw [hRc]; exact m3, by rw [hRs]; exact m4⟩
  exact run_J hrun hS o1 ob w1 w2 hW.1 hL kk
theorem Cl.cn {R : Room} {s : State} {args : Array Value} {own : String} {Ts : List Jvm.Cond} {host : String} (hts : ∀ w ∈ Ts, w.before args s = true) (hG : ∀ w ∈ GT, w ∈ Ts) (hN : ∀ w ∈ nests, va_Nw w s) (hh : Jvm.Cond.methodLinkNest own idx y host ∈ nests) (hcode : Jvm.Cond.code y bytes maxL rt ∈ GT) (hini : Jvm.Cond.initialized y.cls ∈ GT) (hd : y.cls ≠ "java/lang/invoke/MethodHandle" ∧ y.cls ≠ "java/lang/invoke/VarHandle" ∧ (parseMethodDescriptor y.desc).map (fun d => d.parameters.length) = some n) (hR : fr1 + 1 ≤ R.frames ∧ 8 + (maxL + 11) + lo1 ≤ R.locals) : va_CN R s args own idx y host bytes maxL rt (.code y bytes maxL rt :: GT) { frames := fr1, cells := mc, slots := ms, locals := lo1 } mc ms n :=
  va_cnB n hts (goodIn_code hcode hG) rfl rfl rfl (hN _ hh) (hts _ (hG _ hini)) hd hR
theorem Cl.callSN (h : Cl own cc nL fr lo rc rs sc isI J) (hd : decode cc pc = .ok (.invokestatic idx, 3)) (hl : LkN own idx y bytes maxL rt n) (hi : Jvm.Cond.static y ∈ GT) (hc : Ct y bytes maxL rt fr1 lo1 mc ms as wl L Sc Sm r wl' L' Sc' Sm') (hn : as.length = n) (hrm : Rm fr lo rc rs fr1 lo1 maxL mc ms ce sz rest.length) (kk : J (pc + 3) lv (r.toList ++ rest) wl' L' (ce + mc) (sz + ms) Sc' Sm') : J pc lv (as.reverse ++ rest) wl L ce sz Sc Sm := by
  obtain ⟨p, l, e, R, s, m, args, below, meth, c, Q, D, tc, sa, A, Ts, wp, ap, ⟨⟨hx, hb, hml, hown, hts⟩, hG, hE, hA, hX⟩, ⟨hRf, hRl, hRc, hRs⟩, hI, rfl⟩ := h
  intro o1 o2 w1 ad H locs ls w2 hW hS hL
  obtain ⟨m1, m2, m3, m4, m5⟩ := hrm
  obtain ⟨oa, ob⟩ := okS_split o2
  obtain ⟨host, hh⟩ := hl.1
  have hrun := va_runSN (H := H) (locs := locs) (cells := ce) (slots := sz) (below := below) (meth := meth) (e := e) (g := F0 m pc ls ((as.reverse ++ rest).map (cv ad))) (As := as.map (cv ad)) (rest := rest.map (cv ad)) ⟨hx, hb, hml, hown, hts⟩ (hc l D tc sa A ad) ⟨Cl.cn hts hG hE.2.1 hh hl.2.1 hl.2.2.1 hl.2.2.2 ⟨by rw [hRf]; exact m1, by rw [hRl]; exact m2⟩, hts _ (hG _ hi), trivial⟩
    ⟨Pcc.blind, Pcc.at oa hE hA hW hS⟩ rfl (by rw [List.length_map]; exact hn) hL.1 (by rw [List.map_append, List.map_reverse]) (lv_room (by rw [cat_sum]; exact m5)) hd ⟨by rw [hRc]; exact m3, by rw [hRs]; exact m4⟩
  exact run_J hrun hS o1 ob w1 w2 hW.1 hL kk
theorem Cl.callI (h : Cl own cc nL fr lo rc rs sc isI J) (hd : decode cc pc = .ok (.invokespecial idx, 3)) (hl : LkB own idx y bytes maxL none n) (hy : y.name = "<init>") (hi : Jvm.Cond.instanceMethod y ∈ GT) (hc : Ct y bytes maxL none fr1 lo1 mc ms (vr k i :: as) wl L Sc Sm r wl' L' Sc' Sm') (hn : as.length = n) (hrm : Rm fr lo rc rs fr1 lo1 maxL mc ms ce sz rest.length) (kk : J (pc + 3) lv (r.toList ++ rest) wl' L' (ce + mc) (sz + ms) Sc' Sm') : J pc lv (as.reverse ++ vr k i :: rest) wl L ce sz Sc Sm := by
  obtain ⟨p, l, e, R, s, m, args, below, meth, c, Q, D, tc, sa, A, Ts, wp, ap, ⟨⟨hx, hb, hml, hown, hts⟩, hG, hE, hA, hX⟩, ⟨hRf, hRl, hRc, hRs⟩, hI, rfl⟩ := h
  intro o1 o2 w1 ad H locs ls w2 hW hS hL
  obtain ⟨m1, m2, m3, m4, m5⟩ := hrm
  obtain ⟨oa, ob⟩ := okS_split o2
  have hcw : CallB R s args own idx y bytes maxL none (.code y bytes maxL none :: GT) { frames := fr1, cells := mc, slots := ms, locals := lo1 } mc ms n ∧ y.name = "<init>" ∧ (Jvm.Cond.instanceMethod y).before args s = true := ⟨callB_of n hts (goodIn_code hl.2.1 hG) rfl rfl rfl (hts _ (hG _ hl.2.2.1)) (hts _ (hG _ hl.1)) hl.2.2.2 ⟨by rw [hRf]; exact m1, by rw [hRl]; exact m2⟩, hy, hts _ (hG _ hi)⟩
  have hrun := va_runI (H := H) (locs := locs) (cells := ce) (slots := sz) (below := below) (meth := meth) (e := e) (g := F0 m pc ls ((as.reverse ++ vr k i :: rest).map (cv ad))) (b := ad k i) (As := as.map (cv ad)) (rest := rest.map (cv ad)) ⟨hx, hb, hml, hown, hts⟩ (hc l D tc sa A ad) hcw
    ⟨Pcc.blind, Pcc.at (okS.cons ob.hd oa) hE hA hW hS⟩ rfl (by rw [List.length_map]; exact hn) hL.1 (by rw [List.map_append, List.map_reverse]; rfl) (lv_room (by rw [cat_sum]; exact m5)) hd ⟨by rw [hRc]; exact m3, by rw [hRs]; exact m4⟩
  exact run_J hrun hS o1 ob.tl w1 w2 hW.1 hL kk
theorem Cl.callIN (h : Cl own cc nL fr lo rc rs sc isI J) (hd : decode cc pc = .ok (.invokespecial idx, 3)) (hl : LkN own idx y bytes maxL none n) (hy : y.name = "<init>") (hi : Jvm.Cond.instanceMethod y ∈ GT) (hc : Ct y bytes maxL none fr1 lo1 mc ms (vr k i :: as) wl L Sc Sm r wl' L' Sc' Sm') (hn : as.length = n) (hrm : Rm fr lo rc rs fr1 lo1 maxL mc ms ce sz rest.length) (kk : J (pc + 3) lv (r.toList ++ rest) wl' L' (ce + mc) (sz + ms) Sc' Sm') : J pc lv (as.reverse ++ vr k i :: rest) wl L ce sz Sc Sm := by
  obtain ⟨p, l, e, R, s, m, args, below, meth, c, Q, D, tc, sa, A, Ts, wp, ap, ⟨⟨hx, hb, hml, hown, hts⟩, hG, hE, hA, hX⟩, ⟨hRf, hRl, hRc, hRs⟩, hI, rfl⟩ := h
  intro o1 o2 w1 ad H locs ls w2 hW hS hL
  obtain ⟨m1, m2, m3, m4, m5⟩ := hrm
  obtain ⟨oa, ob⟩ := okS_split o2
  obtain ⟨host, hh⟩ := hl.1
  have hrun := va_runIN (H := H) (locs := locs) (cells := ce) (slots := sz) (below := below) (meth := meth) (e := e) (g := F0 m pc ls ((as.reverse ++ vr k i :: rest).map (cv ad))) (b := ad k i) (As := as.map (cv ad)) (rest := rest.map (cv ad)) ⟨hx, hb, hml, hown, hts⟩ (hc l D tc sa A ad) ⟨Cl.cn hts hG hE.2.1 hh hl.2.1 hl.2.2.1 hl.2.2.2 ⟨by rw [hRf]; exact m1, by rw [hRl]; exact m2⟩, hy, hts _ (hG _ hi)⟩
    ⟨Pcc.blind, Pcc.at (okS.cons ob.hd oa) hE hA hW hS⟩ rfl (by rw [List.length_map]; exact hn) hL.1 (by rw [List.map_append, List.map_reverse]; rfl) (lv_room (by rw [cat_sum]; exact m5)) hd ⟨by rw [hRc]; exact m3, by rw [hRs]; exact m4⟩
  exact run_J hrun hS o1 ob.tl w1 w2 hW.1 hL kk
end RC
end
section
/-! ===== Math, arraycopy ===== -/
section RM
variable {own : String} {cc : ByteArray} {nL fr lo rc rs : Nat} {sc : Option (Nat × (Nat → Int32))} {isI : Bool} {J : Nat → Lv → List AV → Obs → Lay → Nat → Nat → Mem → Mem → Prop}
variable {pc : Nat} {lv : Lv} {st : List AV} {wl : Obs} {L : Lay} {ce sz : Nat} {Sc Sm : Mem} {idx k i j : Nat}
def MW (own : String) (idx : Nat) (y : MethodName) (bytes : ByteArray) (n : Nat) : Prop := Jvm.Cond.methodLink own idx y ∈ GT ∧ Jvm.Cond.static y ∈ GT ∧ Jvm.Cond.initialized "java/lang/Math" ∈ GT ∧ Jvm.Cond.code y bytes n (some .int) ∈ GT
theorem Cl.mmax (h : Cl own cc nL fr lo rc rs sc isI J) {x y : Int32} (hd : decode cc pc = .ok (.invokestatic idx, 3)) (hw : MW own idx Lib.Math.max.name Lib.Math.max.code 2) (hr : 1 ≤ fr ∧ st.length + 13 ≤ lo ∧ ce ≤ rc ∧ sz ≤ rs) (kk : J (pc + 3) lv (vi (if x < y then y else x) :: st) wl L ce sz Sc Sm) : J pc lv (vi y :: vi x :: st) wl L ce sz Sc Sm := by
  obtain ⟨p, l, e, R, s, m, args, below, meth, c, Q, D, tc, sa, A, Ts, wp, ap, ⟨⟨hx, hb, hml, hown, hts⟩, hG, hE, hA, hX⟩, ⟨hRf, hRl, hRc, hRs⟩, hI, rfl⟩ := h
  intro o1 o2 w1 ad H locs ls w2 hW hS hL
  obtain ⟨m1, m2, m3, m4⟩ := hr
  exact va_mmax hx hb (hml.trans hL.1.symm) hown (hts _ (hG _ hw.1)) (hts _ (hG _ hw.2.1)) (hts _ (hG _ hw.2.2.1)) (hts _ (hG _ hw.2.2.2)) (by rw [hRf]; exact m1) (by rw [cat_sum, hRl]; exact m2) (by rw [hRc]; exact m3) (by rw [hRs]; exact m4) hd (kk o1 o2.tl.tl.i w1 ad H locs ls w2 hW hS hL)
theorem Cl.mmin (h : Cl own cc nL fr lo rc rs sc isI J) {x y : Int32} (hd : decode cc pc = .ok (.invokestatic idx, 3)) (hw : MW own idx Lib.Math.min.name Lib.Math.min.code 2) (hr : 1 ≤ fr ∧ st.length + 13 ≤ lo ∧ ce ≤ rc ∧ sz ≤ rs) (kk : J (pc + 3) lv (vi (if y < x then y else x) :: st) wl L ce sz Sc Sm) : J pc lv (vi y :: vi x :: st) wl L ce sz Sc Sm := by
  obtain ⟨p, l, e, R, s, m, args, below, meth, c, Q, D, tc, sa, A, Ts, wp, ap, ⟨⟨hx, hb, hml, hown, hts⟩, hG, hE, hA, hX⟩, ⟨hRf, hRl, hRc, hRs⟩, hI, rfl⟩ := h
  intro o1 o2 w1 ad H locs ls w2 hW hS hL
  obtain ⟨m1, m2, m3, m4⟩ := hr
  exact va_mmin hx hb (hml.trans hL.1.symm) hown (hts _ (hG _ hw.1)) (hts _ (hG _ hw.2.1)) (hts _ (hG _ hw.2.2.1)) (hts _ (hG _ hw.2.2.2)) (by rw [hRf]; exact m1) (by rw [cat_sum, hRl]; exact m2) (by rw [hRc]; exact m3) (by rw [hRs]; exact m4) hd (kk o1 o2.tl.tl.i w1 ad H locs ls w2 hW hS hL)
theorem Cl.mabs (h : Cl own cc nL fr lo rc rs sc isI J) {x : Int32} (hd : decode cc pc = .ok (.invokestatic idx, 3)) (hw : MW own idx Lib.Math.abs.name Lib.Math.abs.code 1) (hr : 1 ≤ fr ∧ st.length + 13 ≤ lo ∧ ce ≤ rc ∧ sz ≤ rs) (kk : J (pc + 3) lv (vi (if 0 ≤ x then x else 0 - x) :: st) wl L ce sz Sc Sm) : J pc lv (vi x :: st) wl L ce sz Sc Sm := by
  obtain ⟨p, l, e, R, s, m, args, below, meth, c, Q, D, tc, sa, A, Ts, wp, ap, ⟨⟨hx, hb, hml, hown, hts⟩, hG, hE, hA, hX⟩, ⟨hRf, hRl, hRc, hRs⟩, hI, rfl⟩ := h
  intro o1 o2 w1 ad H locs ls w2 hW hS hL
  obtain ⟨m1, m2, m3, m4⟩ := hr
  exact va_mabs hx hb (hml.trans hL.1.symm) hown (hts _ (hG _ hw.1)) (hts _ (hG _ hw.2.1)) (hts _ (hG _ hw.2.2.1)) (hts _ (hG _ hw.2.2.2)) (by rw [hRf]; exact m1) (by rw [cat_sum, hRl]; exact m2) (by rw [hRc]; exact m3) (by rw [hRs]; exact m4) hd (kk o1 o2.tl.i w1 ad H locs ls w2 hW hS hL)
def AW (own : String) (idx : Nat) : Prop := Jvm.Cond.methodLink own idx arraycopyName ∈ GT ∧ Jvm.Cond.native arraycopyName ∈ GT ∧ Jvm.Cond.static arraycopyName ∈ GT ∧ Jvm.Cond.initialized "java/lang/System" ∈ GT
theorem Cl.acopy (h : Cl own cc nL fr lo rc rs sc isI J) {k2 i2 : Nat} (N : Nat) {n : Int32} (hd : decode cc pc = .ok (.invokestatic idx, 3)) (hw : AW own idx) (hk : ak k = 0) (hk2 : ak k2 = 0) (hs1 : sd k = false) (hs2 : sd k2 = false) (hn0 : ¬ n < 0) (hN : n.toNatClampNeg = N) (h4 : N ≤ nsl k) (h5 : N ≤ nsl k2) (hr : 1 ≤ fr ∧ st.length + (nativeFrameWords "java/lang/System" "arraycopy" 5 + 11) ≤ lo)
    (kk : J (pc + 3) lv st wl L ce sz (upA Sc k2 i2 (va_cpy (Sc k i) (Sc k2 i2) 0 0 N)) Sm) : J pc lv (vi n :: vi 0 :: vr k2 i2 :: vi 0 :: vr k i :: st) wl L ce sz Sc Sm := by
  obtain ⟨p, l, e, R, s, m, args, below, meth, c, Q, D, tc, sa, A, Ts, wp, ap, ⟨⟨hx, hb, hml, hown, hts⟩, hG, hE, hA, hX⟩, ⟨hRf, hRl, hRc, hRs⟩, hI, rfl⟩ := h
  intro o1 o2 w1 ad H locs ls w2 hW hS hL
  obtain ⟨m1, m2⟩ := hr
  have hm2 := okv_arr o2.tl.tl.hd (by omega)
  have hm1 := okv_arr o2.tl.tl.tl.tl.hd (by omega)
  obtain ⟨n1, hn1⟩ := List.getElem?_of_mem hm1
  obtain ⟨n2, hn2⟩ := List.getElem?_of_mem hm2
  have he1 := wls_at (tc := tc) (ad := ad) (L := L) (X := mm Sc Sm) hn1
  have he2 := wls_at (tc := tc) (ad := ad) (L := L) (X := mm Sc Sm) hn2
  rw [ent_arr (by omega), hk] at he1
  rw [ent_arr (by omega), hk2] at he2
  have z0 : (0 : Int32).toNatClampNeg = 0 := by decide
  refine va_copyi hx hb (hml.trans hL.1.symm) hown (hts _ (hG _ hw.1)) (hts _ (hG _ hw.2.1)) (hts _ (hG _ hw.2.2.1)) (hts _ (hG _ hw.2.2.2)) hE.1 hW.2.2.2.1 (hW.2.1.D tc L (mm Sc Sm)) hS n1 n2 0 0 he1 he2 rfl rfl rfl (by decide) (by decide) hn0 (by rw [z0, hN]; omega) (by rw [z0, hN]; omega) (fun _ _ => rfl) (by rw [hRf]; exact m1) (by rw [cat_sum, hRl]; exact m2) hd (fun H1 locs1 hP1 _ hS1 => ?_)
  refine kk o1 o2.tl.tl.tl.tl.tl w1 ad H1 locs1 ls w2 ⟨hW.1, hW.2.1, hW.2.2.1, ?_, hW.2.2.2.2⟩ hS1 hL
  rw [mm_upAC hs2]
  refine PW.set (q := (k2, i2)) hn2 hW.2.1 ?_ (fun r _ hne => ent_congr (fun j' => upA_ne hne j') (fun _ => rfl) (fun _ _ _ => rfl))
  rw [ent_arr (by omega), hk2]
  have e : upA (mm Sc Sm) k2 i2 (va_cpy (Sc k i) (Sc k2 i2) 0 0 N) k2 i2 = va_cpy (mm Sc Sm k i) (mm Sc Sm k2 i2) 0 0 N := by
    unfold upA
    rw [if_pos ⟨rfl, rfl⟩, mm_c hs1, mm_c hs2]
  rw [e]
  rw [z0, hN] at hP1
  exact hP1
/-! ===== what constructors do ===== -/
def OW (own : String) (idx : Nat) : Prop := Jvm.Cond.methodLink own idx Lib.objectInit ∈ GT ∧ Jvm.Cond.instanceMethod Lib.objectInit ∈ GT ∧ Jvm.Cond.code Lib.objectInit ⟨#[0xb1]⟩ 1 none ∈ GT
theorem Cl.objInit (h : Cl own cc nL fr lo rc rs sc isI J) (hd : decode cc pc = .ok (.invokespecial idx, 3)) (hw : OW own idx) (hr : 1 ≤ fr ∧ st.length + 12 ≤ lo) (kk : J (pc + 3) lv st wl L ce sz Sc Sm) : J pc lv (vr k i :: st) wl L ce sz Sc Sm := by
  obtain ⟨p, l, e, R, s, m, args, below, meth, c, Q, D, tc, sa, A, Ts, wp, ap, ⟨⟨hx, hb, hml, hown, hts⟩, hG, hE, hA, hX⟩, ⟨hRf, hRl, hRc, hRs⟩, hI, rfl⟩ := h
  intro o1 o2 w1 ad H locs ls w2 hW hS hL
  obtain ⟨m1, m2⟩ := hr
  exact W.objInit hx hb hown (hts _ (hG _ hw.1)) (hts _ (hG _ hw.2.1)) (hts _ (hG _ hw.2.2)) rfl (hL.1.trans hml.symm) rfl hd (by rw [hRf]; exact m1) (by rw [hRl, cat_sum]; show 2 * 0 + _ + 12 ≤ _; omega) (kk o1 o2.tl w1 ad H locs ls w2 hW hS hL)
def adU (ad : Ad) (k i q : Nat) : Ad := fun k' i' => if k' = k ∧ i' = i then q else ad k' i'
theorem adU_ne {ad : Ad} {k i q : Nat} {r : Nat × Nat} (h : r ≠ (k, i)) : adU ad k i q r.1 r.2 = ad r.1 r.2 := by
  unfold adU
  rw [if_neg]
  intro z
  exact h (by obtain ⟨a, b⟩ := r; exact Prod.ext z.1 z.2)
theorem adU_self {ad : Ad} {k i q : Nat} : adU ad k i q k i = q := by unfold adU; rw [if_pos ⟨rfl, rfl⟩]
/-- the world grows by one cell -/
theorem Wok.push {D : va_G} {tc : Nat → ClassId} {sa : Ad} {A : Nat → Prop} {ad : Ad} {wl : Obs} {L : Lay} {X : Mem} {H H1 : Heap} {k i q : Nat} {en : va_E} (hW : Wok D tc sa A ad wl L X H) (hf : (k, i) ∉ wl) (hk : k < 90) (hP : va_P D vwCl (wls tc ad wl L X ++ [(q, en)]) H1) (hD : va_D A (wls tc ad wl L X ++ [(q, en)]))
    (hen : ent tc (adU ad k i q) (nwL L k i) (nwS X k i) (k, i) = en) : Wok D tc sa A (adU ad k i q) (wl ++ [(k, i)]) (nwL L k i) (nwS X k i) H1 := by
  have hne : ∀ r ∈ wl, r ≠ (k, i) := fun r hr e => hf (by rw [← e]; exact hr)
  have hmap : ∀ r ∈ wl, (adU ad k i q r.1 r.2, ent tc (adU ad k i q) (nwL L k i) (nwS X k i) r) = (ad r.1 r.2, ent tc ad L X r) := by
    intro r hr
    rw [adU_ne (hne r hr), ent_congr (ad := ad) (L := L) (X := X) (fun j' => nwS_ne (hne r hr) j') (fun j' => nwL_ne (hne r hr) j') (fun j' r' h' => adU_ne (hne r' (hW.2.2.1 r hr j' r' h')))]
  have hwls : wls tc (adU ad k i q) (wl ++ [(k, i)]) (nwL L k i) (nwS X k i) = wls tc ad wl L X ++ [(q, en)] := by
    unfold wls
    rw [List.map_append, List.map_congr_left hmap]
    congr 1
    show [(adU ad k i q k i, ent tc (adU ad k i q) (nwL L k i) (nwS X k i) (k, i))] = _
    rw [hen, adU_self]
  refine ⟨fun k' i' h' => ?_, ⟨fun a b p r ha hb e => ?_, fun r hr => ?_⟩, fun r hr j' r' h' => ?_, ?_, fun r hr => ?_⟩
  · rw [← hW.1 k' i' h']
    exact adU_ne (r := (k', i')) (fun e => by cases e; omega)
  · have h1 := wls_at (tc := tc) (ad := adU ad k i q) (L := nwL L k i) (X := nwS X k i) ha
    have h2 := wls_at (tc := tc) (ad := adU ad k i q) (L := nwL L k i) (X := nwS X k i) hb
    rw [hwls] at h1 h2
    exact hD.1 a b _ _ h1 h2 e
  · obtain ⟨a, ha⟩ := List.getElem?_of_mem hr
    have h1 := wls_at (tc := tc) (ad := adU ad k i q) (L := nwL L k i) (X := nwS X k i) ha
    rw [hwls] at h1
    exact hD.2 a _ h1
  · rcases List.mem_append.mp hr with hr | hr
    · rw [nwL_ne (hne r hr)] at h'
      exact List.mem_append_left _ (hW.2.2.1 r hr j' r' h')
    · rw [List.mem_singleton] at hr
      subst hr
      unfold nwL at h'
      rw [if_pos ⟨rfl, rfl⟩] at h'
      cases h'
  · unfold PW
    rw [hwls]
    exact hP
  · rcases List.mem_append.mp hr with hr | hr
    · exact hW.2.2.2.2 r hr
    · rw [List.mem_singleton] at hr
      subst hr
      exact hk
def NW (own : String) (idx k : Nat) : Prop := ∃ C T ty0, KC k C T ty0 ∧ Jvm.Cond.classLink own idx C ∈ GT ∧ Jvm.Cond.instantiable C (nsl k) ∈ GT ∧ Jvm.Cond.initialized C ∈ GT
theorem okv_app {wl : Obs} {q : Nat × Nat} {v : AV} (h : okv wl v) : okv (wl ++ [q]) v := h.mono (fun _ h => List.mem_append_left _ h)
theorem Cl.newX (h : Cl own cc nL fr lo rc rs sc isI J) {Sc' Sm' : Mem} (hd : decode cc pc = .ok (.new idx, 3)) (hw : NW own idx k) (hf : (k, i) ∉ wl) (hr : ce + 1 ≤ rc ∧ sz + nsl k ≤ rs) (hmm : mm Sc' Sm' = nwS (mm Sc Sm) k i) (kk : J (pc + 3) lv (vr k i :: st) (wl ++ [(k, i)]) (nwL L k i) (ce + 1) (sz + nsl k) Sc' Sm') : J pc lv st wl L ce sz Sc Sm := by
  obtain ⟨p, l, e, R, s, m, args, below, meth, c, Q, D, tc, sa, A, Ts, wp, ap, ⟨⟨hx, hb, hml, hown, hts⟩, hG, hE, hA, hX⟩, ⟨hRf, hRl, hRc, hRs⟩, hI, rfl⟩ := h
  obtain ⟨C, T, ty0, ⟨k1, k2, k3, k4, k5, k6⟩, f1, f2, f3⟩ := hw
  intro o1 o2 w1 ad H locs ls w2 hW hS hL
  have hk90 : k < 90 := by have h3 : nObj = 13 := rfl; omega
  have hdef : ∀ j, j < nsl k → defaultValue (ty0 j) = vp_V ((List.range (nsl k)).map (fun j => if isRf k j = true then Value.null else Value.int 0)) j := by
    intro j hj
    unfold vp_V
    rw [List.getD_eq_getElem?_getD, range_get hj]
    obtain ⟨q1, q2⟩ := k6 j hj
    by_cases hrf : isRf k j = true
    · rw [if_pos hrf]
      rcases q2 hrf with ⟨n, e⟩ | ⟨t, e⟩ <;> rw [e] <;> rfl
    · rw [if_neg hrf]
      rcases q1 (by simpa using hrf) with e | e <;> rw [e] <;> rfl
  refine va_new (D := D) hx hb hts (fun w h => hG w (k3 w h)) ty0 k4 hown (hts _ (hG _ f1)) (hts _ (hG _ f2)) (hts _ (hG _ f3)) hE.1 hW.2.2.2.1 (hW.2.1.D tc L (mm Sc Sm)) hS hA k1 hdef (by rw [hRc]; exact hr.1) (by rw [hRs]; exact hr.2) hd (fun q H1 hP1 hD1 hS1 => ?_)
  have hW' := hW.push hf hk90 hP1 hD1 (by
    rw [ent_obj k2]
    congr 2
    refine List.map_congr_left (fun j hj => ?_)
    have e1 : nwL L k i k i j = none := by unfold nwL; rw [if_pos ⟨rfl, rfl⟩]
    have e2 : nwS (mm Sc Sm) k i k i j = 0 := by unfold nwS; rw [if_pos ⟨rfl, rfl⟩]
    unfold fvv
    rw [e1, e2]
    rfl)
  have hne : ∀ r ∈ wl, r ≠ (k, i) := fun r hr e => hf (by rw [← e]; exact hr)
  have hc : ∀ v, okv wl v → cv (adU ad k i q) v = cv ad v := cv_agree (fun r hr => adU_ne (hne r hr)) hW.1 hW'.1
  have h1 := kk (fun a v ha => okv_app (o1 a v ha)) (okS.cons (v := vr k i) (Or.inl (List.mem_append_right _ List.mem_cons_self)) (fun v hv => okv_app (o2 v hv))) (fun r hr => List.mem_append_left _ (w1 r hr)) (adU ad k i q) H1 locs ls (fun r hr => (adU_ne (hne r (w1 r hr))).trans (w2 r hr)) (by rw [hmm]; exact hW') hS1 (hL.ad hc o1)
  rw [List.map_cons, map_agree hc o2, show cv (adU ad k i q) (vr k i) = .ref q from by show Value.ref _ = _; rw [adU_self]] at h1
  exact h1
theorem Cl.newC (h : Cl own cc nL fr lo rc rs sc isI J) (hd : decode cc pc = .ok (.new idx, 3)) (hw : NW own idx k) (hf : (k, i) ∉ wl) (hs : sd k = false) (hr : ce + 1 ≤ rc ∧ sz + nsl k ≤ rs) (kk : J (pc + 3) lv (vr k i :: st) (wl ++ [(k, i)]) (nwL L k i) (ce + 1) (sz + nsl k) (nwS Sc k i) Sm) : J pc lv st wl L ce sz Sc Sm := h.newX hd hw hf hr (mm_nwC hs) kk
theorem Cl.newM (h : Cl own cc nL fr lo rc rs sc isI J) (hd : decode cc pc = .ok (.new idx, 3)) (hw : NW own idx k) (hf : (k, i) ∉ wl) (hs : sd k = true) (hr : ce + 1 ≤ rc ∧ sz + nsl k ≤ rs) (kk : J (pc + 3) lv (vr k i :: st) (wl ++ [(k, i)]) (nwL L k i) (ce + 1) (sz + nsl k) Sc (nwS Sm k i)) : J pc lv st wl L ce sz Sc Sm := h.newX hd hw hf hr (mm_nwM hs) kk
def aty (t : Nat) : FieldType := if t = 0 then .int else if t = 1 then .byte else .boolean
theorem Cl.newaX (h : Cl own cc nL fr lo rc rs sc isI J) {Sc' Sm' : Mem} {at' : ArrayType} (hd : decode cc pc = .ok (.newarray at', 2)) (hat : (at' = .int ∧ ak k = 0) ∨ (at' = .byte ∧ ak k = 1) ∨ (at' = .boolean ∧ ak k = 2)) (hw : Jvm.Cond.arrayClass (aty (ak k)) ∈ GT) (hf : (k, i) ∉ wl) {n : Int32} (hn0 : ¬ n < 0) (hN : n.toNatClampNeg = nsl k) (hsz : nsl k ≤ 100000) (hr : ce + 1 ≤ rc ∧ sz + nsl k ≤ rs) (hmm : mm Sc' Sm' = nwS (mm Sc Sm) k i) (kk : J (pc + 2) lv (vr k i :: st) (wl ++ [(k, i)]) (nwL L k i) (ce + 1) (sz + nsl k) Sc' Sm') : J pc lv (vi n :: st) wl L ce sz Sc Sm := by
  obtain ⟨p, l, e, R, s, m, args, below, meth, c, Q, D, tc, sa, A, Ts, wp, ap, ⟨⟨hx, hb, hml, hown, hts⟩, hG, hE, hA, hX⟩, ⟨hRf, hRl, hRc, hRs⟩, hI, rfl⟩ := h
  intro o1 o2 w1 ad H locs ls w2 hW hS hL
  have h9 : ak k < 3 := by omega
  have hk90 : k < 90 := by
    rcases Nat.lt_or_ge k 90 with q | q
    · exact q
    · rw [ak_big q] at h9; omega
  have fin : ∀ (q : Nat) (cA : ClassId) (H1 : Heap), cA = tc (ak k) → va_P D vwCl (wls tc ad wl L (mm Sc Sm) ++ [(q, .inl (cA, (nsl k, .inl (fun _ => 0))))]) H1 → va_D A (wls tc ad wl L (mm Sc Sm) ++ [(q, .inl (cA, (nsl k, .inl (fun _ => 0))))]) → va_S A s.heap H1 locs → W p l e R s m args below meth c H1 locs (ce + 1) (sz + nsl k) Q (F0 m (pc + 2) ls (.ref q :: st.map (cv ad))) := by
    intro q cA H1 hcA hP1 hD1 hS1
    subst hcA
    have hW' := hW.push hf hk90 hP1 hD1 (by
      rw [ent_arr h9]
      congr 4
      funext j
      unfold nwS
      rw [if_pos ⟨rfl, rfl⟩])
    have hne : ∀ r ∈ wl, r ≠ (k, i) := fun r hr e => hf (by rw [← e]; exact hr)
    have hc : ∀ v, okv wl v → cv (adU ad k i q) v = cv ad v := cv_agree (fun r hr => adU_ne (hne r hr)) hW.1 hW'.1
    have h1 := kk (fun a v ha => okv_app (o1 a v ha)) (okS.cons (v := vr k i) (Or.inl (List.mem_append_right _ List.mem_cons_self)) (fun v hv => okv_app (o2.tl v hv))) (fun r hr => List.mem_append_left _ (w1 r hr)) (adU ad k i q) H1 locs ls (fun r hr => (adU_ne (hne r (w1 r hr))).trans (w2 r hr)) (by rw [hmm]; exact hW') hS1 (hL.ad hc o1)
    rw [List.map_cons, map_agree hc o2.tl, show cv (adU ad k i q) (vr k i) = .ref q from by show Value.ref _ = _; rw [adU_self]] at h1
    exact h1
  have cls : ∀ (cA : ClassId) (ty : FieldType) (t0 : Nat), (tysOf tc)[t0]? = some (tc t0, ty) → (∀ U c', va_RA U c' ty → U.vm.findClass ("[" ++ ty.toString) = some c') → va_K D vwCl (tysOf tc ++ [(cA, ty)]) s → cA = tc t0 := by
    intro cA ty t0 h0 hfc hK
    have a1 := hfc s cA (hK.2 5 (cA, ty) rfl).2
    have a2 := hfc s (tc t0) (hE.1.2 t0 (tc t0, ty) h0).2
    exact Option.some.inj (a1.symm.trans a2)
  rcases hat with ⟨rfl, h0⟩ | ⟨rfl, h0⟩ | ⟨rfl, h0⟩
  · rw [h0] at hw fin
    exact va_newa (atype := .int) (ty := .int) (a0 := (nsl k, .inl (fun _ => 0))) hx hb (hts _ (hG _ hw)) rfl hE.1 hW.2.2.2.1 (hW.2.1.D tc L (mm Sc Sm)) hS hA (fun _ => rfl) hn0 hN (by show nsl k * 4 ≤ _; omega) (by rw [hRc]; exact hr.1) (by rw [hRs]; exact hr.2) hd (fun q cA H1 hK hP1 hD1 hS1 => fin q cA H1 (cls cA .int 0 rfl (fun _ _ h => h) hK) hP1 hD1 hS1)
  · rw [h0] at hw fin
    exact va_newa (atype := .byte) (ty := .byte) (a0 := (nsl k, .inl (fun _ => 0))) hx hb (hts _ (hG _ hw)) rfl hE.1 hW.2.2.2.1 (hW.2.1.D tc L (mm Sc Sm)) hS hA (fun _ => rfl) hn0 hN (by show nsl k * 1 ≤ _; omega) (by rw [hRc]; exact hr.1) (by rw [hRs]; exact hr.2) hd (fun q cA H1 hK hP1 hD1 hS1 => fin q cA H1 (cls cA .byte 1 rfl (fun _ _ h => h) hK) hP1 hD1 hS1)
  · rw [h0] at hw fin
    exact va_newa (atype := .boolean) (ty := .boolean) (a0 := (nsl k, .inl (fun _ => 0))) hx hb (hts _ (hG _ hw)) rfl hE.1 hW.2.2.2.1 (hW.2.1.D tc L (mm Sc Sm)) hS hA (fun _ => rfl) hn0 hN (by show nsl k * 1 ≤ _; omega) (by rw [hRc]; exact hr.1) (by rw [hRs]; exact hr.2) hd (fun q cA H1 hK hP1 hD1 hS1 => fin q cA H1 (cls cA .boolean 2 rfl (fun _ _ h => h) hK) hP1 hD1 hS1)
theorem Cl.newaC (h : Cl own cc nL fr lo rc rs sc isI J) {at' : ArrayType} (hd : decode cc pc = .ok (.newarray at', 2)) (hat : (at' = .int ∧ ak k = 0) ∨ (at' = .byte ∧ ak k = 1) ∨ (at' = .boolean ∧ ak k = 2)) (hw : Jvm.Cond.arrayClass (aty (ak k)) ∈ GT) (hf : (k, i) ∉ wl) {n : Int32} (hn0 : ¬ n < 0) (hN : n.toNatClampNeg = nsl k) (hsz : nsl k ≤ 100000) (hs : sd k = false) (hr : ce + 1 ≤ rc ∧ sz + nsl k ≤ rs) (kk : J (pc + 2) lv (vr k i :: st) (wl ++ [(k, i)]) (nwL L k i) (ce + 1) (sz + nsl k) (nwS Sc k i) Sm) : J pc lv (vi n :: st) wl L ce sz Sc Sm := h.newaX hd hat hw hf hn0 hN hsz hr (mm_nwC hs) kk
theorem Cl.newaM (h : Cl own cc nL fr lo rc rs sc isI J) {at' : ArrayType} (hd : decode cc pc = .ok (.newarray at', 2)) (hat : (at' = .int ∧ ak k = 0) ∨ (at' = .byte ∧ ak k = 1) ∨ (at' = .boolean ∧ ak k = 2)) (hw : Jvm.Cond.arrayClass (aty (ak k)) ∈ GT) (hf : (k, i) ∉ wl) {n : Int32} (hn0 : ¬ n < 0) (hN : n.toNatClampNeg = nsl k) (hsz : nsl k ≤ 100000) (hs : sd k = true) (hr : ce + 1 ≤ rc ∧ sz + nsl k ≤ rs) (kk : J (pc + 2) lv (vr k i :: st) (wl ++ [(k, i)]) (nwL L k i) (ce + 1) (sz + nsl k) Sc (nwS Sm k i)) : J pc lv (vi n :: st) wl L ce sz Sc Sm := h.newaX hd hat hw hf hn0 hN hsz hr (mm_nwM hs) kk
def aqC (t : Nat) : String := if t = 3 then "PaperAger$Reader" else "PaperAger$Paper"
theorem Cl.newq (h : Cl own cc nL fr lo rc rs sc isI J) (hd : decode cc pc = .ok (.anewarray idx, 3)) (hk : ak k = 3 ∨ ak k = 4) (hw : Jvm.Cond.classLink own idx (aqC (ak k)) ∈ GT) (hf : (k, i) ∉ wl) {n : Int32} (hn0 : ¬ n < 0) (hN : n.toNatClampNeg = nsl k) (hsz : nsl k ≤ 100000) (hs : sd k = false) (hr : ce + 1 ≤ rc ∧ sz + nsl k ≤ rs) (kk : J (pc + 3) lv (vr k i :: st) (wl ++ [(k, i)]) (nwL L k i) (ce + 1) (sz + nsl k) (nwS Sc k i) Sm) : J pc lv (vi n :: st) wl L ce sz Sc Sm := by
  obtain ⟨p, l, e, R, s, m, args, below, meth, c, Q, D, tc, sa, A, Ts, wp, ap, ⟨⟨hx, hb, hml, hown, hts⟩, hG, hE, hA, hX⟩, ⟨hRf, hRl, hRc, hRs⟩, hI, rfl⟩ := h
  intro o1 o2 w1 ad H locs ls w2 hW hS hL
  have hk90 : k < 90 := by
    rcases Nat.lt_or_ge k 90 with q | q
    · exact q
    · rw [ak_big q] at hk; omega
  have fin : ∀ (q : Nat) (cA : ClassId) (H1 : Heap), cA = tc (ak k) → va_P D vwCl (wls tc ad wl L (mm Sc Sm) ++ [(q, .inl (cA, (nsl k, .inr (.inr (.inr (.inr (fun _ => none)))))))]) H1 → va_D A (wls tc ad wl L (mm Sc Sm) ++ [(q, .inl (cA, (nsl k, .inr (.inr (.inr (.inr (fun _ => none)))))))]) → va_S A s.heap H1 locs → W p l e R s m args below meth c H1 locs (ce + 1) (sz + nsl k) Q (F0 m (pc + 3) ls (.ref q :: st.map (cv ad))) := by
    intro q cA H1 hcA hP1 hD1 hS1
    subst hcA
    have hW' := hW.push hf hk90 hP1 hD1 (by
      rw [ent_arq hk]
      have e : (fun j => (nwL L k i k i j).map fun r => adU ad k i q r.1 r.2) = fun _ => none := by
        funext j
        unfold nwL
        rw [if_pos ⟨rfl, rfl⟩]
        rfl
      rw [e])
    have hne : ∀ r ∈ wl, r ≠ (k, i) := fun r hr e => hf (by rw [← e]; exact hr)
    have hc : ∀ v, okv wl v → cv (adU ad k i q) v = cv ad v := cv_agree (fun r hr => adU_ne (hne r hr)) hW.1 hW'.1
    have h1 := kk (fun a v ha => okv_app (o1 a v ha)) (okS.cons (v := vr k i) (Or.inl (List.mem_append_right _ List.mem_cons_self)) (fun v hv => okv_app (o2.tl v hv))) (fun r hr => List.mem_append_left _ (w1 r hr)) (adU ad k i q) H1 locs ls (fun r hr => (adU_ne (hne r (w1 r hr))).trans (w2 r hr)) (by rw [mm_nwC hs]; exact hW') hS1 (hL.ad hc o1)
    rw [List.map_cons, map_agree hc o2.tl, show cv (adU ad k i q) (vr k i) = .ref q from by show Value.ref _ = _; rw [adU_self]] at h1
    exact h1
  have cls : ∀ (cA : ClassId) (C : String) (t0 : Nat), (tysOf tc)[t0]? = some (tc t0, .object C) → va_K D vwCl (tysOf tc ++ [(cA, .object C)]) s → cA = tc t0 := by
    intro cA C t0 h0 hK
    obtain ⟨_, _, -, -, -, a1⟩ := (hK.2 5 (cA, .object C) rfl).2
    obtain ⟨_, _, -, -, -, a2⟩ := (hE.1.2 t0 (tc t0, .object C) h0).2
    exact Option.some.inj (a1.symm.trans a2)
  rcases hk with h0 | h0
  · rw [h0] at hw fin
    exact va_newq hx hb hown (hts _ (hG _ hw)) hE.2.2.2.2.2.1 hE.1 hW.2.2.2.1 (hW.2.1.D tc L (mm Sc Sm)) hS hA hn0 hN (by omega) (by rw [hRc]; exact hr.1) (by rw [hRs]; exact hr.2) hd (fun q cA H1 hK hP1 hD1 hS1 => fin q cA H1 (cls cA _ 3 rfl hK) hP1 hD1 hS1)
  · rw [h0] at hw fin
    exact va_newq hx hb hown (hts _ (hG _ hw)) hE.2.2.2.2.2.2.1 hE.1 hW.2.2.2.1 (hW.2.1.D tc L (mm Sc Sm)) hS hA hn0 hN (by omega) (by rw [hRc]; exact hr.1) (by rw [hRs]; exact hr.2) hd (fun q cA H1 hK hP1 hD1 hS1 => fin q cA H1 (cls cA _ 4 rfl hK) hP1 hD1 hS1)
theorem LV_up {wl : Obs} {L : Lay} {k i j : Nat} {r : Nat × Nat} (h : LV wl L) (hr : r ∈ wl) : LV wl (upL L k i j (some r)) := by
  intro q hq j' r' h'
  unfold upL at h'
  split at h'
  · cases h'; exact hr
  · exact h q hq j' r' h'
theorem Cl.putR (h : Cl own cc nL fr lo rc rs sc true J) {k' i' : Nat} (hd : decode cc pc = .ok (.putfield idx, 3)) (hf : FF own idx k j) (hr : isRf k j = true) (hk' : k' < 90) (kk : J (pc + 3) lv st wl (upL L k i j (some (k', i'))) ce sz Sc Sm) : J pc lv (vr k' i' :: vr k i :: st) wl L ce sz Sc Sm := by
  obtain ⟨p, l, e, R, s, m, args, below, meth, c, Q, D, tc, sa, A, Ts, wp, ap, ⟨⟨hx, hb, hml, hown, hts⟩, hG, hE, hA, hX⟩, ⟨hRf, hRl, hRc, hRs⟩, hI, rfl⟩ := h
  obtain ⟨C, T, ty0, ⟨k1, k2, k3, k4, k5, k6⟩, f1, f2, f3, f4⟩ := hf
  intro o1 o2 w1 ad H locs ls w2 hW hS hL
  have hm := okv_obj o2.tl.hd k2
  have hm' : (k', i') ∈ wl := o2.hd.resolve_right (fun q => by have q2 : (90 : Nat) ≤ k' := q; omega)
  obtain ⟨n, hn'⟩ := List.getElem?_of_mem hm
  have he := wls_at (tc := tc) (ad := ad) (L := L) (X := mm Sc Sm) hn'
  rw [ent_obj k2] at he
  have hnf : narrow (ty0 j) (.ref (ad k' i')) = .ref (ad k' i') ∧ fits (ty0 j) (.ref (ad k' i')) = true := by
    rcases (k6 j f1).2 hr with ⟨n, e⟩ | ⟨t, e⟩ <;> rw [e] <;> exact ⟨rfl, rfl⟩
  refine va_putF (D := D) (v := .ref (ad k' i')) hx hb hts (fun w h => hG w (k3 w h)) ty0 k4 k5 hown hE.1 hW.2.2.2.1 (hW.2.1.D tc L (mm Sc Sm)) hS n he k1 j f1 (hts _ (hG _ f2)) (fun _ h => h) f3 (hI rfl) f4 (k4 j f1) hnf.1 hnf.2 (by simp [f1]) hd (fun H1 locs1 hP1 _ hS1 => ?_)
  refine kk o1 o2.tl.tl w1 ad H1 locs1 ls w2 ⟨hW.1, hW.2.1, LV_up hW.2.2.1 hm', ?_, hW.2.2.2.2⟩ hS1 hL
  refine PW.set (q := (k, i)) hn' hW.2.1 ?_ (fun r _ hne => ent_congr (fun _ => rfl) (fun j' => upL_ne hne j') (fun _ _ _ => rfl))
  rw [ent_obj k2]
  rw [range_set (g := fvv ad (upL L k i j (some (k', i'))) (mm Sc Sm) k i)] at hP1
  · exact hP1
  · unfold fvv upL; rw [if_pos hr, if_pos ⟨rfl, rfl, rfl⟩]; rfl
  · intro j' hne
    have e1 : upL L k i j (some (k', i')) k i j' = L k i j' := by unfold upL; rw [if_neg (fun z => hne z.2.2)]
    unfold fvv
    rw [e1]
theorem Cl.aast (h : Cl own cc nL fr lo rc rs sc isI J) {k' i' : Nat} {C : String} {T : u_T} {N : Nat} (hd : decode cc pc = .ok (.aastore, 1)) (hk : ak k = 3 ∨ ak k = 4) {x : Int32} {n : Nat} (hn : nsl k = n) (hi : ix x n = some j) (hC : vwCl[k']? = some (C, T, N)) (hko : k' < nObj) (hCq : C = aqC (ak k)) (kk : J (pc + 1) lv st wl (upL L k i j (some (k', i'))) ce sz Sc Sm) : J pc lv (vr k' i' :: vi x :: vr k i :: st) wl L ce sz Sc Sm := by
  obtain ⟨p, l, e, R, s, m, args, below, meth, c, Q, D, tc, sa, A, Ts, wp, ap, ⟨⟨hx, hb, hml, hown, hts⟩, hG, hE, hA, hX⟩, ⟨hRf, hRl, hRc, hRs⟩, hI, rfl⟩ := h
  intro o1 o2 w1 ad H locs ls w2 hW hS hL
  have hm := okv_arr o2.tl.tl.hd (by omega)
  have hm' := okv_obj o2.hd hko
  obtain ⟨n1, hn1⟩ := List.getElem?_of_mem hm
  obtain ⟨n2, hn2⟩ := List.getElem?_of_mem hm'
  have he1 := wls_at (tc := tc) (ad := ad) (L := L) (X := mm Sc Sm) hn1
  have he2 := wls_at (tc := tc) (ad := ad) (L := L) (X := mm Sc Sm) hn2
  rw [ent_arq hk] at he1
  rw [ent_obj hko] at he2
  subst hn
  obtain ⟨i1, i2, i3⟩ := ix_some hi
  subst i2
  have fin : ∀ (H1 : Heap) (locs1 : List Loc), va_P D vwCl ((wls tc ad wl L (mm Sc Sm)).set n1 (ad k i, .inl (tc (ak k), nsl k, .inr (.inr (.inr (.inr (va_up (fun j => (L k i j).map fun r => ad r.1 r.2) x.toNatClampNeg (some (ad k' i'))))))))) H1 → va_S A s.heap H1 locs1 → W p l e R s m args below meth c H1 locs1 ce sz Q (F0 m (pc + 1) ls (st.map (cv ad))) := by
    intro H1 locs1 hP1 hS1
    refine kk o1 o2.tl.tl.tl w1 ad H1 locs1 ls w2 ⟨hW.1, hW.2.1, LV_up hW.2.2.1 hm', ?_, hW.2.2.2.2⟩ hS1 hL
    refine PW.set (q := (k, i)) hn1 hW.2.1 ?_ (fun r _ hne => ent_congr (fun _ => rfl) (fun j' => upL_ne hne j') (fun _ _ _ => rfl))
    rw [ent_arq hk]
    have e : (fun j => (upL L k i x.toNatClampNeg (some (k', i')) k i j).map fun r => ad r.1 r.2) = va_up (fun j => (L k i j).map fun r => ad r.1 r.2) x.toNatClampNeg (some (ad k' i')) := by
      funext j
      unfold upL va_up
      by_cases hj : j = x.toNatClampNeg
      · rw [if_pos ⟨rfl, rfl, hj⟩, if_pos hj]; rfl
      · rw [if_neg (fun z => hj z.2.2), if_neg hj]
    rw [e]
    exact hP1
  rcases hk with h0 | h0
  · rw [h0] at he1 fin hCq
    subst hCq
    exact va_astq hx hb hE.1 hW.2.2.2.1 (hW.2.1.D tc L (mm Sc Sm)) hS n1 3 n2 k' he1 rfl he2 hC i1 hd (fun H1 locs1 hP1 _ hS1 => fin H1 locs1 hP1 hS1)
  · rw [h0] at he1 fin hCq
    subst hCq
    exact va_astq hx hb hE.1 hW.2.2.2.1 (hW.2.1.D tc L (mm Sc Sm)) hS n1 4 n2 k' he1 rfl he2 hC i1 hd (fun H1 locs1 hP1 _ hS1 => fin H1 locs1 hP1 hS1)
end RM
end
section
/-! ===== calls in the settled world, as the walks use them ===== -/
abbrev vq (k : Nat) (o : Option Nat) : AV := Sum.inr (o.map (fun i => (k, i)))
def mt {α : Type} (o : Option Nat) (a : α) (f : Nat → α) : α := match o with
  | none => a
  | some i => f i
theorem mt_n {α : Type} {a : α} {f : Nat → α} : mt none a f = a := rfl
theorem mt_s {α : Type} {a : α} {f : Nat → α} {i : Nat} : mt (some i) a f = f i := rfl
def bd3 {α β γ δ : Type} (o : Option (α × β × γ)) (f : α → β → γ → Option δ) : Option δ := match o with
  | none => none
  | some (a, b, c) => f a b c
theorem bd3_some {α β γ δ : Type} {o : Option (α × β × γ)} {f : α → β → γ → Option δ} {r : δ} (h : bd3 o f = some r) : ∃ a b c, o = some (a, b, c) ∧ f a b c = some r := by
  cases o with
  | none => cases h
  | some q => exact ⟨q.1, q.2.1, q.2.2, rfl, h⟩
def bd4 {α β γ δ ε : Type} (o : Option (α × β × γ × δ)) (f : α → β → γ → δ → Option ε) : Option ε := match o with
  | none => none
  | some (a, b, c, d) => f a b c d
theorem bd4_some {α β γ δ ε : Type} {o : Option (α × β × γ × δ)} {f : α → β → γ → δ → Option ε} {r : ε} (h : bd4 o f = some r) : ∃ a b c d, o = some (a, b, c, d) ∧ f a b c d = some r := by
  cases o with
  | none => cases h
  | some q => exact ⟨q.1, q.2.1, q.2.2.1, q.2.2.2, rfl, h⟩
def FI (own : String) (idx k j : Nat) : Prop := FL own idx k j ∧ isRf k j = false ∧ sd k = false
def FM (own : String) (idx k j : Nat) : Prop := FL own idx k j ∧ isRf k j = false ∧ sd k = true
def FR (own : String) (idx k j : Nat) : Prop := FL own idx k j ∧ isRf k j = true
def FPI (own : String) (idx k j : Nat) : Prop := FP own idx k j .int ∧ isRf k j = false ∧ sd k = false
def FPM (own : String) (idx k j : Nat) : Prop := FP own idx k j .int ∧ isRf k j = false ∧ sd k = true
def FPZ (own : String) (idx k j : Nat) : Prop := FP own idx k j .boolean ∧ isRf k j = false ∧ sd k = false
def FPZM (own : String) (idx k j : Nat) : Prop := FP own idx k j .boolean ∧ isRf k j = false ∧ sd k = true
def AL (t k n : Nat) (s : Bool) : Prop := ak k = t ∧ nsl k = n ∧ sd k = s
def LkV (own : String) (idx k : Nat) (y : MethodName) (bytes : ByteArray) (maxL : Nat) (rt : Option FieldType) (n : Nat) : Prop := LkB own idx y bytes maxL rt n ∧ Jvm.Cond.instanceMethod y ∈ GT ∧ ∃ C T N, Jvm.Cond.selects C y y ∈ GT ∧ vwCl[k]? = some (C, T, N) ∧ k < nObj
def LkT (own : String) (idx : Nat) (y : MethodName) (bytes : ByteArray) (maxL : Nat) (rt : Option FieldType) (n : Nat) : Prop := LkB own idx y bytes maxL rt n ∧ Jvm.Cond.instanceMethod y ∈ GT ∧ Jvm.Cond.selects "java/lang/String" y y ∈ GT
def LkS (own : String) (idx : Nat) (y : MethodName) (bytes : ByteArray) (maxL : Nat) (rt : Option FieldType) (n : Nat) : Prop := LkB own idx y bytes maxL rt n ∧ Jvm.Cond.static y ∈ GT
def LkSN (own : String) (idx : Nat) (y : MethodName) (bytes : ByteArray) (maxL : Nat) (rt : Option FieldType) (n : Nat) : Prop := LkN own idx y bytes maxL rt n ∧ Jvm.Cond.static y ∈ GT
def rmB (fr lo rc rs fr1 lo1 maxL ce sz nr : Nat) : Bool := Nat.ble (fr1 + 1) fr && (Nat.ble (8 + (maxL + 11) + lo1) lo && (Nat.ble ce rc && (Nat.ble sz rs && Nat.ble nr 8)))
theorem rmB_ok {fr lo rc rs fr1 lo1 maxL ce sz nr : Nat} (h : rmB fr lo rc rs fr1 lo1 maxL ce sz nr = true) : Rm fr lo rc rs fr1 lo1 maxL 0 0 ce sz nr := by
  unfold rmB at h
  simp only [Bool.and_eq_true, Nat.ble_eq] at h
  exact ⟨h.1, h.2.1, h.2.2.1, h.2.2.2.1, h.2.2.2.2⟩
section RW
variable {own : String} {cc : ByteArray} {nL fr lo rc rs : Nat} {sc : Option (Nat × (Nat → Int32))} {isI : Bool} {J : Nat → Lv → List AV → Obs → Lay → Nat → Nat → Mem → Mem → Prop}
variable {pc : Nat} {lv : Lv} {st0 st1 : List AV} {wl : Obs} {L : Lay} {ce sz : Nat} {Sc Sm : Mem} {idx k i : Nat} {y : MethodName} {bytes : ByteArray} {maxL n fr1 lo1 : Nat} {rt : Option FieldType} {r : Option AV} {Sc' Sm' : Mem}
theorem Cl.gI {st : List AV} {j : Nat} (h : Cl own cc nL fr lo rc rs sc isI J) (hd : decode cc pc = .ok (.getfield idx, 3)) (hf : FI own idx k j) (kk : J (pc + 3) lv (vi (Sc k i j) :: st) wl L ce sz Sc Sm) : J pc lv (vr k i :: st) wl L ce sz Sc Sm := h.getI hd hf.1 hf.2.1 hf.2.2 kk
theorem Cl.gM {st : List AV} {j : Nat} (h : Cl own cc nL fr lo rc rs sc isI J) (hd : decode cc pc = .ok (.getfield idx, 3)) (hf : FM own idx k j) (kk : J (pc + 3) lv (vi (Sm k i j) :: st) wl L ce sz Sc Sm) : J pc lv (vr k i :: st) wl L ce sz Sc Sm := h.getM hd hf.1 hf.2.1 hf.2.2 kk
theorem Cl.gR {st : List AV} {j : Nat} {k' i' : Nat} (h : Cl own cc nL fr lo rc rs sc isI J) (hd : decode cc pc = .ok (.getfield idx, 3)) (hf : FR own idx k j) (hL' : L k i j = some (k', i')) (kk : J (pc + 3) lv (vr k' i' :: st) wl L ce sz Sc Sm) : J pc lv (vr k i :: st) wl L ce sz Sc Sm := h.getR hd hf.1 hf.2 hL' kk
theorem Cl.pI {st : List AV} {j : Nat} {x : Int32} (h : Cl own cc nL fr lo rc rs sc isI J) (hd : decode cc pc = .ok (.putfield idx, 3)) (hf : FPI own idx k j) (kk : J (pc + 3) lv st wl L ce sz (up Sc k i j x) Sm) : J pc lv (vi x :: vr k i :: st) wl L ce sz Sc Sm := h.putI hd hf.1 hf.2.1 hf.2.2 kk
theorem Cl.pIM {st : List AV} {j : Nat} {x : Int32} (h : Cl own cc nL fr lo rc rs sc isI J) (hd : decode cc pc = .ok (.putfield idx, 3)) (hf : FPM own idx k j) (kk : J (pc + 3) lv st wl L ce sz Sc (up Sm k i j x)) : J pc lv (vi x :: vr k i :: st) wl L ce sz Sc Sm := h.putM hd hf.1 hf.2.1 hf.2.2 kk
theorem Cl.pZ {st : List AV} {j : Nat} {x : Int32} (h : Cl own cc nL fr lo rc rs sc isI J) (hd : decode cc pc = .ok (.putfield idx, 3)) (hf : FPZ own idx k j) (hb01 : x = 0 ∨ x = 1) (kk : J (pc + 3) lv st wl L ce sz (up Sc k i j x) Sm) : J pc lv (vi x :: vr k i :: st) wl L ce sz Sc Sm := h.putZ hd hf.1 hf.2.1 hb01 hf.2.2 kk
theorem Cl.pZM {st : List AV} {j : Nat} {x : Int32} (h : Cl own cc nL fr lo rc rs sc isI J) (hd : decode cc pc = .ok (.putfield idx, 3)) (hf : FPZM own idx k j) (hb01 : x = 0 ∨ x = 1) (kk : J (pc + 3) lv st wl L ce sz Sc (up Sm k i j x)) : J pc lv (vi x :: vr k i :: st) wl L ce sz Sc Sm := h.putZM hd hf.1 hf.2.1 hb01 hf.2.2 kk
theorem Cl.liald {st : List AV} {j m : Nat} {x : Int32} (h : Cl own cc nL fr lo rc rs sc isI J) (hd : decode cc pc = .ok (.iaload, 1)) (ha : AL 0 k m false) (hi : ix x m = some j) (kk : J (pc + 1) lv (vi (Sc k i j) :: st) wl L ce sz Sc Sm) : J pc lv (vi x :: vr k i :: st) wl L ce sz Sc Sm := h.iald hd ha.1 ha.2.1 hi ha.2.2 kk
theorem Cl.lialdM {st : List AV} {j m : Nat} {x : Int32} (h : Cl own cc nL fr lo rc rs sc isI J) (hd : decode cc pc = .ok (.iaload, 1)) (ha : AL 0 k m true) (hi : ix x m = some j) (kk : J (pc + 1) lv (vi (Sm k i j) :: st) wl L ce sz Sc Sm) : J pc lv (vi x :: vr k i :: st) wl L ce sz Sc Sm := h.ialdM hd ha.1 ha.2.1 hi ha.2.2 kk
theorem Cl.lbald {st : List AV} {j m t : Nat} {x : Int32} (h : Cl own cc nL fr lo rc rs sc isI J) (hd : decode cc pc = .ok (.baload, 1)) (ha : AL (t + 1) k m false) (hi : ix x m = some j) (kk : J (pc + 1) lv (vi (Sc k i j) :: st) wl L ce sz Sc Sm) (ht : t = 0 ∨ t = 1 := by decide) : J pc lv (vi x :: vr k i :: st) wl L ce sz Sc Sm := h.bald hd (by have := ha.1; omega) ha.2.1 hi ha.2.2 kk
theorem Cl.siast {st : List AV} {j m : Nat} {x v : Int32} (h : Cl own cc nL fr lo rc rs sc isI J) (hd : decode cc pc = .ok (.iastore, 1)) (ha : AL 0 k m false) (hi : ix x m = some j) (kk : J (pc + 1) lv st wl L ce sz (up Sc k i j v) Sm) : J pc lv (vi v :: vi x :: vr k i :: st) wl L ce sz Sc Sm := h.iast hd ha.1 ha.2.1 hi ha.2.2 kk
theorem Cl.siastM {st : List AV} {j m : Nat} {x v : Int32} (h : Cl own cc nL fr lo rc rs sc isI J) (hd : decode cc pc = .ok (.iastore, 1)) (ha : AL 0 k m true) (hi : ix x m = some j) (kk : J (pc + 1) lv st wl L ce sz Sc (up Sm k i j v)) : J pc lv (vi v :: vi x :: vr k i :: st) wl L ce sz Sc Sm := h.iastM hd ha.1 ha.2.1 hi ha.2.2 kk
theorem Cl.sbast {st : List AV} {j m : Nat} {x v : Int32} (h : Cl own cc nL fr lo rc rs sc isI J) (hd : decode cc pc = .ok (.bastore, 1)) (ha : AL 1 k m false) (hi : ix x m = some j) (kk : J (pc + 1) lv st wl L ce sz (up Sc k i j (vp_nar .byte v)) Sm) : J pc lv (vi v :: vi x :: vr k i :: st) wl L ce sz Sc Sm := h.bast hd ha.1 ha.2.1 hi ha.2.2 kk
theorem Cl.szast {st : List AV} {j m : Nat} {x v : Int32} (h : Cl own cc nL fr lo rc rs sc isI J) (hd : decode cc pc = .ok (.bastore, 1)) (ha : AL 2 k m false) (hi : ix x m = some j) (kk : J (pc + 1) lv st wl L ce sz (up Sc k i j (vp_nar .boolean v)) Sm) : J pc lv (vi v :: vi x :: vr k i :: st) wl L ce sz Sc Sm := h.zast hd ha.1 ha.2.1 hi ha.2.2 kk
theorem Cl.cV (h : Cl own cc nL fr lo rc rs sc isI J) (as rest : List AV) (st1 : List AV) (hd : decode cc pc = .ok (.invokevirtual idx, 3)) (hl : LkV own idx k y bytes maxL rt n) (hc : Ct y bytes maxL rt fr1 lo1 0 0 (vr k i :: as) wl L Sc Sm r wl L Sc' Sm') (h0 : st0 = as.reverse ++ vr k i :: rest) (h1 : r.toList ++ rest = st1) (hn : as.length = n) (hrm : rmB fr lo rc rs fr1 lo1 maxL ce sz rest.length = true) (kk : J (pc + 3) lv st1 wl L ce sz Sc' Sm') : J pc lv st0 wl L ce sz Sc Sm := by
  subst h0
  subst h1
  obtain ⟨hl, hi, C, T, N, hs, hC, hk⟩ := hl
  exact h.callV hd hl hi hs hC hk hc hn (rmB_ok hrm) kk
theorem Cl.cT (h : Cl own cc nL fr lo rc rs sc isI J) (as rest : List AV) (st1 : List AV) (hi2 : i < 2) (hd : decode cc pc = .ok (.invokevirtual idx, 3)) (hl : LkT own idx y bytes maxL rt n) (hc : Ct y bytes maxL rt fr1 lo1 0 0 (vr 90 i :: as) wl L Sc Sm r wl L Sc' Sm') (h0 : st0 = as.reverse ++ vr 90 i :: rest) (h1 : r.toList ++ rest = st1) (hn : as.length = n) (hrm : rmB fr lo rc rs fr1 lo1 maxL ce sz rest.length = true) (kk : J (pc + 3) lv st1 wl L ce sz Sc' Sm') : J pc lv st0 wl L ce sz Sc Sm := by
  subst h0
  subst h1
  obtain ⟨hl, hi, hs⟩ := hl
  exact h.callVS hi2 hd hl hi hs hc hn (rmB_ok hrm) kk
theorem Cl.cS (h : Cl own cc nL fr lo rc rs sc isI J) (as rest : List AV) (st1 : List AV) (hd : decode cc pc = .ok (.invokestatic idx, 3)) (hl : LkS own idx y bytes maxL rt n) (hc : Ct y bytes maxL rt fr1 lo1 0 0 as wl L Sc Sm r wl L Sc' Sm') (h0 : st0 = as.reverse ++ rest) (h1 : r.toList ++ rest = st1) (hn : as.length = n) (hrm : rmB fr lo rc rs fr1 lo1 maxL ce sz rest.length = true) (kk : J (pc + 3) lv st1 wl L ce sz Sc' Sm') : J pc lv st0 wl L ce sz Sc Sm := by
  subst h0
  subst h1
  obtain ⟨hl, hi⟩ := hl
  exact h.callS hd hl hi hc hn (rmB_ok hrm) kk
theorem Cl.cSN (h : Cl own cc nL fr lo rc rs sc isI J) (as rest : List AV) (st1 : List AV) (hd : decode cc pc = .ok (.invokestatic idx, 3)) (hl : LkSN own idx y bytes maxL rt n) (hc : Ct y bytes maxL rt fr1 lo1 0 0 as wl L Sc Sm r wl L Sc' Sm') (h0 : st0 = as.reverse ++ rest) (h1 : r.toList ++ rest = st1) (hn : as.length = n) (hrm : rmB fr lo rc rs fr1 lo1 maxL ce sz rest.length = true) (kk : J (pc + 3) lv st1 wl L ce sz Sc' Sm') : J pc lv st0 wl L ce sz Sc Sm := by
  subst h0
  subst h1
  obtain ⟨hl, hi⟩ := hl
  exact h.callSN hd hl hi hc hn (rmB_ok hrm) kk
/-- fewer locals known -/
def lsub : Lv → Lv → Prop
  | [], _ => True
  | none :: l, _ :: l' => lsub l l'
  | some v :: l, w :: l' => w = some v ∧ lsub l l'
  | _ :: _, [] => False
theorem lsub_gl : ∀ {a b : Lv}, lsub a b → ∀ (k : Nat) (v : AV), gl a k = some v → gl b k = some v
  | [], _, _, k, v, h => by cases h
  | none :: l, w :: l', hs, k, v, h => by
    cases k with
    | zero => cases h
    | succ k => exact lsub_gl (a := l) (b := l') hs k v h
  | some u :: l, w :: l', hs, k, v, h => by
    cases k with
    | zero =>
      have e : u = v := Option.some.inj h
      show w = some v
      rw [hs.1, e]
    | succ k => exact lsub_gl (a := l) (b := l') hs.2 k v h
theorem Cl.weak (h : Cl own cc nL fr lo rc rs sc isI J) (lv' : Lv) (hs : lsub lv' lv) (kk : J pc lv' st0 wl L ce sz Sc Sm) : J pc lv st0 wl L ce sz Sc Sm := by
  obtain ⟨p, l, e, R, s, m, args, below, meth, c, Q, D, tc, sa, A, Ts, wp, ap, ⟨⟨hx, hb, hml, hown, hts⟩, hG, hE, hA, hX⟩, ⟨hRf, hRl, hRc, hRs⟩, hI, rfl⟩ := h
  intro o1 o2 w1 ad H locs ls w2 hW hS hL
  exact kk (fun k v hk => o1 k v (lsub_gl hs k v hk)) o2 w1 ad H locs ls w2 hW hS (LH.of hL.1 hL.2.1 (fun k v hk => hL.at (lsub_gl hs k v hk)))
end RW
end
section
/-! ===== the settled world ===== -/
def wl0 : Obs := [(11, 0), (0, 0), (13, 0), (14, 0), (1, 0), (16, 0), (2, 0), (17, 0), (18, 0), (19, 0), (20, 0), (3, 0), (21, 0), (22, 0), (23, 0), (24, 0), (25, 0), (15, 0), (6, 0), (6, 1), (6, 2), (6, 3), (6, 4), (6, 5), (6, 6), (6, 7), (6, 8), (6, 9), (6, 10), (6, 11), (5, 0), (5, 1), (5, 2), (5, 3), (5, 4), (5, 5), (5, 6), (5, 7), (5, 8), (5, 9), (5, 10), (5, 11), (0, 1), (13, 1), (14, 1), (1, 1), (16, 1), (2, 1), (17, 1), (18, 1), (19, 1), (20, 1), (3, 1), (21, 1), (22, 1), (23, 1), (24, 1), (25, 1), (15, 1), (6, 12), (6, 13), (6, 14), (6, 15), (6, 16), (6, 17), (6, 18), (6, 19), (6, 20), (6, 21), (6, 22), (6, 23), (5, 12), (5, 13), (5, 14), (5, 15), (5, 16), (5, 17), (5, 18), (5, 19), (5, 20), (5, 21), (5, 22), (5, 23), (7, 0), (27, 0), (4, 0), (3, 2), (21, 2), (22, 2), (23, 2), (24, 2), (25, 2), (9, 0), (26, 0), (10, 0), (29, 0), (30, 0), (5, 25), (5, 26), (5, 27), (5, 28), (5, 29), (5, 30), (5, 31), (5, 32), (5, 33), (5, 34), (8, 0), (28, 0), (5, 24), (12, 0), (60, 0), (61, 0), (62, 0), (63, 0), (64, 0), (65, 0), (66, 0), (67, 0), (68, 0), (69, 0), (70, 0), (71, 0), (72, 0), (73, 0), (74, 0), (75, 0), (76, 0), (77, 0), (78, 0), (79, 0), (80, 0), (81, 0), (82, 0), (83, 0), (84, 0), (85, 0), (86, 0), (87, 0), (88, 0), (89, 0)]
theorem L0_13 {i j : Nat} (h : j < 12) : L0 13 i j = some (6, (12 * i + j)) := if_pos h
theorem L0_13_0 {j : Nat} (h : j < 12) : L0 13 0 j = some (6, j) := (L0_13 h).trans (by rw [Nat.mul_zero, Nat.zero_add])
theorem aq_13 : ak 13 = 3 ∨ ak 13 = 4 := by decide
theorem L0_14 {i j : Nat} (h : j < 12) : L0 14 i j = some (5, (12 * i + j)) := if_pos h
theorem L0_14_0 {j : Nat} (h : j < 12) : L0 14 0 j = some (5, j) := (L0_14 h).trans (by rw [Nat.mul_zero, Nat.zero_add])
theorem aq_14 : ak 14 = 3 ∨ ak 14 = 4 := by decide
theorem al_15 : AL 0 15 9 false := ⟨rfl, rfl, rfl⟩
theorem al_16 : AL 0 16 600 false := ⟨rfl, rfl, rfl⟩
theorem al_17 : AL 0 17 6 false := ⟨rfl, rfl, rfl⟩
theorem al_18 : AL 0 18 6 false := ⟨rfl, rfl, rfl⟩
theorem al_19 : AL 0 19 6 false := ⟨rfl, rfl, rfl⟩
theorem al_20 : AL 0 20 6 false := ⟨rfl, rfl, rfl⟩
theorem al_21 : AL 0 21 400 false := ⟨rfl, rfl, rfl⟩
theorem al_22 : AL 0 22 16 false := ⟨rfl, rfl, rfl⟩
theorem al_23 : AL 0 23 16 false := ⟨rfl, rfl, rfl⟩
theorem al_24 : AL 0 24 16 false := ⟨rfl, rfl, rfl⟩
theorem al_25 : AL 0 25 40 false := ⟨rfl, rfl, rfl⟩
theorem al_26 : AL 0 26 40 false := ⟨rfl, rfl, rfl⟩
theorem al_27 : AL 1 27 400 false := ⟨rfl, rfl, rfl⟩
theorem al_28 : AL 0 28 12 false := ⟨rfl, rfl, rfl⟩
theorem L0_29 {i j : Nat} (h : j < 10) : L0 29 i j = some (5, (25 + j)) := if_pos h
theorem aq_29 : ak 29 = 3 ∨ ak 29 = 4 := by decide
theorem al_30 : AL 2 30 10 false := ⟨rfl, rfl, rfl⟩
theorem al_60 : AL 0 60 12 true := ⟨rfl, rfl, rfl⟩
theorem al_61 : AL 0 61 12 true := ⟨rfl, rfl, rfl⟩
theorem al_62 : AL 0 62 12 true := ⟨rfl, rfl, rfl⟩
theorem al_63 : AL 0 63 12 true := ⟨rfl, rfl, rfl⟩
theorem al_64 : AL 0 64 12 true := ⟨rfl, rfl, rfl⟩
theorem al_65 : AL 0 65 13 true := ⟨rfl, rfl, rfl⟩
theorem al_66 : AL 0 66 13 true := ⟨rfl, rfl, rfl⟩
theorem al_67 : AL 0 67 13 true := ⟨rfl, rfl, rfl⟩
theorem al_68 : AL 0 68 13 true := ⟨rfl, rfl, rfl⟩
theorem al_69 : AL 0 69 13 true := ⟨rfl, rfl, rfl⟩
theorem al_70 : AL 0 70 13 true := ⟨rfl, rfl, rfl⟩
theorem al_71 : AL 0 71 12 true := ⟨rfl, rfl, rfl⟩
theorem al_72 : AL 0 72 600 true := ⟨rfl, rfl, rfl⟩
theorem al_73 : AL 0 73 400 true := ⟨rfl, rfl, rfl⟩
theorem al_74 : AL 0 74 67 true := ⟨rfl, rfl, rfl⟩
theorem al_75 : AL 0 75 32 true := ⟨rfl, rfl, rfl⟩
theorem al_76 : AL 0 76 32 true := ⟨rfl, rfl, rfl⟩
theorem al_77 : AL 0 77 32 true := ⟨rfl, rfl, rfl⟩
theorem al_78 : AL 0 78 800 true := ⟨rfl, rfl, rfl⟩
theorem al_79 : AL 0 79 800 true := ⟨rfl, rfl, rfl⟩
theorem al_80 : AL 0 80 40 true := ⟨rfl, rfl, rfl⟩
theorem al_81 : AL 0 81 9 true := ⟨rfl, rfl, rfl⟩
theorem al_82 : AL 0 82 420 true := ⟨rfl, rfl, rfl⟩
theorem al_83 : AL 0 83 60 true := ⟨rfl, rfl, rfl⟩
theorem al_84 : AL 0 84 6 true := ⟨rfl, rfl, rfl⟩
theorem al_85 : AL 0 85 6 true := ⟨rfl, rfl, rfl⟩
theorem al_86 : AL 0 86 6 true := ⟨rfl, rfl, rfl⟩
theorem al_87 : AL 0 87 6 true := ⟨rfl, rfl, rfl⟩
theorem al_88 : AL 0 88 12 true := ⟨rfl, rfl, rfl⟩
theorem al_89 : AL 0 89 1900 true := ⟨rfl, rfl, rfl⟩
/-! ===== numbers ===== -/
theorem ic_m8 : Int32.ofInt (-8) = (-8) := by decide
theorem ic_m1 : Int32.ofInt (-1) = (-1) := by decide
theorem ic_0 : Int32.ofInt (0) = 0 := by decide
theorem ic_1 : Int32.ofInt (1) = 1 := by decide
theorem ic_2 : Int32.ofInt (2) = 2 := by decide
theorem ic_3 : Int32.ofInt (3) = 3 := by decide
theorem ic_4 : Int32.ofInt (4) = 4 := by decide
theorem ic_5 : Int32.ofInt (5) = 5 := by decide
theorem ic_8 : Int32.ofInt (8) = 8 := by decide
theorem ic_16 : Int32.ofInt (16) = 16 := by decide
theorem bc_m7 : (Int8.ofInt (-7)).toInt32 = (-7) := by decide
theorem bc_m2 : (Int8.ofInt (-2)).toInt32 = (-2) := by decide
theorem bc_6 : (Int8.ofInt (6)).toInt32 = 6 := by decide
theorem bc_7 : (Int8.ofInt (7)).toInt32 = 7 := by decide
theorem bc_8 : (Int8.ofInt (8)).toInt32 = 8 := by decide
theorem bc_9 : (Int8.ofInt (9)).toInt32 = 9 := by decide
theorem bc_10 : (Int8.ofInt (10)).toInt32 = 10 := by decide
theorem bc_11 : (Int8.ofInt (11)).toInt32 = 11 := by decide
theorem bc_12 : (Int8.ofInt (12)).toInt32 = 12 := by decide
theorem bc_13 : (Int8.ofInt (13)).toInt32 = 13 := by decide
theorem bc_16 : (Int8.ofInt (16)).toInt32 = 16 := by decide
theorem bc_17 : (Int8.ofInt (17)).toInt32 = 17 := by decide
theorem bc_18 : (Int8.ofInt (18)).toInt32 = 18 := by decide
theorem bc_20 : (Int8.ofInt (20)).toInt32 = 20 := by decide
theorem bc_21 : (Int8.ofInt (21)).toInt32 = 21 := by decide
theorem bc_22 : (Int8.ofInt (22)).toInt32 = 22 := by decide
theorem bc_23 : (Int8.ofInt (23)).toInt32 = 23 := by decide
theorem bc_24 : (Int8.ofInt (24)).toInt32 = 24 := by decide
theorem bc_26 : (Int8.ofInt (26)).toInt32 = 26 := by decide
theorem bc_32 : (Int8.ofInt (32)).toInt32 = 32 := by decide
theorem bc_40 : (Int8.ofInt (40)).toInt32 = 40 := by decide
theorem bc_41 : (Int8.ofInt (41)).toInt32 = 41 := by decide
theorem bc_42 : (Int8.ofInt (42)).toInt32 = 42 := by decide
theorem bc_43 : (Int8.ofInt (43)).toInt32 = 43 := by decide
theorem bc_45 : (Int8.ofInt (45)).toInt32 = 45 := by decide
theorem bc_47 : (Int8.ofInt (47)).toInt32 = 47 := by decide
theorem bc_48 : (Int8.ofInt (48)).toInt32 = 48 := by decide
theorem bc_57 : (Int8.ofInt (57)).toInt32 = 57 := by decide
theorem bc_59 : (Int8.ofInt (59)).toInt32 = 59 := by decide
theorem bc_60 : (Int8.ofInt (60)).toInt32 = 60 := by decide
theorem bc_61 : (Int8.ofInt (61)).toInt32 = 61 := by decide
theorem bc_62 : (Int8.ofInt (62)).toInt32 = 62 := by decide
theorem bc_63 : (Int8.ofInt (63)).toInt32 = 63 := by decide
theorem bc_65 : (Int8.ofInt (65)).toInt32 = 65 := by decide
theorem bc_66 : (Int8.ofInt (66)).toInt32 = 66 := by decide
theorem bc_90 : (Int8.ofInt (90)).toInt32 = 90 := by decide
theorem bc_97 : (Int8.ofInt (97)).toInt32 = 97 := by decide
theorem bc_99 : (Int8.ofInt (99)).toInt32 = 99 := by decide
theorem bc_120 : (Int8.ofInt (120)).toInt32 = 120 := by decide
theorem bc_122 : (Int8.ofInt (122)).toInt32 = 122 := by decide
theorem sc_255 : (Int16.ofInt (255)).toInt32 = 255 := by decide
theorem sc_256 : (Int16.ofInt (256)).toInt32 = 256 := by decide
theorem sc_365 : (Int16.ofInt (365)).toInt32 = 365 := by decide
theorem sc_380 : (Int16.ofInt (380)).toInt32 = 380 := by decide
theorem sc_400 : (Int16.ofInt (400)).toInt32 = 400 := by decide
theorem sc_600 : (Int16.ofInt (600)).toInt32 = 600 := by decide
theorem sc_999 : (Int16.ofInt (999)).toInt32 = 999 := by decide
theorem sc_4096 : (Int16.ofInt (4096)).toInt32 = 4096 := by decide
theorem sc_9999 : (Int16.ofInt (9999)).toInt32 = 9999 := by decide
theorem sc_10000 : (Int16.ofInt (10000)).toInt32 = 10000 := by decide
/-! ===== the classes ===== -/
theorem lay_0 : ∀ j, j < 11 → lw_tbl[([292, 294, 296, 298, 300, 302, 304, 306, 308, 310, 312] : List Nat).getD j 0]? = some (u_lay RX0 TX0 j) := by decide +kernel
theorem gl_0 : ∀ j, j < 11 → goodWord (u_lay RX0 TX0 j) = true := by decide +kernel
theorem tk_0 : ∀ j, j < nsl 0 → (isRf 0 j = false → tyX0 j = .int ∨ tyX0 j = .boolean) ∧ (isRf 0 j = true → (∃ n, tyX0 j = .object n) ∨ ∃ t, tyX0 j = .array t) := by
  intro j hj
  have hj : j < 11 := hj
  match j, hj with
  | 0, _ => exact ⟨fun h => (by cases h), fun _ => Or.inr ⟨_, rfl⟩⟩
  | 1, _ => exact ⟨fun h => (by cases h), fun _ => Or.inr ⟨_, rfl⟩⟩
  | 2, _ => exact ⟨fun h => (by cases h), fun _ => Or.inl ⟨_, rfl⟩⟩
  | 3, _ => exact ⟨fun h => (by cases h), fun _ => Or.inl ⟨_, rfl⟩⟩
  | 4, _ => exact ⟨fun h => (by cases h), fun _ => Or.inl ⟨_, rfl⟩⟩
  | 5, _ => exact ⟨fun h => (by cases h), fun _ => Or.inr ⟨_, rfl⟩⟩
  | 6, _ => exact ⟨fun _ => Or.inl rfl, fun h => by cases h⟩
  | 7, _ => exact ⟨fun _ => Or.inl rfl, fun h => by cases h⟩
  | 8, _ => exact ⟨fun _ => Or.inl rfl, fun h => by cases h⟩
  | 9, _ => exact ⟨fun _ => Or.inl rfl, fun h => by cases h⟩
  | 10, _ => exact ⟨fun _ => Or.inl rfl, fun h => by cases h⟩
theorem kc_0 : KC 0 RX0 TX0 tyX0 := ⟨rfl, by decide, fun w hw => by obtain ⟨j, hj, rfl⟩ := List.mem_map.mp hw; exact mg _ (lay_0 j (List.mem_range.mp hj)) (gl_0 j (List.mem_range.mp hj)), tyX0_ok, nmX0, tk_0⟩
theorem lay_1 : ∀ j, j < 2 → lw_tbl[([126, 128] : List Nat).getD j 0]? = some (u_lay RX1 TX1 j) := by decide +kernel
theorem gl_1 : ∀ j, j < 2 → goodWord (u_lay RX1 TX1 j) = true := by decide +kernel
theorem tk_1 : ∀ j, j < nsl 1 → (isRf 1 j = false → tyX1 j = .int ∨ tyX1 j = .boolean) ∧ (isRf 1 j = true → (∃ n, tyX1 j = .object n) ∨ ∃ t, tyX1 j = .array t) := by
  intro j hj
  have hj : j < 2 := hj
  match j, hj with
  | 0, _ => exact ⟨fun h => (by cases h), fun _ => Or.inr ⟨_, rfl⟩⟩
  | 1, _ => exact ⟨fun _ => Or.inl rfl, fun h => by cases h⟩
theorem kc_1 : KC 1 RX1 TX1 tyX1 := ⟨rfl, by decide, fun w hw => by obtain ⟨j, hj, rfl⟩ := List.mem_map.mp hw; exact mg _ (lay_1 j (List.mem_range.mp hj)) (gl_1 j (List.mem_range.mp hj)), tyX1_ok, nmX1, tk_1⟩
theorem lay_2 : ∀ j, j < 5 → lw_tbl[([149, 151, 153, 155, 157] : List Nat).getD j 0]? = some (u_lay RX2 TX2 j) := by decide +kernel
theorem gl_2 : ∀ j, j < 5 → goodWord (u_lay RX2 TX2 j) = true := by decide +kernel
theorem tk_2 : ∀ j, j < nsl 2 → (isRf 2 j = false → tyX2 j = .int ∨ tyX2 j = .boolean) ∧ (isRf 2 j = true → (∃ n, tyX2 j = .object n) ∨ ∃ t, tyX2 j = .array t) := by
  intro j hj
  have hj : j < 5 := hj
  match j, hj with
  | 0, _ => exact ⟨fun h => (by cases h), fun _ => Or.inr ⟨_, rfl⟩⟩
  | 1, _ => exact ⟨fun h => (by cases h), fun _ => Or.inr ⟨_, rfl⟩⟩
  | 2, _ => exact ⟨fun h => (by cases h), fun _ => Or.inr ⟨_, rfl⟩⟩
  | 3, _ => exact ⟨fun h => (by cases h), fun _ => Or.inr ⟨_, rfl⟩⟩
  | 4, _ => exact ⟨fun _ => Or.inl rfl, fun h => by cases h⟩
theorem kc_2 : KC 2 RX2 TX2 tyX2 := ⟨rfl, by decide, fun w hw => by obtain ⟨j, hj, rfl⟩ := List.mem_map.mp hw; exact mg _ (lay_2 j (List.mem_range.mp hj)) (gl_2 j (List.mem_range.mp hj)), tyX2_ok, nmX2, tk_2⟩
theorem lay_3 : ∀ j, j < 7 → lw_tbl[([174, 176, 178, 180, 182, 184, 186] : List Nat).getD j 0]? = some (u_lay RX3 TX3 j) := by decide +kernel
theorem gl_3 : ∀ j, j < 7 → goodWord (u_lay RX3 TX3 j) = true := by decide +kernel
theorem tk_3 : ∀ j, j < nsl 3 → (isRf 3 j = false → tyX3 j = .int ∨ tyX3 j = .boolean) ∧ (isRf 3 j = true → (∃ n, tyX3 j = .object n) ∨ ∃ t, tyX3 j = .array t) := by
  intro j hj
  have hj : j < 7 := hj
  match j, hj with
  | 0, _ => exact ⟨fun h => (by cases h), fun _ => Or.inr ⟨_, rfl⟩⟩
  | 1, _ => exact ⟨fun h => (by cases h), fun _ => Or.inr ⟨_, rfl⟩⟩
  | 2, _ => exact ⟨fun h => (by cases h), fun _ => Or.inr ⟨_, rfl⟩⟩
  | 3, _ => exact ⟨fun h => (by cases h), fun _ => Or.inr ⟨_, rfl⟩⟩
  | 4, _ => exact ⟨fun h => (by cases h), fun _ => Or.inr ⟨_, rfl⟩⟩
  | 5, _ => exact ⟨fun _ => Or.inl rfl, fun h => by cases h⟩
  | 6, _ => exact ⟨fun _ => Or.inl rfl, fun h => by cases h⟩
theorem kc_3 : KC 3 RX3 TX3 tyX3 := ⟨rfl, by decide, fun w hw => by obtain ⟨j, hj, rfl⟩ := List.mem_map.mp hw; exact mg _ (lay_3 j (List.mem_range.mp hj)) (gl_3 j (List.mem_range.mp hj)), tyX3_ok, nmX3, tk_3⟩
theorem lay_4 : ∀ j, j < 9 → lw_tbl[([373, 375, 377, 379, 381, 383, 385, 387, 389] : List Nat).getD j 0]? = some (u_lay RX4 TX4 j) := by decide +kernel
theorem gl_4 : ∀ j, j < 9 → goodWord (u_lay RX4 TX4 j) = true := by decide +kernel
theorem tk_4 : ∀ j, j < nsl 4 → (isRf 4 j = false → tyX4 j = .int ∨ tyX4 j = .boolean) ∧ (isRf 4 j = true → (∃ n, tyX4 j = .object n) ∨ ∃ t, tyX4 j = .array t) := by
  intro j hj
  have hj : j < 9 := hj
  match j, hj with
  | 0, _ => exact ⟨fun h => (by cases h), fun _ => Or.inl ⟨_, rfl⟩⟩
  | 1, _ => exact ⟨fun h => (by cases h), fun _ => Or.inl ⟨_, rfl⟩⟩
  | 2, _ => exact ⟨fun h => (by cases h), fun _ => Or.inr ⟨_, rfl⟩⟩
  | 3, _ => exact ⟨fun _ => Or.inl rfl, fun h => by cases h⟩
  | 4, _ => exact ⟨fun _ => Or.inl rfl, fun h => by cases h⟩
  | 5, _ => exact ⟨fun _ => Or.inl rfl, fun h => by cases h⟩
  | 6, _ => exact ⟨fun _ => Or.inr rfl, fun h => by cases h⟩
  | 7, _ => exact ⟨fun _ => Or.inl rfl, fun h => by cases h⟩
  | 8, _ => exact ⟨fun _ => Or.inl rfl, fun h => by cases h⟩
theorem kc_4 : KC 4 RX4 TX4 tyX4 := ⟨rfl, by decide, fun w hw => by obtain ⟨j, hj, rfl⟩ := List.mem_map.mp hw; exact mg _ (lay_4 j (List.mem_range.mp hj)) (gl_4 j (List.mem_range.mp hj)), tyX4_ok, nmX4, tk_4⟩
theorem lay_5 : ∀ j, j < 8 → lw_tbl[([249, 251, 253, 255, 257, 259, 261, 263] : List Nat).getD j 0]? = some (u_lay RX5 TX5 j) := by decide +kernel
theorem gl_5 : ∀ j, j < 8 → goodWord (u_lay RX5 TX5 j) = true := by decide +kernel
theorem tk_5 : ∀ j, j < nsl 5 → (isRf 5 j = false → tyX5 j = .int ∨ tyX5 j = .boolean) ∧ (isRf 5 j = true → (∃ n, tyX5 j = .object n) ∨ ∃ t, tyX5 j = .array t) := by
  intro j hj
  have hj : j < 8 := hj
  match j, hj with
  | 0, _ => exact ⟨fun _ => Or.inl rfl, fun h => by cases h⟩
  | 1, _ => exact ⟨fun _ => Or.inl rfl, fun h => by cases h⟩
  | 2, _ => exact ⟨fun _ => Or.inl rfl, fun h => by cases h⟩
  | 3, _ => exact ⟨fun _ => Or.inl rfl, fun h => by cases h⟩
  | 4, _ => exact ⟨fun _ => Or.inl rfl, fun h => by cases h⟩
  | 5, _ => exact ⟨fun _ => Or.inl rfl, fun h => by cases h⟩
  | 6, _ => exact ⟨fun _ => Or.inl rfl, fun h => by cases h⟩
  | 7, _ => exact ⟨fun _ => Or.inl rfl, fun h => by cases h⟩
theorem kc_5 : KC 5 RX5 TX5 tyX5 := ⟨rfl, by decide, fun w hw => by obtain ⟨j, hj, rfl⟩ := List.mem_map.mp hw; exact mg _ (lay_5 j (List.mem_range.mp hj)) (gl_5 j (List.mem_range.mp hj)), tyX5_ok, nmX5, tk_5⟩
theorem lay_6 : ∀ j, j < 5 → lw_tbl[([207, 209, 211, 213, 215] : List Nat).getD j 0]? = some (u_lay RX6 TX6 j) := by decide +kernel
theorem gl_6 : ∀ j, j < 5 → goodWord (u_lay RX6 TX6 j) = true := by decide +kernel
theorem tk_6 : ∀ j, j < nsl 6 → (isRf 6 j = false → tyX6 j = .int ∨ tyX6 j = .boolean) ∧ (isRf 6 j = true → (∃ n, tyX6 j = .object n) ∨ ∃ t, tyX6 j = .array t) := by
  intro j hj
  have hj : j < 5 := hj
  match j, hj with
  | 0, _ => exact ⟨fun _ => Or.inl rfl, fun h => by cases h⟩
  | 1, _ => exact ⟨fun _ => Or.inl rfl, fun h => by cases h⟩
  | 2, _ => exact ⟨fun _ => Or.inl rfl, fun h => by cases h⟩
  | 3, _ => exact ⟨fun _ => Or.inl rfl, fun h => by cases h⟩
  | 4, _ => exact ⟨fun _ => Or.inl rfl, fun h => by cases h⟩
theorem kc_6 : KC 6 RX6 TX6 tyX6 := ⟨rfl, by decide, fun w hw => by obtain ⟨j, hj, rfl⟩ := List.mem_map.mp hw; exact mg _ (lay_6 j (List.mem_range.mp hj)) (gl_6 j (List.mem_range.mp hj)), tyX6_ok, nmX6, tk_6⟩
theorem lay_7 : ∀ j, j < 2 → lw_tbl[([325, 327] : List Nat).getD j 0]? = some (u_lay RX7 TX7 j) := by decide +kernel
theorem gl_7 : ∀ j, j < 2 → goodWord (u_lay RX7 TX7 j) = true := by decide +kernel
theorem tk_7 : ∀ j, j < nsl 7 → (isRf 7 j = false → tyX7 j = .int ∨ tyX7 j = .boolean) ∧ (isRf 7 j = true → (∃ n, tyX7 j = .object n) ∨ ∃ t, tyX7 j = .array t) := by
  intro j hj
  have hj : j < 2 := hj
  match j, hj with
  | 0, _ => exact ⟨fun h => (by cases h), fun _ => Or.inr ⟨_, rfl⟩⟩
  | 1, _ => exact ⟨fun _ => Or.inl rfl, fun h => by cases h⟩
theorem kc_7 : KC 7 RX7 TX7 tyX7 := ⟨rfl, by decide, fun w hw => by obtain ⟨j, hj, rfl⟩ := List.mem_map.mp hw; exact mg _ (lay_7 j (List.mem_range.mp hj)) (gl_7 j (List.mem_range.mp hj)), tyX7_ok, nmX7, tk_7⟩
theorem lay_8 : ∀ j, j < 5 → lw_tbl[([431, 433, 435, 437, 439] : List Nat).getD j 0]? = some (u_lay RX8 TX8 j) := by decide +kernel
theorem gl_8 : ∀ j, j < 5 → goodWord (u_lay RX8 TX8 j) = true := by decide +kernel
theorem tk_8 : ∀ j, j < nsl 8 → (isRf 8 j = false → tyX8 j = .int ∨ tyX8 j = .boolean) ∧ (isRf 8 j = true → (∃ n, tyX8 j = .object n) ∨ ∃ t, tyX8 j = .array t) := by
  intro j hj
  have hj : j < 5 := hj
  match j, hj with
  | 0, _ => exact ⟨fun h => (by cases h), fun _ => Or.inr ⟨_, rfl⟩⟩
  | 1, _ => exact ⟨fun h => (by cases h), fun _ => Or.inl ⟨_, rfl⟩⟩
  | 2, _ => exact ⟨fun _ => Or.inl rfl, fun h => by cases h⟩
  | 3, _ => exact ⟨fun _ => Or.inl rfl, fun h => by cases h⟩
  | 4, _ => exact ⟨fun _ => Or.inl rfl, fun h => by cases h⟩
theorem kc_8 : KC 8 RX8 TX8 tyX8 := ⟨rfl, by decide, fun w hw => by obtain ⟨j, hj, rfl⟩ := List.mem_map.mp hw; exact mg _ (lay_8 j (List.mem_range.mp hj)) (gl_8 j (List.mem_range.mp hj)), tyX8_ok, nmX8, tk_8⟩
theorem lay_9 : ∀ j, j < 4 → lw_tbl[([352, 354, 356, 358] : List Nat).getD j 0]? = some (u_lay RX9 TX9 j) := by decide +kernel
theorem gl_9 : ∀ j, j < 4 → goodWord (u_lay RX9 TX9 j) = true := by decide +kernel
theorem tk_9 : ∀ j, j < nsl 9 → (isRf 9 j = false → tyX9 j = .int ∨ tyX9 j = .boolean) ∧ (isRf 9 j = true → (∃ n, tyX9 j = .object n) ∨ ∃ t, tyX9 j = .array t) := by
  intro j hj
  have hj : j < 4 := hj
  match j, hj with
  | 0, _ => exact ⟨fun _ => Or.inl rfl, fun h => by cases h⟩
  | 1, _ => exact ⟨fun _ => Or.inl rfl, fun h => by cases h⟩
  | 2, _ => exact ⟨fun _ => Or.inl rfl, fun h => by cases h⟩
  | 3, _ => exact ⟨fun _ => Or.inl rfl, fun h => by cases h⟩
theorem kc_9 : KC 9 RX9 TX9 tyX9 := ⟨rfl, by decide, fun w hw => by obtain ⟨j, hj, rfl⟩ := List.mem_map.mp hw; exact mg _ (lay_9 j (List.mem_range.mp hj)) (gl_9 j (List.mem_range.mp hj)), tyX9_ok, nmX9, tk_9⟩
theorem lay_10 : ∀ j, j < 4 → lw_tbl[([405, 407, 409, 411] : List Nat).getD j 0]? = some (u_lay RX10 TX10 j) := by decide +kernel
theorem gl_10 : ∀ j, j < 4 → goodWord (u_lay RX10 TX10 j) = true := by decide +kernel
theorem tk_10 : ∀ j, j < nsl 10 → (isRf 10 j = false → tyX10 j = .int ∨ tyX10 j = .boolean) ∧ (isRf 10 j = true → (∃ n, tyX10 j = .object n) ∨ ∃ t, tyX10 j = .array t) := by
  intro j hj
  have hj : j < 4 := hj
  match j, hj with
  | 0, _ => exact ⟨fun h => (by cases h), fun _ => Or.inr ⟨_, rfl⟩⟩
  | 1, _ => exact ⟨fun h => (by cases h), fun _ => Or.inr ⟨_, rfl⟩⟩
  | 2, _ => exact ⟨fun _ => Or.inl rfl, fun h => by cases h⟩
  | 3, _ => exact ⟨fun _ => Or.inl rfl, fun h => by cases h⟩
theorem kc_10 : KC 10 RX10 TX10 tyX10 := ⟨rfl, by decide, fun w hw => by obtain ⟨j, hj, rfl⟩ := List.mem_map.mp hw; exact mg _ (lay_10 j (List.mem_range.mp hj)) (gl_10 j (List.mem_range.mp hj)), tyX10_ok, nmX10, tk_10⟩
theorem lay_11 : ∀ j, j < 7 → lw_tbl[([449, 451, 453, 455, 457, 459, 461] : List Nat).getD j 0]? = some (u_lay RX11 TX11 j) := by decide +kernel
theorem gl_11 : ∀ j, j < 7 → goodWord (u_lay RX11 TX11 j) = true := by decide +kernel
theorem tk_11 : ∀ j, j < nsl 11 → (isRf 11 j = false → tyX11 j = .int ∨ tyX11 j = .boolean) ∧ (isRf 11 j = true → (∃ n, tyX11 j = .object n) ∨ ∃ t, tyX11 j = .array t) := by
  intro j hj
  have hj : j < 7 := hj
  match j, hj with
  | 0, _ => exact ⟨fun h => (by cases h), fun _ => Or.inl ⟨_, rfl⟩⟩
  | 1, _ => exact ⟨fun h => (by cases h), fun _ => Or.inl ⟨_, rfl⟩⟩
  | 2, _ => exact ⟨fun _ => Or.inr rfl, fun h => by cases h⟩
  | 3, _ => exact ⟨fun h => (by cases h), fun _ => Or.inl ⟨_, rfl⟩⟩
  | 4, _ => exact ⟨fun h => (by cases h), fun _ => Or.inl ⟨_, rfl⟩⟩
  | 5, _ => exact ⟨fun h => (by cases h), fun _ => Or.inl ⟨_, rfl⟩⟩
  | 6, _ => exact ⟨fun h => (by cases h), fun _ => Or.inl ⟨_, rfl⟩⟩
theorem kc_11 : KC 11 RX11 TX11 tyX11 := ⟨rfl, by decide, fun w hw => by obtain ⟨j, hj, rfl⟩ := List.mem_map.mp hw; exact mg _ (lay_11 j (List.mem_range.mp hj)) (gl_11 j (List.mem_range.mp hj)), tyX11_ok, nmX11, tk_11⟩
theorem lay_12 : ∀ j, j < 55 → lw_tbl[([1167, 1169, 1171, 1173, 1175, 1177, 1179, 1181, 1183, 1185, 1187, 1189, 1191, 1193, 1195, 1197, 1199, 1201, 1203, 1205, 1207, 1209, 1211, 1213, 1215, 1217, 1219, 1221, 1223, 1225, 1227, 1229, 1231, 1233, 1235, 1237, 1239, 1241, 1243, 1245, 1247, 1249, 1251, 1253, 1255, 1257, 1259, 1261, 1263, 1265, 1267, 1269, 1271, 1273, 1275] : List Nat).getD j 0]? = some (u_lay RX12 TX12 j) := by decide +kernel
theorem gl_12 : ∀ j, j < 55 → goodWord (u_lay RX12 TX12 j) = true := by decide +kernel
theorem tk_12 : ∀ j, j < nsl 12 → (isRf 12 j = false → tyX12 j = .int ∨ tyX12 j = .boolean) ∧ (isRf 12 j = true → (∃ n, tyX12 j = .object n) ∨ ∃ t, tyX12 j = .array t) := by
  intro j hj
  have hj : j < 55 := hj
  match j, hj with
  | 0, _ => exact ⟨fun _ => Or.inl rfl, fun h => by cases h⟩
  | 1, _ => exact ⟨fun _ => Or.inl rfl, fun h => by cases h⟩
  | 2, _ => exact ⟨fun _ => Or.inl rfl, fun h => by cases h⟩
  | 3, _ => exact ⟨fun _ => Or.inl rfl, fun h => by cases h⟩
  | 4, _ => exact ⟨fun h => (by cases h), fun _ => Or.inr ⟨_, rfl⟩⟩
  | 5, _ => exact ⟨fun h => (by cases h), fun _ => Or.inr ⟨_, rfl⟩⟩
  | 6, _ => exact ⟨fun h => (by cases h), fun _ => Or.inr ⟨_, rfl⟩⟩
  | 7, _ => exact ⟨fun h => (by cases h), fun _ => Or.inr ⟨_, rfl⟩⟩
  | 8, _ => exact ⟨fun h => (by cases h), fun _ => Or.inr ⟨_, rfl⟩⟩
  | 9, _ => exact ⟨fun _ => Or.inl rfl, fun h => by cases h⟩
  | 10, _ => exact ⟨fun _ => Or.inl rfl, fun h => by cases h⟩
  | 11, _ => exact ⟨fun h => (by cases h), fun _ => Or.inr ⟨_, rfl⟩⟩
  | 12, _ => exact ⟨fun h => (by cases h), fun _ => Or.inr ⟨_, rfl⟩⟩
  | 13, _ => exact ⟨fun h => (by cases h), fun _ => Or.inr ⟨_, rfl⟩⟩
  | 14, _ => exact ⟨fun h => (by cases h), fun _ => Or.inr ⟨_, rfl⟩⟩
  | 15, _ => exact ⟨fun h => (by cases h), fun _ => Or.inr ⟨_, rfl⟩⟩
  | 16, _ => exact ⟨fun h => (by cases h), fun _ => Or.inr ⟨_, rfl⟩⟩
  | 17, _ => exact ⟨fun h => (by cases h), fun _ => Or.inr ⟨_, rfl⟩⟩
  | 18, _ => exact ⟨fun _ => Or.inl rfl, fun h => by cases h⟩
  | 19, _ => exact ⟨fun h => (by cases h), fun _ => Or.inr ⟨_, rfl⟩⟩
  | 20, _ => exact ⟨fun h => (by cases h), fun _ => Or.inr ⟨_, rfl⟩⟩
  | 21, _ => exact ⟨fun _ => Or.inl rfl, fun h => by cases h⟩
  | 22, _ => exact ⟨fun _ => Or.inl rfl, fun h => by cases h⟩
  | 23, _ => exact ⟨fun _ => Or.inl rfl, fun h => by cases h⟩
  | 24, _ => exact ⟨fun _ => Or.inl rfl, fun h => by cases h⟩
  | 25, _ => exact ⟨fun _ => Or.inl rfl, fun h => by cases h⟩
  | 26, _ => exact ⟨fun h => (by cases h), fun _ => Or.inr ⟨_, rfl⟩⟩
  | 27, _ => exact ⟨fun _ => Or.inl rfl, fun h => by cases h⟩
  | 28, _ => exact ⟨fun h => (by cases h), fun _ => Or.inr ⟨_, rfl⟩⟩
  | 29, _ => exact ⟨fun h => (by cases h), fun _ => Or.inr ⟨_, rfl⟩⟩
  | 30, _ => exact ⟨fun h => (by cases h), fun _ => Or.inr ⟨_, rfl⟩⟩
  | 31, _ => exact ⟨fun h => (by cases h), fun _ => Or.inr ⟨_, rfl⟩⟩
  | 32, _ => exact ⟨fun h => (by cases h), fun _ => Or.inr ⟨_, rfl⟩⟩
  | 33, _ => exact ⟨fun _ => Or.inl rfl, fun h => by cases h⟩
  | 34, _ => exact ⟨fun _ => Or.inl rfl, fun h => by cases h⟩
  | 35, _ => exact ⟨fun h => (by cases h), fun _ => Or.inr ⟨_, rfl⟩⟩
  | 36, _ => exact ⟨fun _ => Or.inl rfl, fun h => by cases h⟩
  | 37, _ => exact ⟨fun _ => Or.inl rfl, fun h => by cases h⟩
  | 38, _ => exact ⟨fun _ => Or.inl rfl, fun h => by cases h⟩
  | 39, _ => exact ⟨fun _ => Or.inl rfl, fun h => by cases h⟩
  | 40, _ => exact ⟨fun _ => Or.inl rfl, fun h => by cases h⟩
  | 41, _ => exact ⟨fun h => (by cases h), fun _ => Or.inr ⟨_, rfl⟩⟩
  | 42, _ => exact ⟨fun h => (by cases h), fun _ => Or.inr ⟨_, rfl⟩⟩
  | 43, _ => exact ⟨fun h => (by cases h), fun _ => Or.inr ⟨_, rfl⟩⟩
  | 44, _ => exact ⟨fun _ => Or.inl rfl, fun h => by cases h⟩
  | 45, _ => exact ⟨fun _ => Or.inl rfl, fun h => by cases h⟩
  | 46, _ => exact ⟨fun h => (by cases h), fun _ => Or.inr ⟨_, rfl⟩⟩
  | 47, _ => exact ⟨fun h => (by cases h), fun _ => Or.inr ⟨_, rfl⟩⟩
  | 48, _ => exact ⟨fun h => (by cases h), fun _ => Or.inr ⟨_, rfl⟩⟩
  | 49, _ => exact ⟨fun h => (by cases h), fun _ => Or.inr ⟨_, rfl⟩⟩
  | 50, _ => exact ⟨fun h => (by cases h), fun _ => Or.inr ⟨_, rfl⟩⟩
  | 51, _ => exact ⟨fun _ => Or.inr rfl, fun h => by cases h⟩
  | 52, _ => exact ⟨fun _ => Or.inr rfl, fun h => by cases h⟩
  | 53, _ => exact ⟨fun _ => Or.inl rfl, fun h => by cases h⟩
  | 54, _ => exact ⟨fun h => (by cases h), fun _ => Or.inr ⟨_, rfl⟩⟩
theorem kc_12 : KC 12 RX12 TX12 tyX12 := ⟨rfl, by decide, fun w hw => by obtain ⟨j, hj, rfl⟩ := List.mem_map.mp hw; exact mg _ (lay_12 j (List.mem_range.mp hj)) (gl_12 j (List.mem_range.mp hj)), tyX12_ok, nmX12, tk_12⟩
/-! ===== fields ===== -/
theorem fr_X11_10 : FR RX11 10 11 0 := ⟨⟨_, _, _, kc_11, by decide, mg 442 (by decide +kernel) rfl⟩, rfl⟩
theorem fr_X11_16 : FR RX11 16 11 1 := ⟨⟨_, _, _, kc_11, by decide, mg 443 (by decide +kernel) rfl⟩, rfl⟩
theorem fi_X11_19 : FI RX11 19 11 2 := ⟨⟨_, _, _, kc_11, by decide, mg 444 (by decide +kernel) rfl⟩, rfl, rfl⟩
theorem fr_X11_26 : FR RX11 26 11 3 := ⟨⟨_, _, _, kc_11, by decide, mg 445 (by decide +kernel) rfl⟩, rfl⟩
theorem fr_X11_33 : FR RX11 33 11 4 := ⟨⟨_, _, _, kc_11, by decide, mg 446 (by decide +kernel) rfl⟩, rfl⟩
theorem fr_X11_40 : FR RX11 40 11 5 := ⟨⟨_, _, _, kc_11, by decide, mg 447 (by decide +kernel) rfl⟩, rfl⟩
theorem fr_X11_47 : FR RX11 47 11 6 := ⟨⟨_, _, _, kc_11, by decide, mg 448 (by decide +kernel) rfl⟩, rfl⟩
theorem fi_X11_51 : FI RX11 51 0 9 := ⟨⟨_, _, _, kc_0, by decide, mg 289 (by decide +kernel) rfl⟩, rfl, rfl⟩
theorem fi_X11_60 : FI RX11 60 0 6 := ⟨⟨_, _, _, kc_0, by decide, mg 281 (by decide +kernel) rfl⟩, rfl, rfl⟩
theorem fr_X11_66 : FR RX11 66 0 0 := ⟨⟨_, _, _, kc_0, by decide, mg 267 (by decide +kernel) rfl⟩, rfl⟩
theorem fi_X11_80 : FI RX11 80 0 8 := ⟨⟨_, _, _, kc_0, by decide, mg 287 (by decide +kernel) rfl⟩, rfl, rfl⟩
theorem fi_X11_90 : FI RX11 90 0 7 := ⟨⟨_, _, _, kc_0, by decide, mg 284 (by decide +kernel) rfl⟩, rfl, rfl⟩
theorem fr_X11_93 : FR RX11 93 0 1 := ⟨⟨_, _, _, kc_0, by decide, mg 270 (by decide +kernel) rfl⟩, rfl⟩
theorem fi_X11_106 : FI RX11 106 5 1 := ⟨⟨_, _, _, kc_5, by decide, mg 229 (by decide +kernel) rfl⟩, rfl, rfl⟩
theorem fr_X11_124 : FR RX11 124 0 2 := ⟨⟨_, _, _, kc_0, by decide, mg 272 (by decide +kernel) rfl⟩, rfl⟩
theorem fi_X11_148 : FI RX11 148 5 7 := ⟨⟨_, _, _, kc_5, by decide, mg 247 (by decide +kernel) rfl⟩, rfl, rfl⟩
theorem fi_X11_161 : FI RX11 161 7 1 := ⟨⟨_, _, _, kc_7, by decide, mg 324 (by decide +kernel) rfl⟩, rfl, rfl⟩
theorem fr_X11_168 : FR RX11 168 0 4 := ⟨⟨_, _, _, kc_0, by decide, mg 277 (by decide +kernel) rfl⟩, rfl⟩
theorem fr_X11_172 : FR RX11 172 4 0 := ⟨⟨_, _, _, kc_4, by decide, mg 362 (by decide +kernel) rfl⟩, rfl⟩
theorem fi_X11_181 : FI RX11 181 3 6 := ⟨⟨_, _, _, kc_3, by decide, mg 173 (by decide +kernel) rfl⟩, rfl, rfl⟩
theorem fi_X11_184 : FI RX11 184 4 7 := ⟨⟨_, _, _, kc_4, by decide, mg 370 (by decide +kernel) rfl⟩, rfl, rfl⟩
theorem fi_X11_187 : FI RX11 187 4 8 := ⟨⟨_, _, _, kc_4, by decide, mg 372 (by decide +kernel) rfl⟩, rfl, rfl⟩
theorem fi_X11_190 : FI RX11 190 5 2 := ⟨⟨_, _, _, kc_5, by decide, mg 233 (by decide +kernel) rfl⟩, rfl, rfl⟩
theorem fi_X11_193 : FI RX11 193 5 3 := ⟨⟨_, _, _, kc_5, by decide, mg 236 (by decide +kernel) rfl⟩, rfl, rfl⟩
theorem fi_X11_196 : FI RX11 196 5 4 := ⟨⟨_, _, _, kc_5, by decide, mg 239 (by decide +kernel) rfl⟩, rfl, rfl⟩
theorem fi_X11_199 : FI RX11 199 5 5 := ⟨⟨_, _, _, kc_5, by decide, mg 242 (by decide +kernel) rfl⟩, rfl, rfl⟩
theorem fi_X11_202 : FI RX11 202 5 6 := ⟨⟨_, _, _, kc_5, by decide, mg 245 (by decide +kernel) rfl⟩, rfl, rfl⟩
theorem fi_X11_210 : FI RX11 210 6 0 := ⟨⟨_, _, _, kc_6, by decide, mg 195 (by decide +kernel) rfl⟩, rfl, rfl⟩
theorem fi_X11_213 : FI RX11 213 6 1 := ⟨⟨_, _, _, kc_6, by decide, mg 198 (by decide +kernel) rfl⟩, rfl, rfl⟩
theorem fi_X11_216 : FI RX11 216 6 2 := ⟨⟨_, _, _, kc_6, by decide, mg 200 (by decide +kernel) rfl⟩, rfl, rfl⟩
theorem fi_X11_219 : FI RX11 219 6 3 := ⟨⟨_, _, _, kc_6, by decide, mg 203 (by decide +kernel) rfl⟩, rfl, rfl⟩
theorem fi_X11_222 : FI RX11 222 6 4 := ⟨⟨_, _, _, kc_6, by decide, mg 206 (by decide +kernel) rfl⟩, rfl, rfl⟩
theorem fr_X11_232 : FR RX11 232 0 3 := ⟨⟨_, _, _, kc_0, by decide, mg 275 (by decide +kernel) rfl⟩, rfl⟩
theorem fi_X11_262 : FI RX11 262 8 2 := ⟨⟨_, _, _, kc_8, by decide, mg 426 (by decide +kernel) rfl⟩, rfl, rfl⟩
theorem fi_X11_265 : FI RX11 265 8 3 := ⟨⟨_, _, _, kc_8, by decide, mg 428 (by decide +kernel) rfl⟩, rfl, rfl⟩
theorem fi_X11_268 : FI RX11 268 8 4 := ⟨⟨_, _, _, kc_8, by decide, mg 430 (by decide +kernel) rfl⟩, rfl, rfl⟩
theorem fi_X11_286 : FI RX11 286 10 3 := ⟨⟨_, _, _, kc_10, by decide, mg 404 (by decide +kernel) rfl⟩, rfl, rfl⟩
theorem fi_X11_294 : FI RX11 294 5 0 := ⟨⟨_, _, _, kc_5, by decide, mg 226 (by decide +kernel) rfl⟩, rfl, rfl⟩
theorem fi_X11_305 : FI RX11 305 1 1 := ⟨⟨_, _, _, kc_1, by decide, mg 125 (by decide +kernel) rfl⟩, rfl, rfl⟩
theorem fi_X11_306 : FI RX11 306 2 4 := ⟨⟨_, _, _, kc_2, by decide, mg 148 (by decide +kernel) rfl⟩, rfl, rfl⟩
theorem fi_X11_307 : FI RX11 307 0 10 := ⟨⟨_, _, _, kc_0, by decide, mg 291 (by decide +kernel) rfl⟩, rfl, rfl⟩
theorem fr_X0_11 : FR RX0 11 0 0 := ⟨⟨_, _, _, kc_0, by decide, mg 266 (by decide +kernel) rfl⟩, rfl⟩
theorem fr_X0_19 : FR RX0 19 0 1 := ⟨⟨_, _, _, kc_0, by decide, mg 268 (by decide +kernel) rfl⟩, rfl⟩
theorem fr_X0_26 : FR RX0 26 0 2 := ⟨⟨_, _, _, kc_0, by decide, mg 271 (by decide +kernel) rfl⟩, rfl⟩
theorem fr_X0_33 : FR RX0 33 0 3 := ⟨⟨_, _, _, kc_0, by decide, mg 273 (by decide +kernel) rfl⟩, rfl⟩
theorem fr_X0_40 : FR RX0 40 0 4 := ⟨⟨_, _, _, kc_0, by decide, mg 276 (by decide +kernel) rfl⟩, rfl⟩
theorem fr_X0_46 : FR RX0 46 0 5 := ⟨⟨_, _, _, kc_0, by decide, mg 278 (by decide +kernel) rfl⟩, rfl⟩
theorem fi_X0_50 : FI RX0 50 0 6 := ⟨⟨_, _, _, kc_0, by decide, mg 279 (by decide +kernel) rfl⟩, rfl, rfl⟩
theorem fi_X0_54 : FI RX0 54 0 7 := ⟨⟨_, _, _, kc_0, by decide, mg 282 (by decide +kernel) rfl⟩, rfl, rfl⟩
theorem fi_X0_57 : FI RX0 57 0 8 := ⟨⟨_, _, _, kc_0, by decide, mg 285 (by decide +kernel) rfl⟩, rfl, rfl⟩
theorem fi_X0_60 : FI RX0 60 0 9 := ⟨⟨_, _, _, kc_0, by decide, mg 288 (by decide +kernel) rfl⟩, rfl, rfl⟩
theorem fi_X0_63 : FI RX0 63 0 10 := ⟨⟨_, _, _, kc_0, by decide, mg 290 (by decide +kernel) rfl⟩, rfl, rfl⟩
theorem fi_X0_72 : FI RX0 72 5 3 := ⟨⟨_, _, _, kc_5, by decide, mg 235 (by decide +kernel) rfl⟩, rfl, rfl⟩
theorem fi_X0_79 : FI RX0 79 5 4 := ⟨⟨_, _, _, kc_5, by decide, mg 238 (by decide +kernel) rfl⟩, rfl, rfl⟩
theorem fi_X0_86 : FI RX0 86 5 6 := ⟨⟨_, _, _, kc_5, by decide, mg 244 (by decide +kernel) rfl⟩, rfl, rfl⟩
theorem fi_X0_89 : FI RX0 89 5 2 := ⟨⟨_, _, _, kc_5, by decide, mg 231 (by decide +kernel) rfl⟩, rfl, rfl⟩
theorem fi_X0_92 : FI RX0 92 5 5 := ⟨⟨_, _, _, kc_5, by decide, mg 241 (by decide +kernel) rfl⟩, rfl, rfl⟩
theorem fi_X0_95 : FI RX0 95 5 1 := ⟨⟨_, _, _, kc_5, by decide, mg 228 (by decide +kernel) rfl⟩, rfl, rfl⟩
theorem fi_X0_98 : FI RX0 98 6 3 := ⟨⟨_, _, _, kc_6, by decide, mg 202 (by decide +kernel) rfl⟩, rfl, rfl⟩
theorem fi_X0_105 : FI RX0 105 5 0 := ⟨⟨_, _, _, kc_5, by decide, mg 225 (by decide +kernel) rfl⟩, rfl, rfl⟩
theorem fi_X0_130 : FI RX0 130 6 4 := ⟨⟨_, _, _, kc_6, by decide, mg 205 (by decide +kernel) rfl⟩, rfl, rfl⟩
theorem fi_X0_141 : FI RX0 141 5 7 := ⟨⟨_, _, _, kc_5, by decide, mg 248 (by decide +kernel) rfl⟩, rfl, rfl⟩
theorem fi_X0_150 : FI RX0 150 1 1 := ⟨⟨_, _, _, kc_1, by decide, mg 124 (by decide +kernel) rfl⟩, rfl, rfl⟩
theorem fr_X1_11 : FR RX1 11 1 0 := ⟨⟨_, _, _, kc_1, by decide, mg 122 (by decide +kernel) rfl⟩, rfl⟩
theorem fi_X1_15 : FI RX1 15 1 1 := ⟨⟨_, _, _, kc_1, by decide, mg 123 (by decide +kernel) rfl⟩, rfl, rfl⟩
theorem fr_X2_11 : FR RX2 11 2 0 := ⟨⟨_, _, _, kc_2, by decide, mg 138 (by decide +kernel) rfl⟩, rfl⟩
theorem fr_X2_15 : FR RX2 15 2 1 := ⟨⟨_, _, _, kc_2, by decide, mg 140 (by decide +kernel) rfl⟩, rfl⟩
theorem fr_X2_18 : FR RX2 18 2 2 := ⟨⟨_, _, _, kc_2, by decide, mg 142 (by decide +kernel) rfl⟩, rfl⟩
theorem fr_X2_21 : FR RX2 21 2 3 := ⟨⟨_, _, _, kc_2, by decide, mg 144 (by decide +kernel) rfl⟩, rfl⟩
theorem fi_X2_24 : FI RX2 24 2 4 := ⟨⟨_, _, _, kc_2, by decide, mg 146 (by decide +kernel) rfl⟩, rfl, rfl⟩
theorem fr_X3_11 : FR RX3 11 3 0 := ⟨⟨_, _, _, kc_3, by decide, mg 166 (by decide +kernel) rfl⟩, rfl⟩
theorem fr_X3_17 : FR RX3 17 3 1 := ⟨⟨_, _, _, kc_3, by decide, mg 167 (by decide +kernel) rfl⟩, rfl⟩
theorem fr_X3_20 : FR RX3 20 3 2 := ⟨⟨_, _, _, kc_3, by decide, mg 168 (by decide +kernel) rfl⟩, rfl⟩
theorem fr_X3_23 : FR RX3 23 3 3 := ⟨⟨_, _, _, kc_3, by decide, mg 169 (by decide +kernel) rfl⟩, rfl⟩
theorem fr_X3_26 : FR RX3 26 3 4 := ⟨⟨_, _, _, kc_3, by decide, mg 170 (by decide +kernel) rfl⟩, rfl⟩
theorem fi_X3_29 : FI RX3 29 3 5 := ⟨⟨_, _, _, kc_3, by decide, mg 171 (by decide +kernel) rfl⟩, rfl, rfl⟩
theorem fi_X3_33 : FI RX3 33 3 6 := ⟨⟨_, _, _, kc_3, by decide, mg 172 (by decide +kernel) rfl⟩, rfl, rfl⟩
theorem fr_X4_12 : FR RX4 12 4 0 := ⟨⟨_, _, _, kc_4, by decide, mg 361 (by decide +kernel) rfl⟩, rfl⟩
theorem fr_X4_21 : FR RX4 21 4 1 := ⟨⟨_, _, _, kc_4, by decide, mg 363 (by decide +kernel) rfl⟩, rfl⟩
theorem fr_X4_25 : FR RX4 25 4 2 := ⟨⟨_, _, _, kc_4, by decide, mg 364 (by decide +kernel) rfl⟩, rfl⟩
theorem fi_X4_29 : FI RX4 29 4 3 := ⟨⟨_, _, _, kc_4, by decide, mg 365 (by decide +kernel) rfl⟩, rfl, rfl⟩
theorem fi_X4_33 : FI RX4 33 4 4 := ⟨⟨_, _, _, kc_4, by decide, mg 366 (by decide +kernel) rfl⟩, rfl, rfl⟩
theorem fi_X4_36 : FI RX4 36 4 5 := ⟨⟨_, _, _, kc_4, by decide, mg 367 (by decide +kernel) rfl⟩, rfl, rfl⟩
theorem fi_X4_39 : FI RX4 39 4 6 := ⟨⟨_, _, _, kc_4, by decide, mg 368 (by decide +kernel) rfl⟩, rfl, rfl⟩
theorem fi_X4_43 : FI RX4 43 4 7 := ⟨⟨_, _, _, kc_4, by decide, mg 369 (by decide +kernel) rfl⟩, rfl, rfl⟩
theorem fi_X4_58 : FI RX4 58 9 2 := ⟨⟨_, _, _, kc_9, by decide, mg 349 (by decide +kernel) rfl⟩, rfl, rfl⟩
theorem fi_X4_84 : FI RX4 84 9 0 := ⟨⟨_, _, _, kc_9, by decide, mg 346 (by decide +kernel) rfl⟩, rfl, rfl⟩
theorem fi_X4_97 : FI RX4 97 9 3 := ⟨⟨_, _, _, kc_9, by decide, mg 351 (by decide +kernel) rfl⟩, rfl, rfl⟩
theorem fi_X5_9 : FI RX5 9 5 0 := ⟨⟨_, _, _, kc_5, by decide, mg 223 (by decide +kernel) rfl⟩, rfl, rfl⟩
theorem fi_X5_15 : FI RX5 15 5 1 := ⟨⟨_, _, _, kc_5, by decide, mg 227 (by decide +kernel) rfl⟩, rfl, rfl⟩
theorem fi_X5_18 : FI RX5 18 5 2 := ⟨⟨_, _, _, kc_5, by decide, mg 230 (by decide +kernel) rfl⟩, rfl, rfl⟩
theorem fi_X5_21 : FI RX5 21 5 7 := ⟨⟨_, _, _, kc_5, by decide, mg 246 (by decide +kernel) rfl⟩, rfl, rfl⟩
theorem fi_X5_28 : FI RX5 28 5 3 := ⟨⟨_, _, _, kc_5, by decide, mg 234 (by decide +kernel) rfl⟩, rfl, rfl⟩
theorem fi_X5_31 : FI RX5 31 5 4 := ⟨⟨_, _, _, kc_5, by decide, mg 237 (by decide +kernel) rfl⟩, rfl, rfl⟩
theorem fi_X5_34 : FI RX5 34 5 5 := ⟨⟨_, _, _, kc_5, by decide, mg 240 (by decide +kernel) rfl⟩, rfl, rfl⟩
theorem fi_X5_37 : FI RX5 37 5 6 := ⟨⟨_, _, _, kc_5, by decide, mg 243 (by decide +kernel) rfl⟩, rfl, rfl⟩
theorem fi_X6_9 : FI RX6 9 6 0 := ⟨⟨_, _, _, kc_6, by decide, mg 194 (by decide +kernel) rfl⟩, rfl, rfl⟩
theorem fi_X6_15 : FI RX6 15 6 1 := ⟨⟨_, _, _, kc_6, by decide, mg 196 (by decide +kernel) rfl⟩, rfl, rfl⟩
theorem fi_X6_18 : FI RX6 18 6 2 := ⟨⟨_, _, _, kc_6, by decide, mg 199 (by decide +kernel) rfl⟩, rfl, rfl⟩
theorem fi_X6_21 : FI RX6 21 6 3 := ⟨⟨_, _, _, kc_6, by decide, mg 201 (by decide +kernel) rfl⟩, rfl, rfl⟩
theorem fi_X6_24 : FI RX6 24 6 4 := ⟨⟨_, _, _, kc_6, by decide, mg 204 (by decide +kernel) rfl⟩, rfl, rfl⟩
theorem fr_X7_11 : FR RX7 11 7 0 := ⟨⟨_, _, _, kc_7, by decide, mg 321 (by decide +kernel) rfl⟩, rfl⟩
theorem fi_X7_15 : FI RX7 15 7 1 := ⟨⟨_, _, _, kc_7, by decide, mg 322 (by decide +kernel) rfl⟩, rfl, rfl⟩
theorem fr_X8_9 : FR RX8 9 8 0 := ⟨⟨_, _, _, kc_8, by decide, mg 423 (by decide +kernel) rfl⟩, rfl⟩
theorem fr_X8_18 : FR RX8 18 8 1 := ⟨⟨_, _, _, kc_8, by decide, mg 424 (by decide +kernel) rfl⟩, rfl⟩
theorem fi_X8_22 : FI RX8 22 8 2 := ⟨⟨_, _, _, kc_8, by decide, mg 425 (by decide +kernel) rfl⟩, rfl, rfl⟩
theorem fi_X8_32 : FI RX8 32 0 7 := ⟨⟨_, _, _, kc_0, by decide, mg 283 (by decide +kernel) rfl⟩, rfl, rfl⟩
theorem fr_X8_37 : FR RX8 37 0 1 := ⟨⟨_, _, _, kc_0, by decide, mg 269 (by decide +kernel) rfl⟩, rfl⟩
theorem fi_X8_45 : FI RX8 45 0 6 := ⟨⟨_, _, _, kc_0, by decide, mg 280 (by decide +kernel) rfl⟩, rfl, rfl⟩
theorem fi_X8_48 : FI RX8 48 0 8 := ⟨⟨_, _, _, kc_0, by decide, mg 286 (by decide +kernel) rfl⟩, rfl, rfl⟩
theorem fr_X8_77 : FR RX8 77 0 3 := ⟨⟨_, _, _, kc_0, by decide, mg 274 (by decide +kernel) rfl⟩, rfl⟩
theorem fi_X8_81 : FI RX8 81 2 4 := ⟨⟨_, _, _, kc_2, by decide, mg 147 (by decide +kernel) rfl⟩, rfl, rfl⟩
theorem fr_X8_86 : FR RX8 86 2 0 := ⟨⟨_, _, _, kc_2, by decide, mg 139 (by decide +kernel) rfl⟩, rfl⟩
theorem fi_X8_88 : FI RX8 88 5 0 := ⟨⟨_, _, _, kc_5, by decide, mg 224 (by decide +kernel) rfl⟩, rfl, rfl⟩
theorem fr_X8_91 : FR RX8 91 2 1 := ⟨⟨_, _, _, kc_2, by decide, mg 141 (by decide +kernel) rfl⟩, rfl⟩
theorem fr_X8_98 : FR RX8 98 2 2 := ⟨⟨_, _, _, kc_2, by decide, mg 143 (by decide +kernel) rfl⟩, rfl⟩
theorem fr_X8_101 : FR RX8 101 2 3 := ⟨⟨_, _, _, kc_2, by decide, mg 145 (by decide +kernel) rfl⟩, rfl⟩
theorem fi_X8_120 : FI RX8 120 5 2 := ⟨⟨_, _, _, kc_5, by decide, mg 232 (by decide +kernel) rfl⟩, rfl, rfl⟩
theorem fi_X9_11 : FI RX9 11 9 0 := ⟨⟨_, _, _, kc_9, by decide, mg 345 (by decide +kernel) rfl⟩, rfl, rfl⟩
theorem fi_X9_15 : FI RX9 15 9 1 := ⟨⟨_, _, _, kc_9, by decide, mg 347 (by decide +kernel) rfl⟩, rfl, rfl⟩
theorem fi_X9_18 : FI RX9 18 9 2 := ⟨⟨_, _, _, kc_9, by decide, mg 348 (by decide +kernel) rfl⟩, rfl, rfl⟩
theorem fi_X9_21 : FI RX9 21 9 3 := ⟨⟨_, _, _, kc_9, by decide, mg 350 (by decide +kernel) rfl⟩, rfl, rfl⟩
theorem fi_X9_24 : FI RX9 24 7 1 := ⟨⟨_, _, _, kc_7, by decide, mg 323 (by decide +kernel) rfl⟩, rfl, rfl⟩
theorem fr_X10_11 : FR RX10 11 10 0 := ⟨⟨_, _, _, kc_10, by decide, mg 400 (by decide +kernel) rfl⟩, rfl⟩
theorem fr_X10_15 : FR RX10 15 10 1 := ⟨⟨_, _, _, kc_10, by decide, mg 401 (by decide +kernel) rfl⟩, rfl⟩
theorem fi_X10_19 : FI RX10 19 10 2 := ⟨⟨_, _, _, kc_10, by decide, mg 402 (by decide +kernel) rfl⟩, rfl, rfl⟩
theorem fi_X10_23 : FI RX10 23 10 3 := ⟨⟨_, _, _, kc_10, by decide, mg 403 (by decide +kernel) rfl⟩, rfl, rfl⟩
theorem fr_X12_7 : FR RX12 7 12 4 := ⟨⟨_, _, _, kc_12, by decide, mg 1116 (by decide +kernel) rfl⟩, rfl⟩
theorem fr_X12_13 : FR RX12 13 12 5 := ⟨⟨_, _, _, kc_12, by decide, mg 1117 (by decide +kernel) rfl⟩, rfl⟩
theorem fr_X12_16 : FR RX12 16 12 6 := ⟨⟨_, _, _, kc_12, by decide, mg 1118 (by decide +kernel) rfl⟩, rfl⟩
theorem fr_X12_19 : FR RX12 19 12 7 := ⟨⟨_, _, _, kc_12, by decide, mg 1119 (by decide +kernel) rfl⟩, rfl⟩
theorem fr_X12_22 : FR RX12 22 12 8 := ⟨⟨_, _, _, kc_12, by decide, mg 1120 (by decide +kernel) rfl⟩, rfl⟩
theorem fr_X12_25 : FR RX12 25 12 11 := ⟨⟨_, _, _, kc_12, by decide, mg 1123 (by decide +kernel) rfl⟩, rfl⟩
theorem fr_X12_28 : FR RX12 28 12 12 := ⟨⟨_, _, _, kc_12, by decide, mg 1124 (by decide +kernel) rfl⟩, rfl⟩
theorem fr_X12_31 : FR RX12 31 12 13 := ⟨⟨_, _, _, kc_12, by decide, mg 1125 (by decide +kernel) rfl⟩, rfl⟩
theorem fr_X12_34 : FR RX12 34 12 14 := ⟨⟨_, _, _, kc_12, by decide, mg 1126 (by decide +kernel) rfl⟩, rfl⟩
theorem fr_X12_37 : FR RX12 37 12 15 := ⟨⟨_, _, _, kc_12, by decide, mg 1127 (by decide +kernel) rfl⟩, rfl⟩
theorem fr_X12_40 : FR RX12 40 12 16 := ⟨⟨_, _, _, kc_12, by decide, mg 1128 (by decide +kernel) rfl⟩, rfl⟩
theorem fr_X12_43 : FR RX12 43 12 17 := ⟨⟨_, _, _, kc_12, by decide, mg 1129 (by decide +kernel) rfl⟩, rfl⟩
theorem fr_X12_46 : FR RX12 46 12 19 := ⟨⟨_, _, _, kc_12, by decide, mg 1131 (by decide +kernel) rfl⟩, rfl⟩
theorem fr_X12_49 : FR RX12 49 12 20 := ⟨⟨_, _, _, kc_12, by decide, mg 1132 (by decide +kernel) rfl⟩, rfl⟩
theorem fr_X12_52 : FR RX12 52 12 26 := ⟨⟨_, _, _, kc_12, by decide, mg 1138 (by decide +kernel) rfl⟩, rfl⟩
theorem fr_X12_55 : FR RX12 55 12 28 := ⟨⟨_, _, _, kc_12, by decide, mg 1140 (by decide +kernel) rfl⟩, rfl⟩
theorem fr_X12_58 : FR RX12 58 12 29 := ⟨⟨_, _, _, kc_12, by decide, mg 1141 (by decide +kernel) rfl⟩, rfl⟩
theorem fr_X12_61 : FR RX12 61 12 30 := ⟨⟨_, _, _, kc_12, by decide, mg 1142 (by decide +kernel) rfl⟩, rfl⟩
theorem fr_X12_64 : FR RX12 64 12 31 := ⟨⟨_, _, _, kc_12, by decide, mg 1143 (by decide +kernel) rfl⟩, rfl⟩
theorem fr_X12_67 : FR RX12 67 12 32 := ⟨⟨_, _, _, kc_12, by decide, mg 1144 (by decide +kernel) rfl⟩, rfl⟩
theorem fr_X12_70 : FR RX12 70 12 35 := ⟨⟨_, _, _, kc_12, by decide, mg 1147 (by decide +kernel) rfl⟩, rfl⟩
theorem fi_X12_73 : FM RX12 73 12 40 := ⟨⟨_, _, _, kc_12, by decide, mg 1152 (by decide +kernel) rfl⟩, rfl, rfl⟩
theorem fr_X12_77 : FR RX12 77 12 41 := ⟨⟨_, _, _, kc_12, by decide, mg 1153 (by decide +kernel) rfl⟩, rfl⟩
theorem fr_X12_80 : FR RX12 80 12 42 := ⟨⟨_, _, _, kc_12, by decide, mg 1154 (by decide +kernel) rfl⟩, rfl⟩
theorem fr_X12_83 : FR RX12 83 12 43 := ⟨⟨_, _, _, kc_12, by decide, mg 1155 (by decide +kernel) rfl⟩, rfl⟩
theorem fr_X12_86 : FR RX12 86 12 46 := ⟨⟨_, _, _, kc_12, by decide, mg 1158 (by decide +kernel) rfl⟩, rfl⟩
theorem fr_X12_89 : FR RX12 89 12 47 := ⟨⟨_, _, _, kc_12, by decide, mg 1159 (by decide +kernel) rfl⟩, rfl⟩
theorem fr_X12_92 : FR RX12 92 12 48 := ⟨⟨_, _, _, kc_12, by decide, mg 1160 (by decide +kernel) rfl⟩, rfl⟩
theorem fr_X12_95 : FR RX12 95 12 49 := ⟨⟨_, _, _, kc_12, by decide, mg 1161 (by decide +kernel) rfl⟩, rfl⟩
theorem fr_X12_98 : FR RX12 98 12 50 := ⟨⟨_, _, _, kc_12, by decide, mg 1162 (by decide +kernel) rfl⟩, rfl⟩
theorem fr_X12_101 : FR RX12 101 12 54 := ⟨⟨_, _, _, kc_12, by decide, mg 1166 (by decide +kernel) rfl⟩, rfl⟩
theorem fi_X12_107 : FM RX12 107 12 1 := ⟨⟨_, _, _, kc_12, by decide, mg 1113 (by decide +kernel) rfl⟩, rfl, rfl⟩
theorem fi_X12_112 : FM RX12 112 12 3 := ⟨⟨_, _, _, kc_12, by decide, mg 1115 (by decide +kernel) rfl⟩, rfl, rfl⟩
theorem fi_X12_120 : FM RX12 120 12 44 := ⟨⟨_, _, _, kc_12, by decide, mg 1156 (by decide +kernel) rfl⟩, rfl, rfl⟩
theorem fi_X12_127 : FM RX12 127 12 2 := ⟨⟨_, _, _, kc_12, by decide, mg 1114 (by decide +kernel) rfl⟩, rfl, rfl⟩
theorem fi_X12_130 : FM RX12 130 12 10 := ⟨⟨_, _, _, kc_12, by decide, mg 1122 (by decide +kernel) rfl⟩, rfl, rfl⟩
theorem fi_X12_147 : FM RX12 147 12 21 := ⟨⟨_, _, _, kc_12, by decide, mg 1133 (by decide +kernel) rfl⟩, rfl, rfl⟩
theorem fi_X12_153 : FM RX12 153 12 22 := ⟨⟨_, _, _, kc_12, by decide, mg 1134 (by decide +kernel) rfl⟩, rfl, rfl⟩
theorem fi_X12_160 : FM RX12 160 12 23 := ⟨⟨_, _, _, kc_12, by decide, mg 1135 (by decide +kernel) rfl⟩, rfl, rfl⟩
theorem fi_X12_163 : FM RX12 163 12 24 := ⟨⟨_, _, _, kc_12, by decide, mg 1136 (by decide +kernel) rfl⟩, rfl, rfl⟩
theorem fi_X12_166 : FM RX12 166 12 25 := ⟨⟨_, _, _, kc_12, by decide, mg 1137 (by decide +kernel) rfl⟩, rfl, rfl⟩
theorem fi_X12_182 : FM RX12 182 12 37 := ⟨⟨_, _, _, kc_12, by decide, mg 1149 (by decide +kernel) rfl⟩, rfl, rfl⟩
theorem fi_X12_185 : FM RX12 185 12 38 := ⟨⟨_, _, _, kc_12, by decide, mg 1150 (by decide +kernel) rfl⟩, rfl, rfl⟩
theorem fi_X12_188 : FM RX12 188 12 33 := ⟨⟨_, _, _, kc_12, by decide, mg 1145 (by decide +kernel) rfl⟩, rfl, rfl⟩
theorem fi_X12_214 : FM RX12 214 12 36 := ⟨⟨_, _, _, kc_12, by decide, mg 1148 (by decide +kernel) rfl⟩, rfl, rfl⟩
theorem fi_X12_217 : FM RX12 217 12 34 := ⟨⟨_, _, _, kc_12, by decide, mg 1146 (by decide +kernel) rfl⟩, rfl, rfl⟩
theorem fi_X12_235 : FM RX12 235 12 39 := ⟨⟨_, _, _, kc_12, by decide, mg 1151 (by decide +kernel) rfl⟩, rfl, rfl⟩
theorem fi_X12_241 : FM RX12 241 12 27 := ⟨⟨_, _, _, kc_12, by decide, mg 1139 (by decide +kernel) rfl⟩, rfl, rfl⟩
theorem fi_X12_260 : FM RX12 260 12 18 := ⟨⟨_, _, _, kc_12, by decide, mg 1130 (by decide +kernel) rfl⟩, rfl, rfl⟩
theorem fi_X12_276 : FM RX12 276 12 9 := ⟨⟨_, _, _, kc_12, by decide, mg 1121 (by decide +kernel) rfl⟩, rfl, rfl⟩
theorem fi_X12_289 : FM RX12 289 12 45 := ⟨⟨_, _, _, kc_12, by decide, mg 1157 (by decide +kernel) rfl⟩, rfl, rfl⟩
theorem fi_X12_322 : FM RX12 322 12 53 := ⟨⟨_, _, _, kc_12, by decide, mg 1165 (by decide +kernel) rfl⟩, rfl, rfl⟩
theorem fi_X12_325 : FM RX12 325 12 51 := ⟨⟨_, _, _, kc_12, by decide, mg 1163 (by decide +kernel) rfl⟩, rfl, rfl⟩
theorem fi_X12_332 : FM RX12 332 12 52 := ⟨⟨_, _, _, kc_12, by decide, mg 1164 (by decide +kernel) rfl⟩, rfl, rfl⟩
theorem fp_X11_19 : FPZ RX11 19 11 2 := ⟨⟨_, _, _, kc_11, by decide, mg 444 (by decide +kernel) rfl, rfl, by decide⟩, rfl, rfl⟩
theorem fp_X11_51 : FPI RX11 51 0 9 := ⟨⟨_, _, _, kc_0, by decide, mg 289 (by decide +kernel) rfl, rfl, by decide⟩, rfl, rfl⟩
theorem fp_X11_60 : FPI RX11 60 0 6 := ⟨⟨_, _, _, kc_0, by decide, mg 281 (by decide +kernel) rfl, rfl, by decide⟩, rfl, rfl⟩
theorem fp_X11_90 : FPI RX11 90 0 7 := ⟨⟨_, _, _, kc_0, by decide, mg 284 (by decide +kernel) rfl, rfl, by decide⟩, rfl, rfl⟩
theorem fp_X11_106 : FPI RX11 106 5 1 := ⟨⟨_, _, _, kc_5, by decide, mg 229 (by decide +kernel) rfl, rfl, by decide⟩, rfl, rfl⟩
theorem fp_X11_148 : FPI RX11 148 5 7 := ⟨⟨_, _, _, kc_5, by decide, mg 247 (by decide +kernel) rfl, rfl, by decide⟩, rfl, rfl⟩
theorem fp_X11_161 : FPI RX11 161 7 1 := ⟨⟨_, _, _, kc_7, by decide, mg 324 (by decide +kernel) rfl, rfl, by decide⟩, rfl, rfl⟩
theorem fp_X0_50 : FPI RX0 50 0 6 := ⟨⟨_, _, _, kc_0, by decide, mg 279 (by decide +kernel) rfl, rfl, by decide⟩, rfl, rfl⟩
theorem fp_X0_54 : FPI RX0 54 0 7 := ⟨⟨_, _, _, kc_0, by decide, mg 282 (by decide +kernel) rfl, rfl, by decide⟩, rfl, rfl⟩
theorem fp_X0_57 : FPI RX0 57 0 8 := ⟨⟨_, _, _, kc_0, by decide, mg 285 (by decide +kernel) rfl, rfl, by decide⟩, rfl, rfl⟩
theorem fp_X0_60 : FPI RX0 60 0 9 := ⟨⟨_, _, _, kc_0, by decide, mg 288 (by decide +kernel) rfl, rfl, by decide⟩, rfl, rfl⟩
theorem fp_X0_63 : FPI RX0 63 0 10 := ⟨⟨_, _, _, kc_0, by decide, mg 290 (by decide +kernel) rfl, rfl, by decide⟩, rfl, rfl⟩
theorem fp_X0_95 : FPI RX0 95 5 1 := ⟨⟨_, _, _, kc_5, by decide, mg 228 (by decide +kernel) rfl, rfl, by decide⟩, rfl, rfl⟩
theorem fp_X0_136 : FPI RX0 136 6 1 := ⟨⟨_, _, _, kc_6, by decide, mg 197 (by decide +kernel) rfl, rfl, by decide⟩, rfl, rfl⟩
theorem fp_X0_141 : FPI RX0 141 5 7 := ⟨⟨_, _, _, kc_5, by decide, mg 248 (by decide +kernel) rfl, rfl, by decide⟩, rfl, rfl⟩
theorem fp_X1_15 : FPI RX1 15 1 1 := ⟨⟨_, _, _, kc_1, by decide, mg 123 (by decide +kernel) rfl, rfl, by decide⟩, rfl, rfl⟩
theorem fp_X2_24 : FPI RX2 24 2 4 := ⟨⟨_, _, _, kc_2, by decide, mg 146 (by decide +kernel) rfl, rfl, by decide⟩, rfl, rfl⟩
theorem fp_X3_29 : FPI RX3 29 3 5 := ⟨⟨_, _, _, kc_3, by decide, mg 171 (by decide +kernel) rfl, rfl, by decide⟩, rfl, rfl⟩
theorem fp_X3_33 : FPI RX3 33 3 6 := ⟨⟨_, _, _, kc_3, by decide, mg 172 (by decide +kernel) rfl, rfl, by decide⟩, rfl, rfl⟩
theorem fp_X4_29 : FPI RX4 29 4 3 := ⟨⟨_, _, _, kc_4, by decide, mg 365 (by decide +kernel) rfl, rfl, by decide⟩, rfl, rfl⟩
theorem fp_X4_33 : FPI RX4 33 4 4 := ⟨⟨_, _, _, kc_4, by decide, mg 366 (by decide +kernel) rfl, rfl, by decide⟩, rfl, rfl⟩
theorem fp_X4_36 : FPI RX4 36 4 5 := ⟨⟨_, _, _, kc_4, by decide, mg 367 (by decide +kernel) rfl, rfl, by decide⟩, rfl, rfl⟩
theorem fp_X4_39 : FPZ RX4 39 4 6 := ⟨⟨_, _, _, kc_4, by decide, mg 368 (by decide +kernel) rfl, rfl, by decide⟩, rfl, rfl⟩
theorem fp_X4_43 : FPI RX4 43 4 7 := ⟨⟨_, _, _, kc_4, by decide, mg 369 (by decide +kernel) rfl, rfl, by decide⟩, rfl, rfl⟩
theorem fp_X4_46 : FPI RX4 46 4 8 := ⟨⟨_, _, _, kc_4, by decide, mg 371 (by decide +kernel) rfl, rfl, by decide⟩, rfl, rfl⟩
theorem fp_X5_9 : FPI RX5 9 5 0 := ⟨⟨_, _, _, kc_5, by decide, mg 223 (by decide +kernel) rfl, rfl, by decide⟩, rfl, rfl⟩
theorem fp_X5_15 : FPI RX5 15 5 1 := ⟨⟨_, _, _, kc_5, by decide, mg 227 (by decide +kernel) rfl, rfl, by decide⟩, rfl, rfl⟩
theorem fp_X5_18 : FPI RX5 18 5 2 := ⟨⟨_, _, _, kc_5, by decide, mg 230 (by decide +kernel) rfl, rfl, by decide⟩, rfl, rfl⟩
theorem fp_X5_21 : FPI RX5 21 5 7 := ⟨⟨_, _, _, kc_5, by decide, mg 246 (by decide +kernel) rfl, rfl, by decide⟩, rfl, rfl⟩
theorem fp_X5_28 : FPI RX5 28 5 3 := ⟨⟨_, _, _, kc_5, by decide, mg 234 (by decide +kernel) rfl, rfl, by decide⟩, rfl, rfl⟩
theorem fp_X5_31 : FPI RX5 31 5 4 := ⟨⟨_, _, _, kc_5, by decide, mg 237 (by decide +kernel) rfl, rfl, by decide⟩, rfl, rfl⟩
theorem fp_X5_34 : FPI RX5 34 5 5 := ⟨⟨_, _, _, kc_5, by decide, mg 240 (by decide +kernel) rfl, rfl, by decide⟩, rfl, rfl⟩
theorem fp_X5_37 : FPI RX5 37 5 6 := ⟨⟨_, _, _, kc_5, by decide, mg 243 (by decide +kernel) rfl, rfl, by decide⟩, rfl, rfl⟩
theorem fp_X6_9 : FPI RX6 9 6 0 := ⟨⟨_, _, _, kc_6, by decide, mg 194 (by decide +kernel) rfl, rfl, by decide⟩, rfl, rfl⟩
theorem fp_X6_15 : FPI RX6 15 6 1 := ⟨⟨_, _, _, kc_6, by decide, mg 196 (by decide +kernel) rfl, rfl, by decide⟩, rfl, rfl⟩
theorem fp_X6_18 : FPI RX6 18 6 2 := ⟨⟨_, _, _, kc_6, by decide, mg 199 (by decide +kernel) rfl, rfl, by decide⟩, rfl, rfl⟩
theorem fp_X6_21 : FPI RX6 21 6 3 := ⟨⟨_, _, _, kc_6, by decide, mg 201 (by decide +kernel) rfl, rfl, by decide⟩, rfl, rfl⟩
theorem fp_X6_24 : FPI RX6 24 6 4 := ⟨⟨_, _, _, kc_6, by decide, mg 204 (by decide +kernel) rfl, rfl, by decide⟩, rfl, rfl⟩
theorem fp_X7_15 : FPI RX7 15 7 1 := ⟨⟨_, _, _, kc_7, by decide, mg 322 (by decide +kernel) rfl, rfl, by decide⟩, rfl, rfl⟩
theorem fp_X8_22 : FPI RX8 22 8 2 := ⟨⟨_, _, _, kc_8, by decide, mg 425 (by decide +kernel) rfl, rfl, by decide⟩, rfl, rfl⟩
theorem fp_X8_26 : FPI RX8 26 8 3 := ⟨⟨_, _, _, kc_8, by decide, mg 427 (by decide +kernel) rfl, rfl, by decide⟩, rfl, rfl⟩
theorem fp_X8_29 : FPI RX8 29 8 4 := ⟨⟨_, _, _, kc_8, by decide, mg 429 (by decide +kernel) rfl, rfl, by decide⟩, rfl, rfl⟩
theorem fp_X9_11 : FPI RX9 11 9 0 := ⟨⟨_, _, _, kc_9, by decide, mg 345 (by decide +kernel) rfl, rfl, by decide⟩, rfl, rfl⟩
theorem fp_X9_15 : FPI RX9 15 9 1 := ⟨⟨_, _, _, kc_9, by decide, mg 347 (by decide +kernel) rfl, rfl, by decide⟩, rfl, rfl⟩
theorem fp_X9_18 : FPI RX9 18 9 2 := ⟨⟨_, _, _, kc_9, by decide, mg 348 (by decide +kernel) rfl, rfl, by decide⟩, rfl, rfl⟩
theorem fp_X9_21 : FPI RX9 21 9 3 := ⟨⟨_, _, _, kc_9, by decide, mg 350 (by decide +kernel) rfl, rfl, by decide⟩, rfl, rfl⟩
theorem fp_X10_19 : FPI RX10 19 10 2 := ⟨⟨_, _, _, kc_10, by decide, mg 402 (by decide +kernel) rfl, rfl, by decide⟩, rfl, rfl⟩
theorem fp_X10_23 : FPI RX10 23 10 3 := ⟨⟨_, _, _, kc_10, by decide, mg 403 (by decide +kernel) rfl, rfl, by decide⟩, rfl, rfl⟩
theorem fp_X12_73 : FPM RX12 73 12 40 := ⟨⟨_, _, _, kc_12, by decide, mg 1152 (by decide +kernel) rfl, rfl, by decide⟩, rfl, rfl⟩
theorem fp_X12_104 : FPM RX12 104 12 0 := ⟨⟨_, _, _, kc_12, by decide, mg 1112 (by decide +kernel) rfl, rfl, by decide⟩, rfl, rfl⟩
theorem fp_X12_107 : FPM RX12 107 12 1 := ⟨⟨_, _, _, kc_12, by decide, mg 1113 (by decide +kernel) rfl, rfl, by decide⟩, rfl, rfl⟩
theorem fp_X12_112 : FPM RX12 112 12 3 := ⟨⟨_, _, _, kc_12, by decide, mg 1115 (by decide +kernel) rfl, rfl, by decide⟩, rfl, rfl⟩
theorem fp_X12_120 : FPM RX12 120 12 44 := ⟨⟨_, _, _, kc_12, by decide, mg 1156 (by decide +kernel) rfl, rfl, by decide⟩, rfl, rfl⟩
theorem fp_X12_127 : FPM RX12 127 12 2 := ⟨⟨_, _, _, kc_12, by decide, mg 1114 (by decide +kernel) rfl, rfl, by decide⟩, rfl, rfl⟩
theorem fp_X12_130 : FPM RX12 130 12 10 := ⟨⟨_, _, _, kc_12, by decide, mg 1122 (by decide +kernel) rfl, rfl, by decide⟩, rfl, rfl⟩
theorem fp_X12_147 : FPM RX12 147 12 21 := ⟨⟨_, _, _, kc_12, by decide, mg 1133 (by decide +kernel) rfl, rfl, by decide⟩, rfl, rfl⟩
theorem fp_X12_153 : FPM RX12 153 12 22 := ⟨⟨_, _, _, kc_12, by decide, mg 1134 (by decide +kernel) rfl, rfl, by decide⟩, rfl, rfl⟩
theorem fp_X12_160 : FPM RX12 160 12 23 := ⟨⟨_, _, _, kc_12, by decide, mg 1135 (by decide +kernel) rfl, rfl, by decide⟩, rfl, rfl⟩
theorem fp_X12_163 : FPM RX12 163 12 24 := ⟨⟨_, _, _, kc_12, by decide, mg 1136 (by decide +kernel) rfl, rfl, by decide⟩, rfl, rfl⟩
theorem fp_X12_166 : FPM RX12 166 12 25 := ⟨⟨_, _, _, kc_12, by decide, mg 1137 (by decide +kernel) rfl, rfl, by decide⟩, rfl, rfl⟩
theorem fp_X12_182 : FPM RX12 182 12 37 := ⟨⟨_, _, _, kc_12, by decide, mg 1149 (by decide +kernel) rfl, rfl, by decide⟩, rfl, rfl⟩
theorem fp_X12_185 : FPM RX12 185 12 38 := ⟨⟨_, _, _, kc_12, by decide, mg 1150 (by decide +kernel) rfl, rfl, by decide⟩, rfl, rfl⟩
theorem fp_X12_188 : FPM RX12 188 12 33 := ⟨⟨_, _, _, kc_12, by decide, mg 1145 (by decide +kernel) rfl, rfl, by decide⟩, rfl, rfl⟩
theorem fp_X12_214 : FPM RX12 214 12 36 := ⟨⟨_, _, _, kc_12, by decide, mg 1148 (by decide +kernel) rfl, rfl, by decide⟩, rfl, rfl⟩
theorem fp_X12_217 : FPM RX12 217 12 34 := ⟨⟨_, _, _, kc_12, by decide, mg 1146 (by decide +kernel) rfl, rfl, by decide⟩, rfl, rfl⟩
theorem fp_X12_235 : FPM RX12 235 12 39 := ⟨⟨_, _, _, kc_12, by decide, mg 1151 (by decide +kernel) rfl, rfl, by decide⟩, rfl, rfl⟩
theorem fp_X12_241 : FPM RX12 241 12 27 := ⟨⟨_, _, _, kc_12, by decide, mg 1139 (by decide +kernel) rfl, rfl, by decide⟩, rfl, rfl⟩
theorem fp_X12_260 : FPM RX12 260 12 18 := ⟨⟨_, _, _, kc_12, by decide, mg 1130 (by decide +kernel) rfl, rfl, by decide⟩, rfl, rfl⟩
theorem fp_X12_276 : FPM RX12 276 12 9 := ⟨⟨_, _, _, kc_12, by decide, mg 1121 (by decide +kernel) rfl, rfl, by decide⟩, rfl, rfl⟩
theorem fp_X12_289 : FPM RX12 289 12 45 := ⟨⟨_, _, _, kc_12, by decide, mg 1157 (by decide +kernel) rfl, rfl, by decide⟩, rfl, rfl⟩
theorem fp_X12_322 : FPM RX12 322 12 53 := ⟨⟨_, _, _, kc_12, by decide, mg 1165 (by decide +kernel) rfl, rfl, by decide⟩, rfl, rfl⟩
theorem fp_X12_325 : FPZM RX12 325 12 51 := ⟨⟨_, _, _, kc_12, by decide, mg 1163 (by decide +kernel) rfl, rfl, by decide⟩, rfl, rfl⟩
theorem fp_X12_332 : FPZM RX12 332 12 52 := ⟨⟨_, _, _, kc_12, by decide, mg 1164 (by decide +kernel) rfl, rfl, by decide⟩, rfl, rfl⟩
theorem sl_J0_9 : Jvm.Cond.fieldLink RJ0 9 "java/lang/String" "value" "[B" ∈ GT := mg 1594 (by decide +kernel) rfl
theorem sl_J0_15 : Jvm.Cond.fieldLink RJ0 15 "java/lang/String" "coder" "B" ∈ GT := mg 1595 (by decide +kernel) rfl
theorem sl_J0_38 : Jvm.Cond.fieldLink RJ0 38 "java/lang/String" "COMPACT_STRINGS" "Z" ∈ GT := mg 707 (by decide +kernel) rfl
theorem sl_J0_1053 : Jvm.Cond.fieldLink RJ0 1053 "jdk/internal/util/Preconditions" "SIOOBE_FORMATTER" "Ljava/util/function/BiFunction;" ∈ GT := mg 723 (by decide +kernel) rfl
theorem kw_X11_55 : Jvm.Cond.constant RX11 55 (-36500) ∈ GT := mg 472 (by decide +kernel) rfl
theorem kw_X11_209 : Jvm.Cond.constant RX11 209 (-100000) ∈ GT := mg 932 (by decide +kernel) rfl
theorem kw_X0_139 : Jvm.Cond.constant RX0 139 1664525 ∈ GT := mg 627 (by decide +kernel) rfl
theorem kw_X0_140 : Jvm.Cond.constant RX0 140 1013904223 ∈ GT := mg 628 (by decide +kernel) rfl
theorem kw_X12_110 : Jvm.Cond.constant RX12 110 1664525 ∈ GT := mg 1479 (by decide +kernel) rfl
theorem kw_X12_111 : Jvm.Cond.constant RX12 111 1013904223 ∈ GT := mg 1480 (by decide +kernel) rfl
theorem kw_X12_115 : Jvm.Cond.constant RX12 115 (-36500) ∈ GT := mg 1286 (by decide +kernel) rfl
theorem kw_X12_288 : Jvm.Cond.constant RX12 288 (-100000) ∈ GT := mg 1501 (by decide +kernel) rfl
theorem kw_J6_264 : Jvm.Cond.constant RJ6 264 65536 ∈ GT := mg 1004 (by decide +kernel) rfl
theorem kw_J6_265 : Jvm.Cond.constant RJ6 265 1431655765 ∈ GT := mg 990 (by decide +kernel) rfl
theorem kw_J6_266 : Jvm.Cond.constant RJ6 266 858993459 ∈ GT := mg 991 (by decide +kernel) rfl
theorem kw_J6_267 : Jvm.Cond.constant RJ6 267 252645135 ∈ GT := mg 992 (by decide +kernel) rfl
/-! ===== calls ===== -/
theorem mw_X1_31 : MW RX1 31 Lib.Math.abs.name Lib.Math.abs.code 1 := ⟨mg 1036 (by decide +kernel) rfl, mg 1037 (by decide +kernel) rfl, mg 90 (by decide +kernel) rfl, mg 1038 (by decide +kernel) rfl⟩
theorem mw_X3_54 : MW RX3 54 Lib.Math.min.name Lib.Math.min.code 2 := ⟨mg 580 (by decide +kernel) rfl, mg 581 (by decide +kernel) rfl, mg 90 (by decide +kernel) rfl, mg 582 (by decide +kernel) rfl⟩
theorem mw_X3_60 : MW RX3 60 Lib.Math.max.name Lib.Math.max.code 2 := ⟨mg 583 (by decide +kernel) rfl, mg 560 (by decide +kernel) rfl, mg 90 (by decide +kernel) rfl, mg 561 (by decide +kernel) rfl⟩
theorem mw_X6_31 : MW RX6 31 Lib.Math.max.name Lib.Math.max.code 2 := ⟨mg 559 (by decide +kernel) rfl, mg 560 (by decide +kernel) rfl, mg 90 (by decide +kernel) rfl, mg 561 (by decide +kernel) rfl⟩
theorem mw_X8_123 : MW RX8 123 Lib.Math.max.name Lib.Math.max.code 2 := ⟨mg 1013 (by decide +kernel) rfl, mg 560 (by decide +kernel) rfl, mg 90 (by decide +kernel) rfl, mg 561 (by decide +kernel) rfl⟩
theorem mw_X10_31 : MW RX10 31 Lib.Math.min.name Lib.Math.min.code 2 := ⟨mg 596 (by decide +kernel) rfl, mg 581 (by decide +kernel) rfl, mg 90 (by decide +kernel) rfl, mg 582 (by decide +kernel) rfl⟩
theorem mw_J1_38 : MW RJ1 38 Lib.Math.min.name Lib.Math.min.code 2 := ⟨mg 775 (by decide +kernel) rfl, mg 581 (by decide +kernel) rfl, mg 90 (by decide +kernel) rfl, mg 582 (by decide +kernel) rfl⟩
theorem mw_J1_92 : MW RJ1 92 Lib.Math.max.name Lib.Math.max.code 2 := ⟨mg 774 (by decide +kernel) rfl, mg 560 (by decide +kernel) rfl, mg 90 (by decide +kernel) rfl, mg 561 (by decide +kernel) rfl⟩
theorem aw_X1_37 : AW RX1 37 := ⟨mg 1095 (by decide +kernel) rfl, mg 910 (by decide +kernel) rfl, mg 909 (by decide +kernel) rfl, mg 96 (by decide +kernel) rfl⟩
theorem aw_X2_32 : AW RX2 32 := ⟨mg 1100 (by decide +kernel) rfl, mg 910 (by decide +kernel) rfl, mg 909 (by decide +kernel) rfl, mg 96 (by decide +kernel) rfl⟩
theorem aw_X3_71 : AW RX3 71 := ⟨mg 908 (by decide +kernel) rfl, mg 910 (by decide +kernel) rfl, mg 909 (by decide +kernel) rfl, mg 96 (by decide +kernel) rfl⟩
theorem cw_X11_within : Jvm.Cond.code yX11_within cX11_within 3 (some .boolean) ∈ GT := mg 475 (by decide +kernel) rfl
theorem iw_X11_within : Jvm.Cond.initialized yX11_within.cls ∈ GT := mg 77 (by decide +kernel) rfl
theorem sw_X11_within : Jvm.Cond.static yX11_within ∈ GT := mg 474 (by decide +kernel) rfl
theorem lk_X11_56 : LkS RX11 56 yX11_within cX11_within 3 (some .boolean) 3 := ⟨⟨mg 473 (by decide +kernel) rfl, cw_X11_within, iw_X11_within, ⟨by decide, by decide, by decide⟩⟩, sw_X11_within⟩
theorem cw_X10_forget : Jvm.Cond.code yX10_forget cX10_forget 1 none ∈ GT := mg 479 (by decide +kernel) rfl
theorem iw_X10_forget : Jvm.Cond.initialized yX10_forget.cls ∈ GT := mg 87 (by decide +kernel) rfl
theorem nw_X10_forget : Jvm.Cond.instanceMethod yX10_forget ∈ GT := mg 477 (by decide +kernel) rfl
theorem ew_X10_forget : Jvm.Cond.selects RX10 yX10_forget yX10_forget ∈ GT := mg 478 (by decide +kernel) rfl
theorem lk_X11_63 : LkV RX11 63 10 yX10_forget cX10_forget 1 none 0 := ⟨⟨mg 476 (by decide +kernel) rfl, cw_X10_forget, iw_X10_forget, ⟨by decide, by decide, by decide⟩⟩, nw_X10_forget, RX10, _, _, ew_X10_forget, rfl, by decide⟩
theorem cw_X6_become : Jvm.Cond.code yX6_become cX6_become 5 none ∈ GT := mg 483 (by decide +kernel) rfl
theorem iw_X6_become : Jvm.Cond.initialized yX6_become.cls ∈ GT := mg 82 (by decide +kernel) rfl
theorem nw_X6_become : Jvm.Cond.instanceMethod yX6_become ∈ GT := mg 481 (by decide +kernel) rfl
theorem ew_X6_become : Jvm.Cond.selects RX6 yX6_become yX6_become ∈ GT := mg 482 (by decide +kernel) rfl
theorem lk_X11_70 : LkV RX11 70 6 yX6_become cX6_become 5 none 4 := ⟨⟨mg 480 (by decide +kernel) rfl, cw_X6_become, iw_X6_become, ⟨by decide, by decide, by decide⟩⟩, nw_X6_become, RX6, _, _, ew_X6_become, rfl, by decide⟩
theorem cw_X0_readerAt : Jvm.Cond.code yX0_readerAt cX0_readerAt 2 (some (.object "PaperAger$Reader")) ∈ GT := mg 491 (by decide +kernel) rfl
theorem iw_X0_readerAt : Jvm.Cond.initialized yX0_readerAt.cls ∈ GT := mg 78 (by decide +kernel) rfl
theorem nw_X0_readerAt : Jvm.Cond.instanceMethod yX0_readerAt ∈ GT := mg 489 (by decide +kernel) rfl
theorem ew_X0_readerAt : Jvm.Cond.selects RX0 yX0_readerAt yX0_readerAt ∈ GT := mg 490 (by decide +kernel) rfl
theorem lk_X11_76 : LkV RX11 76 0 yX0_readerAt cX0_readerAt 2 (some (.object "PaperAger$Reader")) 1 := ⟨⟨mg 488 (by decide +kernel) rfl, cw_X0_readerAt, iw_X0_readerAt, ⟨by decide, by decide, by decide⟩⟩, nw_X0_readerAt, RX0, _, _, ew_X0_readerAt, rfl, by decide⟩
theorem cw_X6_tell : Jvm.Cond.code yX6_tell cX6_tell 4 (some .boolean) ∈ GT := mg 496 (by decide +kernel) rfl
theorem iw_X6_tell : Jvm.Cond.initialized yX6_tell.cls ∈ GT := mg 82 (by decide +kernel) rfl
theorem nw_X6_tell : Jvm.Cond.instanceMethod yX6_tell ∈ GT := mg 494 (by decide +kernel) rfl
theorem ew_X6_tell : Jvm.Cond.selects RX6 yX6_tell yX6_tell ∈ GT := mg 495 (by decide +kernel) rfl
theorem lk_X11_83 : LkV RX11 83 6 yX6_tell cX6_tell 4 (some .boolean) 3 := ⟨⟨mg 493 (by decide +kernel) rfl, cw_X6_tell, iw_X6_tell, ⟨by decide, by decide, by decide⟩⟩, nw_X6_tell, RX6, _, _, ew_X6_tell, rfl, by decide⟩
theorem cw_X11_isShelf : Jvm.Cond.code yX11_isShelf cX11_isShelf 1 (some .boolean) ∈ GT := mg 504 (by decide +kernel) rfl
theorem iw_X11_isShelf : Jvm.Cond.initialized yX11_isShelf.cls ∈ GT := mg 77 (by decide +kernel) rfl
theorem sw_X11_isShelf : Jvm.Cond.static yX11_isShelf ∈ GT := mg 503 (by decide +kernel) rfl
theorem lk_X11_86 : LkS RX11 86 yX11_isShelf cX11_isShelf 1 (some .boolean) 1 := ⟨⟨mg 502 (by decide +kernel) rfl, cw_X11_isShelf, iw_X11_isShelf, ⟨by decide, by decide, by decide⟩⟩, sw_X11_isShelf⟩
theorem cw_X5_become : Jvm.Cond.code yX5_become cX5_become 4 none ∈ GT := mg 508 (by decide +kernel) rfl
theorem iw_X5_become : Jvm.Cond.initialized yX5_become.cls ∈ GT := mg 83 (by decide +kernel) rfl
theorem nw_X5_become : Jvm.Cond.instanceMethod yX5_become ∈ GT := mg 506 (by decide +kernel) rfl
theorem ew_X5_become : Jvm.Cond.selects RX5 yX5_become yX5_become ∈ GT := mg 507 (by decide +kernel) rfl
theorem lk_X11_97 : LkV RX11 97 5 yX5_become cX5_become 4 none 3 := ⟨⟨mg 505 (by decide +kernel) rfl, cw_X5_become, iw_X5_become, ⟨by decide, by decide, by decide⟩⟩, nw_X5_become, RX5, _, _, ew_X5_become, rfl, by decide⟩
theorem cw_X0_paperAt : Jvm.Cond.code yX0_paperAt cX0_paperAt 2 (some (.object "PaperAger$Paper")) ∈ GT := mg 520 (by decide +kernel) rfl
theorem iw_X0_paperAt : Jvm.Cond.initialized yX0_paperAt.cls ∈ GT := mg 78 (by decide +kernel) rfl
theorem nw_X0_paperAt : Jvm.Cond.instanceMethod yX0_paperAt ∈ GT := mg 518 (by decide +kernel) rfl
theorem ew_X0_paperAt : Jvm.Cond.selects RX0 yX0_paperAt yX0_paperAt ∈ GT := mg 519 (by decide +kernel) rfl
theorem lk_X11_102 : LkV RX11 102 0 yX0_paperAt cX0_paperAt 2 (some (.object "PaperAger$Paper")) 1 := ⟨⟨mg 517 (by decide +kernel) rfl, cw_X0_paperAt, iw_X0_paperAt, ⟨by decide, by decide, by decide⟩⟩, nw_X0_paperAt, RX0, _, _, ew_X0_paperAt, rfl, by decide⟩
theorem cw_X0_changeShelves : Jvm.Cond.code yX0_changeShelves cX0_changeShelves 4 none ∈ GT := mg 528 (by decide +kernel) rfl
theorem iw_X0_changeShelves : Jvm.Cond.initialized yX0_changeShelves.cls ∈ GT := mg 78 (by decide +kernel) rfl
theorem nw_X0_changeShelves : Jvm.Cond.instanceMethod yX0_changeShelves ∈ GT := mg 526 (by decide +kernel) rfl
theorem ew_X0_changeShelves : Jvm.Cond.selects RX0 yX0_changeShelves yX0_changeShelves ∈ GT := mg 527 (by decide +kernel) rfl
theorem lk_X11_109 : LkV RX11 109 0 yX0_changeShelves cX0_changeShelves 4 none 2 := ⟨⟨mg 525 (by decide +kernel) rfl, cw_X0_changeShelves, iw_X0_changeShelves, ⟨by decide, by decide, by decide⟩⟩, nw_X0_changeShelves, RX0, _, _, ew_X0_changeShelves, rfl, by decide⟩
theorem cw_X0_burn : Jvm.Cond.code yX0_burn cX0_burn 3 (some .int) ∈ GT := mg 536 (by decide +kernel) rfl
theorem iw_X0_burn : Jvm.Cond.initialized yX0_burn.cls ∈ GT := mg 78 (by decide +kernel) rfl
theorem nw_X0_burn : Jvm.Cond.instanceMethod yX0_burn ∈ GT := mg 534 (by decide +kernel) rfl
theorem ew_X0_burn : Jvm.Cond.selects RX0 yX0_burn yX0_burn ∈ GT := mg 535 (by decide +kernel) rfl
theorem lk_X11_113 : LkV RX11 113 0 yX0_burn cX0_burn 3 (some .int) 1 := ⟨⟨mg 533 (by decide +kernel) rfl, cw_X0_burn, iw_X0_burn, ⟨by decide, by decide, by decide⟩⟩, nw_X0_burn, RX0, _, _, ew_X0_burn, rfl, by decide⟩
theorem cw_X6_livesOn : Jvm.Cond.code yX6_livesOn cX6_livesOn 2 (some .boolean) ∈ GT := mg 549 (by decide +kernel) rfl
theorem iw_X6_livesOn : Jvm.Cond.initialized yX6_livesOn.cls ∈ GT := mg 82 (by decide +kernel) rfl
theorem nw_X6_livesOn : Jvm.Cond.instanceMethod yX6_livesOn ∈ GT := mg 547 (by decide +kernel) rfl
theorem ew_X6_livesOn : Jvm.Cond.selects RX6 yX6_livesOn yX6_livesOn ∈ GT := mg 548 (by decide +kernel) rfl
theorem lk_X11_117 : LkV RX11 117 6 yX6_livesOn cX6_livesOn 2 (some .boolean) 1 := ⟨⟨mg 546 (by decide +kernel) rfl, cw_X6_livesOn, iw_X6_livesOn, ⟨by decide, by decide, by decide⟩⟩, nw_X6_livesOn, RX6, _, _, ew_X6_livesOn, rfl, by decide⟩
theorem cw_X0_ageOf : Jvm.Cond.code yX0_ageOf cX0_ageOf 4 (some .int) ∈ GT := mg 553 (by decide +kernel) rfl
theorem iw_X0_ageOf : Jvm.Cond.initialized yX0_ageOf.cls ∈ GT := mg 78 (by decide +kernel) rfl
theorem nw_X0_ageOf : Jvm.Cond.instanceMethod yX0_ageOf ∈ GT := mg 551 (by decide +kernel) rfl
theorem ew_X0_ageOf : Jvm.Cond.selects RX0 yX0_ageOf yX0_ageOf ∈ GT := mg 552 (by decide +kernel) rfl
theorem lk_X11_120 : LkV RX11 120 0 yX0_ageOf cX0_ageOf 4 (some .int) 2 := ⟨⟨mg 550 (by decide +kernel) rfl, cw_X0_ageOf, iw_X0_ageOf, ⟨by decide, by decide, by decide⟩⟩, nw_X0_ageOf, RX0, _, _, ew_X0_ageOf, rfl, by decide⟩
theorem cw_X1_hasRoom : Jvm.Cond.code yX1_hasRoom cX1_hasRoom 1 (some .boolean) ∈ GT := mg 587 (by decide +kernel) rfl
theorem iw_X1_hasRoom : Jvm.Cond.initialized yX1_hasRoom.cls ∈ GT := mg 79 (by decide +kernel) rfl
theorem nw_X1_hasRoom : Jvm.Cond.instanceMethod yX1_hasRoom ∈ GT := mg 585 (by decide +kernel) rfl
theorem ew_X1_hasRoom : Jvm.Cond.selects RX1 yX1_hasRoom yX1_hasRoom ∈ GT := mg 586 (by decide +kernel) rfl
theorem lk_X11_128 : LkV RX11 128 1 yX1_hasRoom cX1_hasRoom 1 (some .boolean) 0 := ⟨⟨mg 584 (by decide +kernel) rfl, cw_X1_hasRoom, iw_X1_hasRoom, ⟨by decide, by decide, by decide⟩⟩, nw_X1_hasRoom, RX1, _, _, ew_X1_hasRoom, rfl, by decide⟩
theorem cw_X10_keep : Jvm.Cond.code yX10_keep cX10_keep 3 none ∈ GT := mg 591 (by decide +kernel) rfl
theorem iw_X10_keep : Jvm.Cond.initialized yX10_keep.cls ∈ GT := mg 87 (by decide +kernel) rfl
theorem nw_X10_keep : Jvm.Cond.instanceMethod yX10_keep ∈ GT := mg 589 (by decide +kernel) rfl
theorem ew_X10_keep : Jvm.Cond.selects RX10 yX10_keep yX10_keep ∈ GT := mg 590 (by decide +kernel) rfl
theorem lk_X11_134 : LkV RX11 134 10 yX10_keep cX10_keep 3 none 2 := ⟨⟨mg 588 (by decide +kernel) rfl, cw_X10_keep, iw_X10_keep, ⟨by decide, by decide, by decide⟩⟩, nw_X10_keep, RX10, _, _, ew_X10_keep, rfl, by decide⟩
theorem cw_X6_yearsOn : Jvm.Cond.code yX6_yearsOn cX6_yearsOn 2 (some .int) ∈ GT := mg 558 (by decide +kernel) rfl
theorem iw_X6_yearsOn : Jvm.Cond.initialized yX6_yearsOn.cls ∈ GT := mg 82 (by decide +kernel) rfl
theorem nw_X6_yearsOn : Jvm.Cond.instanceMethod yX6_yearsOn ∈ GT := mg 556 (by decide +kernel) rfl
theorem ew_X6_yearsOn : Jvm.Cond.selects RX6 yX6_yearsOn yX6_yearsOn ∈ GT := mg 557 (by decide +kernel) rfl
theorem lk_X11_138 : LkV RX11 138 6 yX6_yearsOn cX6_yearsOn 2 (some .int) 1 := ⟨⟨mg 597 (by decide +kernel) rfl, cw_X6_yearsOn, iw_X6_yearsOn, ⟨by decide, by decide, by decide⟩⟩, nw_X6_yearsOn, RX6, _, _, ew_X6_yearsOn, rfl, by decide⟩
theorem cw_X5_takeReading : Jvm.Cond.code yX5_takeReading cX5_takeReading 4 none ∈ GT := mg 601 (by decide +kernel) rfl
theorem iw_X5_takeReading : Jvm.Cond.initialized yX5_takeReading.cls ∈ GT := mg 83 (by decide +kernel) rfl
theorem nw_X5_takeReading : Jvm.Cond.instanceMethod yX5_takeReading ∈ GT := mg 599 (by decide +kernel) rfl
theorem ew_X5_takeReading : Jvm.Cond.selects RX5 yX5_takeReading yX5_takeReading ∈ GT := mg 600 (by decide +kernel) rfl
theorem lk_X11_141 : LkV RX11 141 5 yX5_takeReading cX5_takeReading 4 none 3 := ⟨⟨mg 598 (by decide +kernel) rfl, cw_X5_takeReading, iw_X5_takeReading, ⟨by decide, by decide, by decide⟩⟩, nw_X5_takeReading, RX5, _, _, ew_X5_takeReading, rfl, by decide⟩
theorem cw_X1_write : Jvm.Cond.code yX1_write cX1_write 7 none ∈ GT := mg 605 (by decide +kernel) rfl
theorem iw_X1_write : Jvm.Cond.initialized yX1_write.cls ∈ GT := mg 79 (by decide +kernel) rfl
theorem nw_X1_write : Jvm.Cond.instanceMethod yX1_write ∈ GT := mg 603 (by decide +kernel) rfl
theorem ew_X1_write : Jvm.Cond.selects RX1 yX1_write yX1_write ∈ GT := mg 604 (by decide +kernel) rfl
theorem lk_X11_144 : LkV RX11 144 1 yX1_write cX1_write 7 none 5 := ⟨⟨mg 602 (by decide +kernel) rfl, cw_X1_write, iw_X1_write, ⟨by decide, by decide, by decide⟩⟩, nw_X1_write, RX1, _, _, ew_X1_write, rfl, by decide⟩
theorem cw_X0_endDay : Jvm.Cond.code yX0_endDay cX0_endDay 2 (some .int) ∈ GT := mg 618 (by decide +kernel) rfl
theorem iw_X0_endDay : Jvm.Cond.initialized yX0_endDay.cls ∈ GT := mg 78 (by decide +kernel) rfl
theorem nw_X0_endDay : Jvm.Cond.instanceMethod yX0_endDay ∈ GT := mg 616 (by decide +kernel) rfl
theorem ew_X0_endDay : Jvm.Cond.selects RX0 yX0_endDay yX0_endDay ∈ GT := mg 617 (by decide +kernel) rfl
theorem lk_X11_151 : LkV RX11 151 0 yX0_endDay cX0_endDay 2 (some .int) 0 := ⟨⟨mg 615 (by decide +kernel) rfl, cw_X0_endDay, iw_X0_endDay, ⟨by decide, by decide, by decide⟩⟩, nw_X0_endDay, RX0, _, _, ew_X0_endDay, rfl, by decide⟩
theorem cw_X7_hasRoom : Jvm.Cond.code yX7_hasRoom cX7_hasRoom 2 (some .boolean) ∈ GT := mg 648 (by decide +kernel) rfl
theorem iw_X7_hasRoom : Jvm.Cond.initialized yX7_hasRoom.cls ∈ GT := mg 84 (by decide +kernel) rfl
theorem nw_X7_hasRoom : Jvm.Cond.instanceMethod yX7_hasRoom ∈ GT := mg 646 (by decide +kernel) rfl
theorem ew_X7_hasRoom : Jvm.Cond.selects RX7 yX7_hasRoom yX7_hasRoom ∈ GT := mg 647 (by decide +kernel) rfl
theorem lk_X11_155 : LkV RX11 155 7 yX7_hasRoom cX7_hasRoom 2 (some .boolean) 1 := ⟨⟨mg 645 (by decide +kernel) rfl, cw_X7_hasRoom, iw_X7_hasRoom, ⟨by decide, by decide, by decide⟩⟩, nw_X7_hasRoom, RX7, _, _, ew_X7_hasRoom, rfl, by decide⟩
theorem cw_X7_put : Jvm.Cond.code yX7_put cX7_put 2 none ∈ GT := mg 652 (by decide +kernel) rfl
theorem iw_X7_put : Jvm.Cond.initialized yX7_put.cls ∈ GT := mg 84 (by decide +kernel) rfl
theorem nw_X7_put : Jvm.Cond.instanceMethod yX7_put ∈ GT := mg 650 (by decide +kernel) rfl
theorem ew_X7_put : Jvm.Cond.selects RX7 yX7_put yX7_put ∈ GT := mg 651 (by decide +kernel) rfl
theorem lk_X11_157 : LkV RX11 157 7 yX7_put cX7_put 2 none 1 := ⟨⟨mg 649 (by decide +kernel) rfl, cw_X7_put, iw_X7_put, ⟨by decide, by decide, by decide⟩⟩, nw_X7_put, RX7, _, _, ew_X7_put, rfl, by decide⟩
theorem cw_X4_readAll : Jvm.Cond.code yX4_readAll cX4_readAll 3 (some .boolean) ∈ GT := mg 665 (by decide +kernel) rfl
theorem iw_X4_readAll : Jvm.Cond.initialized yX4_readAll.cls ∈ GT := mg 85 (by decide +kernel) rfl
theorem nw_X4_readAll : Jvm.Cond.instanceMethod yX4_readAll ∈ GT := mg 663 (by decide +kernel) rfl
theorem ew_X4_readAll : Jvm.Cond.selects RX4 yX4_readAll yX4_readAll ∈ GT := mg 664 (by decide +kernel) rfl
theorem lk_X11_164 : LkV RX11 164 4 yX4_readAll cX4_readAll 3 (some .boolean) 1 := ⟨⟨mg 662 (by decide +kernel) rfl, cw_X4_readAll, iw_X4_readAll, ⟨by decide, by decide, by decide⟩⟩, nw_X4_readAll, RX4, _, _, ew_X4_readAll, rfl, by decide⟩
theorem cw_X3_copyFrom : Jvm.Cond.code yX3_copyFrom cX3_copyFrom 2 none ∈ GT := mg 907 (by decide +kernel) rfl
theorem iw_X3_copyFrom : Jvm.Cond.initialized yX3_copyFrom.cls ∈ GT := mg 81 (by decide +kernel) rfl
theorem nw_X3_copyFrom : Jvm.Cond.instanceMethod yX3_copyFrom ∈ GT := mg 905 (by decide +kernel) rfl
theorem ew_X3_copyFrom : Jvm.Cond.selects RX3 yX3_copyFrom yX3_copyFrom ∈ GT := mg 906 (by decide +kernel) rfl
theorem lk_X11_175 : LkV RX11 175 3 yX3_copyFrom cX3_copyFrom 2 none 1 := ⟨⟨mg 904 (by decide +kernel) rfl, cw_X3_copyFrom, iw_X3_copyFrom, ⟨by decide, by decide, by decide⟩⟩, nw_X3_copyFrom, RX3, _, _, ew_X3_copyFrom, rfl, by decide⟩
theorem cw_X0_stayOf : Jvm.Cond.code yX0_stayOf cX0_stayOf 4 (some .int) ∈ GT := mg 926 (by decide +kernel) rfl
theorem iw_X0_stayOf : Jvm.Cond.initialized yX0_stayOf.cls ∈ GT := mg 78 (by decide +kernel) rfl
theorem nw_X0_stayOf : Jvm.Cond.instanceMethod yX0_stayOf ∈ GT := mg 924 (by decide +kernel) rfl
theorem ew_X0_stayOf : Jvm.Cond.selects RX0 yX0_stayOf yX0_stayOf ∈ GT := mg 925 (by decide +kernel) rfl
theorem lk_X11_205 : LkV RX11 205 0 yX0_stayOf cX0_stayOf 4 (some .int) 1 := ⟨⟨mg 923 (by decide +kernel) rfl, cw_X0_stayOf, iw_X0_stayOf, ⟨by decide, by decide, by decide⟩⟩, nw_X0_stayOf, RX0, _, _, ew_X0_stayOf, rfl, by decide⟩
theorem cw_X0_leasesOf : Jvm.Cond.code yX0_leasesOf cX0_leasesOf 4 (some .int) ∈ GT := mg 640 (by decide +kernel) rfl
theorem iw_X0_leasesOf : Jvm.Cond.initialized yX0_leasesOf.cls ∈ GT := mg 78 (by decide +kernel) rfl
theorem nw_X0_leasesOf : Jvm.Cond.instanceMethod yX0_leasesOf ∈ GT := mg 638 (by decide +kernel) rfl
theorem ew_X0_leasesOf : Jvm.Cond.selects RX0 yX0_leasesOf yX0_leasesOf ∈ GT := mg 639 (by decide +kernel) rfl
theorem lk_X11_225 : LkV RX11 225 0 yX0_leasesOf cX0_leasesOf 4 (some .int) 1 := ⟨⟨mg 933 (by decide +kernel) rfl, cw_X0_leasesOf, iw_X0_leasesOf, ⟨by decide, by decide, by decide⟩⟩, nw_X0_leasesOf, RX0, _, _, ew_X0_leasesOf, rfl, by decide⟩
theorem cw_X1_entry : Jvm.Cond.code yX1_entry cX1_entry 4 (some .int) ∈ GT := mg 941 (by decide +kernel) rfl
theorem iw_X1_entry : Jvm.Cond.initialized yX1_entry.cls ∈ GT := mg 79 (by decide +kernel) rfl
theorem nw_X1_entry : Jvm.Cond.instanceMethod yX1_entry ∈ GT := mg 939 (by decide +kernel) rfl
theorem ew_X1_entry : Jvm.Cond.selects RX1 yX1_entry yX1_entry ∈ GT := mg 940 (by decide +kernel) rfl
theorem lk_X11_228 : LkV RX11 228 1 yX1_entry cX1_entry 4 (some .int) 2 := ⟨⟨mg 938 (by decide +kernel) rfl, cw_X1_entry, iw_X1_entry, ⟨by decide, by decide, by decide⟩⟩, nw_X1_entry, RX1, _, _, ew_X1_entry, rfl, by decide⟩
theorem cw_X2_hasRoom : Jvm.Cond.code yX2_hasRoom cX2_hasRoom 1 (some .boolean) ∈ GT := mg 950 (by decide +kernel) rfl
theorem iw_X2_hasRoom : Jvm.Cond.initialized yX2_hasRoom.cls ∈ GT := mg 80 (by decide +kernel) rfl
theorem nw_X2_hasRoom : Jvm.Cond.instanceMethod yX2_hasRoom ∈ GT := mg 948 (by decide +kernel) rfl
theorem ew_X2_hasRoom : Jvm.Cond.selects RX2 yX2_hasRoom yX2_hasRoom ∈ GT := mg 949 (by decide +kernel) rfl
theorem lk_X11_236 : LkV RX11 236 2 yX2_hasRoom cX2_hasRoom 1 (some .boolean) 0 := ⟨⟨mg 947 (by decide +kernel) rfl, cw_X2_hasRoom, iw_X2_hasRoom, ⟨by decide, by decide, by decide⟩⟩, nw_X2_hasRoom, RX2, _, _, ew_X2_hasRoom, rfl, by decide⟩
theorem cw_X2_add : Jvm.Cond.code yX2_add cX2_add 5 (some .int) ∈ GT := mg 954 (by decide +kernel) rfl
theorem iw_X2_add : Jvm.Cond.initialized yX2_add.cls ∈ GT := mg 80 (by decide +kernel) rfl
theorem nw_X2_add : Jvm.Cond.instanceMethod yX2_add ∈ GT := mg 952 (by decide +kernel) rfl
theorem ew_X2_add : Jvm.Cond.selects RX2 yX2_add yX2_add ∈ GT := mg 953 (by decide +kernel) rfl
theorem lk_X11_239 : LkV RX11 239 2 yX2_add cX2_add 5 (some .int) 4 := ⟨⟨mg 951 (by decide +kernel) rfl, cw_X2_add, iw_X2_add, ⟨by decide, by decide, by decide⟩⟩, nw_X2_add, RX2, _, _, ew_X2_add, rfl, by decide⟩
theorem cw_X2_anyWentBy : Jvm.Cond.code yX2_anyWentBy cX2_anyWentBy 3 (some .boolean) ∈ GT := mg 963 (by decide +kernel) rfl
theorem iw_X2_anyWentBy : Jvm.Cond.initialized yX2_anyWentBy.cls ∈ GT := mg 80 (by decide +kernel) rfl
theorem nw_X2_anyWentBy : Jvm.Cond.instanceMethod yX2_anyWentBy ∈ GT := mg 961 (by decide +kernel) rfl
theorem ew_X2_anyWentBy : Jvm.Cond.selects RX2 yX2_anyWentBy yX2_anyWentBy ∈ GT := mg 962 (by decide +kernel) rfl
theorem lk_X11_243 : LkV RX11 243 2 yX2_anyWentBy cX2_anyWentBy 3 (some .boolean) 1 := ⟨⟨mg 960 (by decide +kernel) rfl, cw_X2_anyWentBy, iw_X2_anyWentBy, ⟨by decide, by decide, by decide⟩⟩, nw_X2_anyWentBy, RX2, _, _, ew_X2_anyWentBy, rfl, by decide⟩
theorem cw_X8_weigh : Jvm.Cond.code yX8_weigh cX8_weigh 5 none ∈ GT := mg 967 (by decide +kernel) rfl
theorem iw_X8_weigh : Jvm.Cond.initialized yX8_weigh.cls ∈ GT := mg 88 (by decide +kernel) rfl
theorem nw_X8_weigh : Jvm.Cond.instanceMethod yX8_weigh ∈ GT := mg 965 (by decide +kernel) rfl
theorem ew_X8_weigh : Jvm.Cond.selects RX8 yX8_weigh yX8_weigh ∈ GT := mg 966 (by decide +kernel) rfl
theorem lk_X11_246 : LkV RX11 246 8 yX8_weigh cX8_weigh 5 none 1 := ⟨⟨mg 964 (by decide +kernel) rfl, cw_X8_weigh, iw_X8_weigh, ⟨by decide, by decide, by decide⟩⟩, nw_X8_weigh, RX8, _, _, ew_X8_weigh, rfl, by decide⟩
theorem cw_X8_leastSet : Jvm.Cond.code yX8_leastSet cX8_leastSet 5 (some .int) ∈ GT := mg 986 (by decide +kernel) rfl
theorem iw_X8_leastSet : Jvm.Cond.initialized yX8_leastSet.cls ∈ GT := mg 88 (by decide +kernel) rfl
theorem nw_X8_leastSet : Jvm.Cond.instanceMethod yX8_leastSet ∈ GT := mg 984 (by decide +kernel) rfl
theorem ew_X8_leastSet : Jvm.Cond.selects RX8 yX8_leastSet yX8_leastSet ∈ GT := mg 985 (by decide +kernel) rfl
theorem lk_X11_250 : LkV RX11 250 8 yX8_leastSet cX8_leastSet 5 (some .int) 1 := ⟨⟨mg 983 (by decide +kernel) rfl, cw_X8_leastSet, iw_X8_leastSet, ⟨by decide, by decide, by decide⟩⟩, nw_X8_leastSet, RX8, _, _, ew_X8_leastSet, rfl, by decide⟩
theorem cw_X8_readerOf : Jvm.Cond.code yX8_readerOf cX8_readerOf 4 (some .int) ∈ GT := mg 1000 (by decide +kernel) rfl
theorem iw_X8_readerOf : Jvm.Cond.initialized yX8_readerOf.cls ∈ GT := mg 88 (by decide +kernel) rfl
theorem nw_X8_readerOf : Jvm.Cond.instanceMethod yX8_readerOf ∈ GT := mg 998 (by decide +kernel) rfl
theorem ew_X8_readerOf : Jvm.Cond.selects RX8 yX8_readerOf yX8_readerOf ∈ GT := mg 999 (by decide +kernel) rfl
theorem lk_X11_254 : LkV RX11 254 8 yX8_readerOf cX8_readerOf 4 (some .int) 3 := ⟨⟨mg 997 (by decide +kernel) rfl, cw_X8_readerOf, iw_X8_readerOf, ⟨by decide, by decide, by decide⟩⟩, nw_X8_readerOf, RX8, _, _, ew_X8_readerOf, rfl, by decide⟩
theorem cw_X8_seekThumbs : Jvm.Cond.code yX8_seekThumbs cX8_seekThumbs 8 none ∈ GT := mg 1012 (by decide +kernel) rfl
theorem iw_X8_seekThumbs : Jvm.Cond.initialized yX8_seekThumbs.cls ∈ GT := mg 88 (by decide +kernel) rfl
theorem nw_X8_seekThumbs : Jvm.Cond.instanceMethod yX8_seekThumbs ∈ GT := mg 1010 (by decide +kernel) rfl
theorem ew_X8_seekThumbs : Jvm.Cond.selects RX8 yX8_seekThumbs yX8_seekThumbs ∈ GT := mg 1011 (by decide +kernel) rfl
theorem lk_X11_258 : LkV RX11 258 8 yX8_seekThumbs cX8_seekThumbs 8 none 3 := ⟨⟨mg 1009 (by decide +kernel) rfl, cw_X8_seekThumbs, iw_X8_seekThumbs, ⟨by decide, by decide, by decide⟩⟩, nw_X8_seekThumbs, RX8, _, _, ew_X8_seekThumbs, rfl, by decide⟩
theorem cw_X0_countLeaps : Jvm.Cond.code yX0_countLeaps cX0_countLeaps 5 (some .int) ∈ GT := mg 1025 (by decide +kernel) rfl
theorem iw_X0_countLeaps : Jvm.Cond.initialized yX0_countLeaps.cls ∈ GT := mg 78 (by decide +kernel) rfl
theorem nw_X0_countLeaps : Jvm.Cond.instanceMethod yX0_countLeaps ∈ GT := mg 1023 (by decide +kernel) rfl
theorem ew_X0_countLeaps : Jvm.Cond.selects RX0 yX0_countLeaps yX0_countLeaps ∈ GT := mg 1024 (by decide +kernel) rfl
theorem lk_X11_271 : LkV RX11 271 0 yX0_countLeaps cX0_countLeaps 5 (some .int) 2 := ⟨⟨mg 1022 (by decide +kernel) rfl, cw_X0_countLeaps, iw_X0_countLeaps, ⟨by decide, by decide, by decide⟩⟩, nw_X0_countLeaps, RX0, _, _, ew_X0_countLeaps, rfl, by decide⟩
theorem cw_X0_firstLeap : Jvm.Cond.code yX0_firstLeap cX0_firstLeap 4 (some .int) ∈ GT := mg 1042 (by decide +kernel) rfl
theorem iw_X0_firstLeap : Jvm.Cond.initialized yX0_firstLeap.cls ∈ GT := mg 78 (by decide +kernel) rfl
theorem nw_X0_firstLeap : Jvm.Cond.instanceMethod yX0_firstLeap ∈ GT := mg 1040 (by decide +kernel) rfl
theorem ew_X0_firstLeap : Jvm.Cond.selects RX0 yX0_firstLeap yX0_firstLeap ∈ GT := mg 1041 (by decide +kernel) rfl
theorem lk_X11_274 : LkV RX11 274 0 yX0_firstLeap cX0_firstLeap 4 (some .int) 2 := ⟨⟨mg 1039 (by decide +kernel) rfl, cw_X0_firstLeap, iw_X0_firstLeap, ⟨by decide, by decide, by decide⟩⟩, nw_X0_firstLeap, RX0, _, _, ew_X0_firstLeap, rfl, by decide⟩
theorem cw_X0_nextForLease : Jvm.Cond.code yX0_nextForLease cX0_nextForLease 5 (some .int) ∈ GT := mg 636 (by decide +kernel) rfl
theorem iw_X0_nextForLease : Jvm.Cond.initialized yX0_nextForLease.cls ∈ GT := mg 78 (by decide +kernel) rfl
theorem nw_X0_nextForLease : Jvm.Cond.instanceMethod yX0_nextForLease ∈ GT := mg 634 (by decide +kernel) rfl
theorem ew_X0_nextForLease : Jvm.Cond.selects RX0 yX0_nextForLease yX0_nextForLease ∈ GT := mg 635 (by decide +kernel) rfl
theorem lk_X11_277 : LkV RX11 277 0 yX0_nextForLease cX0_nextForLease 5 (some .int) 0 := ⟨⟨mg 1047 (by decide +kernel) rfl, cw_X0_nextForLease, iw_X0_nextForLease, ⟨by decide, by decide, by decide⟩⟩, nw_X0_nextForLease, RX0, _, _, ew_X0_nextForLease, rfl, by decide⟩
theorem cw_X0_agesOn : Jvm.Cond.code yX0_agesOn cX0_agesOn 4 (some .int) ∈ GT := mg 1055 (by decide +kernel) rfl
theorem iw_X0_agesOn : Jvm.Cond.initialized yX0_agesOn.cls ∈ GT := mg 78 (by decide +kernel) rfl
theorem nw_X0_agesOn : Jvm.Cond.instanceMethod yX0_agesOn ∈ GT := mg 1053 (by decide +kernel) rfl
theorem ew_X0_agesOn : Jvm.Cond.selects RX0 yX0_agesOn yX0_agesOn ∈ GT := mg 1054 (by decide +kernel) rfl
theorem lk_X11_280 : LkV RX11 280 0 yX0_agesOn cX0_agesOn 4 (some .int) 1 := ⟨⟨mg 1052 (by decide +kernel) rfl, cw_X0_agesOn, iw_X0_agesOn, ⟨by decide, by decide, by decide⟩⟩, nw_X0_agesOn, RX0, _, _, ew_X0_agesOn, rfl, by decide⟩
theorem cw_X0_papersOn : Jvm.Cond.code yX0_papersOn cX0_papersOn 4 (some .int) ∈ GT := mg 541 (by decide +kernel) rfl
theorem iw_X0_papersOn : Jvm.Cond.initialized yX0_papersOn.cls ∈ GT := mg 78 (by decide +kernel) rfl
theorem nw_X0_papersOn : Jvm.Cond.instanceMethod yX0_papersOn ∈ GT := mg 539 (by decide +kernel) rfl
theorem ew_X0_papersOn : Jvm.Cond.selects RX0 yX0_papersOn yX0_papersOn ∈ GT := mg 540 (by decide +kernel) rfl
theorem lk_X11_283 : LkV RX11 283 0 yX0_papersOn cX0_papersOn 4 (some .int) 1 := ⟨⟨mg 1056 (by decide +kernel) rfl, cw_X0_papersOn, iw_X0_papersOn, ⟨by decide, by decide, by decide⟩⟩, nw_X0_papersOn, RX0, _, _, ew_X0_papersOn, rfl, by decide⟩
theorem cw_X10_latestWrote : Jvm.Cond.code yX10_latestWrote cX10_latestWrote 1 (some .boolean) ∈ GT := mg 1068 (by decide +kernel) rfl
theorem iw_X10_latestWrote : Jvm.Cond.initialized yX10_latestWrote.cls ∈ GT := mg 87 (by decide +kernel) rfl
theorem nw_X10_latestWrote : Jvm.Cond.instanceMethod yX10_latestWrote ∈ GT := mg 1066 (by decide +kernel) rfl
theorem ew_X10_latestWrote : Jvm.Cond.selects RX10 yX10_latestWrote yX10_latestWrote ∈ GT := mg 1067 (by decide +kernel) rfl
theorem lk_X11_287 : LkV RX11 287 10 yX10_latestWrote cX10_latestWrote 1 (some .boolean) 0 := ⟨⟨mg 1065 (by decide +kernel) rfl, cw_X10_latestWrote, iw_X10_latestWrote, ⟨by decide, by decide, by decide⟩⟩, nw_X10_latestWrote, RX10, _, _, ew_X10_latestWrote, rfl, by decide⟩
theorem cw_X10_takeLatest : Jvm.Cond.code yX10_takeLatest cX10_takeLatest 2 (some (.object "PaperAger$Paper")) ∈ GT := mg 1072 (by decide +kernel) rfl
theorem iw_X10_takeLatest : Jvm.Cond.initialized yX10_takeLatest.cls ∈ GT := mg 87 (by decide +kernel) rfl
theorem nw_X10_takeLatest : Jvm.Cond.instanceMethod yX10_takeLatest ∈ GT := mg 1070 (by decide +kernel) rfl
theorem ew_X10_takeLatest : Jvm.Cond.selects RX10 yX10_takeLatest yX10_takeLatest ∈ GT := mg 1071 (by decide +kernel) rfl
theorem lk_X11_290 : LkV RX11 290 10 yX10_takeLatest cX10_takeLatest 2 (some (.object "PaperAger$Paper")) 0 := ⟨⟨mg 1069 (by decide +kernel) rfl, cw_X10_takeLatest, iw_X10_takeLatest, ⟨by decide, by decide, by decide⟩⟩, nw_X10_takeLatest, RX10, _, _, ew_X10_takeLatest, rfl, by decide⟩
theorem cw_X5_copyFrom : Jvm.Cond.code yX5_copyFrom cX5_copyFrom 2 none ∈ GT := mg 595 (by decide +kernel) rfl
theorem iw_X5_copyFrom : Jvm.Cond.initialized yX5_copyFrom.cls ∈ GT := mg 83 (by decide +kernel) rfl
theorem nw_X5_copyFrom : Jvm.Cond.instanceMethod yX5_copyFrom ∈ GT := mg 593 (by decide +kernel) rfl
theorem ew_X5_copyFrom : Jvm.Cond.selects RX5 yX5_copyFrom yX5_copyFrom ∈ GT := mg 594 (by decide +kernel) rfl
theorem lk_X11_297 : LkV RX11 297 5 yX5_copyFrom cX5_copyFrom 2 none 1 := ⟨⟨mg 1073 (by decide +kernel) rfl, cw_X5_copyFrom, iw_X5_copyFrom, ⟨by decide, by decide, by decide⟩⟩, nw_X5_copyFrom, RX5, _, _, ew_X5_copyFrom, rfl, by decide⟩
theorem cw_X1_dropLast : Jvm.Cond.code yX1_dropLast cX1_dropLast 1 none ∈ GT := mg 1077 (by decide +kernel) rfl
theorem iw_X1_dropLast : Jvm.Cond.initialized yX1_dropLast.cls ∈ GT := mg 79 (by decide +kernel) rfl
theorem nw_X1_dropLast : Jvm.Cond.instanceMethod yX1_dropLast ∈ GT := mg 1075 (by decide +kernel) rfl
theorem ew_X1_dropLast : Jvm.Cond.selects RX1 yX1_dropLast yX1_dropLast ∈ GT := mg 1076 (by decide +kernel) rfl
theorem lk_X11_300 : LkV RX11 300 1 yX1_dropLast cX1_dropLast 1 none 0 := ⟨⟨mg 1074 (by decide +kernel) rfl, cw_X1_dropLast, iw_X1_dropLast, ⟨by decide, by decide, by decide⟩⟩, nw_X1_dropLast, RX1, _, _, ew_X1_dropLast, rfl, by decide⟩
theorem cw_X0_copyFrom : Jvm.Cond.code yX0_copyFrom cX0_copyFrom 3 none ∈ GT := mg 1085 (by decide +kernel) rfl
theorem iw_X0_copyFrom : Jvm.Cond.initialized yX0_copyFrom.cls ∈ GT := mg 78 (by decide +kernel) rfl
theorem nw_X0_copyFrom : Jvm.Cond.instanceMethod yX0_copyFrom ∈ GT := mg 1083 (by decide +kernel) rfl
theorem ew_X0_copyFrom : Jvm.Cond.selects RX0 yX0_copyFrom yX0_copyFrom ∈ GT := mg 1084 (by decide +kernel) rfl
theorem lk_X11_303 : LkV RX11 303 0 yX0_copyFrom cX0_copyFrom 3 none 1 := ⟨⟨mg 1082 (by decide +kernel) rfl, cw_X0_copyFrom, iw_X0_copyFrom, ⟨by decide, by decide, by decide⟩⟩, nw_X0_copyFrom, RX0, _, _, ew_X0_copyFrom, rfl, by decide⟩
theorem lk_X0_68 : LkSN RX0 68 yX11_within cX11_within 3 (some .boolean) 3 := ⟨⟨⟨"PaperAger", List.mem_filter.mpr ⟨List.mem_of_getElem? (i := 492) (by decide +kernel), rfl⟩⟩, cw_X11_within, iw_X11_within, ⟨by decide, by decide, by decide⟩⟩, sw_X11_within⟩
theorem lk_X0_75 : LkV RX0 75 0 yX0_readerAt cX0_readerAt 2 (some (.object "PaperAger$Reader")) 1 := ⟨⟨mg 554 (by decide +kernel) rfl, cw_X0_readerAt, iw_X0_readerAt, ⟨by decide, by decide, by decide⟩⟩, nw_X0_readerAt, RX0, _, _, ew_X0_readerAt, rfl, by decide⟩
theorem lk_X0_82 : LkV RX0 82 6 yX6_yearsOn cX6_yearsOn 2 (some .int) 1 := ⟨⟨mg 555 (by decide +kernel) rfl, cw_X6_yearsOn, iw_X6_yearsOn, ⟨by decide, by decide, by decide⟩⟩, nw_X6_yearsOn, RX6, _, _, ew_X6_yearsOn, rfl, by decide⟩
theorem lk_X0_101 : LkV RX0 101 6 yX6_livesOn cX6_livesOn 2 (some .boolean) 1 := ⟨⟨mg 562 (by decide +kernel) rfl, cw_X6_livesOn, iw_X6_livesOn, ⟨by decide, by decide, by decide⟩⟩, nw_X6_livesOn, RX6, _, _, ew_X6_livesOn, rfl, by decide⟩
theorem cw_X3_ageBy : Jvm.Cond.code yX3_ageBy cX3_ageBy 4 (some .int) ∈ GT := mg 566 (by decide +kernel) rfl
theorem iw_X3_ageBy : Jvm.Cond.initialized yX3_ageBy.cls ∈ GT := mg 81 (by decide +kernel) rfl
theorem nw_X3_ageBy : Jvm.Cond.instanceMethod yX3_ageBy ∈ GT := mg 564 (by decide +kernel) rfl
theorem ew_X3_ageBy : Jvm.Cond.selects RX3 yX3_ageBy yX3_ageBy ∈ GT := mg 565 (by decide +kernel) rfl
theorem lk_X0_108 : LkV RX0 108 3 yX3_ageBy cX3_ageBy 4 (some .int) 1 := ⟨⟨mg 563 (by decide +kernel) rfl, cw_X3_ageBy, iw_X3_ageBy, ⟨by decide, by decide, by decide⟩⟩, nw_X3_ageBy, RX3, _, _, ew_X3_ageBy, rfl, by decide⟩
theorem lk_X0_112 : LkV RX0 112 0 yX0_ageOf cX0_ageOf 4 (some .int) 2 := ⟨⟨mg 927 (by decide +kernel) rfl, cw_X0_ageOf, iw_X0_ageOf, ⟨by decide, by decide, by decide⟩⟩, nw_X0_ageOf, RX0, _, _, ew_X0_ageOf, rfl, by decide⟩
theorem cw_X5_becomeUnread : Jvm.Cond.code yX5_becomeUnread cX5_becomeUnread 2 none ∈ GT := mg 512 (by decide +kernel) rfl
theorem iw_X5_becomeUnread : Jvm.Cond.initialized yX5_becomeUnread.cls ∈ GT := mg 83 (by decide +kernel) rfl
theorem nw_X5_becomeUnread : Jvm.Cond.instanceMethod yX5_becomeUnread ∈ GT := mg 510 (by decide +kernel) rfl
theorem ew_X5_becomeUnread : Jvm.Cond.selects RX5 yX5_becomeUnread yX5_becomeUnread ∈ GT := mg 511 (by decide +kernel) rfl
theorem lk_X0_116 : LkV RX0 116 5 yX5_becomeUnread cX5_becomeUnread 2 none 1 := ⟨⟨mg 537 (by decide +kernel) rfl, cw_X5_becomeUnread, iw_X5_becomeUnread, ⟨by decide, by decide, by decide⟩⟩, nw_X5_becomeUnread, RX5, _, _, ew_X5_becomeUnread, rfl, by decide⟩
theorem lk_X0_120 : LkV RX0 120 0 yX0_papersOn cX0_papersOn 4 (some .int) 1 := ⟨⟨mg 538 (by decide +kernel) rfl, cw_X0_papersOn, iw_X0_papersOn, ⟨by decide, by decide, by decide⟩⟩, nw_X0_papersOn, RX0, _, _, ew_X0_papersOn, rfl, by decide⟩
theorem cw_X0_drawDeaths : Jvm.Cond.code yX0_drawDeaths cX0_drawDeaths 4 (some .int) ∈ GT := mg 622 (by decide +kernel) rfl
theorem iw_X0_drawDeaths : Jvm.Cond.initialized yX0_drawDeaths.cls ∈ GT := mg 78 (by decide +kernel) rfl
theorem nw_X0_drawDeaths : Jvm.Cond.instanceMethod yX0_drawDeaths ∈ GT := mg 621 (by decide +kernel) rfl
theorem ew_X0_drawDeaths : Jvm.Cond.selects RX0 yX0_drawDeaths yX0_drawDeaths ∈ GT := mg 1 (by decide +kernel) rfl
theorem lk_X0_123 : LkV RX0 123 0 yX0_drawDeaths cX0_drawDeaths 4 (some .int) 0 := ⟨⟨mg 619 (by decide +kernel) rfl, cw_X0_drawDeaths, iw_X0_drawDeaths, ⟨by decide, by decide, by decide⟩⟩, nw_X0_drawDeaths, RX0, _, _, ew_X0_drawDeaths, rfl, by decide⟩
theorem cw_X0_passLeases : Jvm.Cond.code yX0_passLeases cX0_passLeases 3 none ∈ GT := mg 632 (by decide +kernel) rfl
theorem iw_X0_passLeases : Jvm.Cond.initialized yX0_passLeases.cls ∈ GT := mg 78 (by decide +kernel) rfl
theorem nw_X0_passLeases : Jvm.Cond.instanceMethod yX0_passLeases ∈ GT := mg 631 (by decide +kernel) rfl
theorem ew_X0_passLeases : Jvm.Cond.selects RX0 yX0_passLeases yX0_passLeases ∈ GT := mg 3 (by decide +kernel) rfl
theorem lk_X0_127 : LkV RX0 127 0 yX0_passLeases cX0_passLeases 3 none 0 := ⟨⟨mg 629 (by decide +kernel) rfl, cw_X0_passLeases, iw_X0_passLeases, ⟨by decide, by decide, by decide⟩⟩, nw_X0_passLeases, RX0, _, _, ew_X0_passLeases, rfl, by decide⟩
theorem cw_X0_drawTenThousandth : Jvm.Cond.code yX0_drawTenThousandth cX0_drawTenThousandth 1 (some .int) ∈ GT := mg 626 (by decide +kernel) rfl
theorem iw_X0_drawTenThousandth : Jvm.Cond.initialized yX0_drawTenThousandth.cls ∈ GT := mg 78 (by decide +kernel) rfl
theorem nw_X0_drawTenThousandth : Jvm.Cond.instanceMethod yX0_drawTenThousandth ∈ GT := mg 625 (by decide +kernel) rfl
theorem ew_X0_drawTenThousandth : Jvm.Cond.selects RX0 yX0_drawTenThousandth yX0_drawTenThousandth ∈ GT := mg 2 (by decide +kernel) rfl
theorem lk_X0_133 : LkV RX0 133 0 yX0_drawTenThousandth cX0_drawTenThousandth 1 (some .int) 0 := ⟨⟨mg 623 (by decide +kernel) rfl, cw_X0_drawTenThousandth, iw_X0_drawTenThousandth, ⟨by decide, by decide, by decide⟩⟩, nw_X0_drawTenThousandth, RX0, _, _, ew_X0_drawTenThousandth, rfl, by decide⟩
theorem lk_X0_144 : LkV RX0 144 0 yX0_nextForLease cX0_nextForLease 5 (some .int) 0 := ⟨⟨mg 633 (by decide +kernel) rfl, cw_X0_nextForLease, iw_X0_nextForLease, ⟨by decide, by decide, by decide⟩⟩, nw_X0_nextForLease, RX0, _, _, ew_X0_nextForLease, rfl, by decide⟩
theorem lk_X0_147 : LkV RX0 147 0 yX0_leasesOf cX0_leasesOf 4 (some .int) 1 := ⟨⟨mg 637 (by decide +kernel) rfl, cw_X0_leasesOf, iw_X0_leasesOf, ⟨by decide, by decide, by decide⟩⟩, nw_X0_leasesOf, RX0, _, _, ew_X0_leasesOf, rfl, by decide⟩
theorem cw_X0_isLeap : Jvm.Cond.code yX0_isLeap cX0_isLeap 5 (some .boolean) ∈ GT := mg 1029 (by decide +kernel) rfl
theorem iw_X0_isLeap : Jvm.Cond.initialized yX0_isLeap.cls ∈ GT := mg 78 (by decide +kernel) rfl
theorem nw_X0_isLeap : Jvm.Cond.instanceMethod yX0_isLeap ∈ GT := mg 1028 (by decide +kernel) rfl
theorem ew_X0_isLeap : Jvm.Cond.selects RX0 yX0_isLeap yX0_isLeap ∈ GT := mg 25 (by decide +kernel) rfl
theorem lk_X0_153 : LkV RX0 153 0 yX0_isLeap cX0_isLeap 5 (some .boolean) 3 := ⟨⟨mg 1026 (by decide +kernel) rfl, cw_X0_isLeap, iw_X0_isLeap, ⟨by decide, by decide, by decide⟩⟩, nw_X0_isLeap, RX0, _, _, ew_X0_isLeap, rfl, by decide⟩
theorem lk_X0_156 : LkV RX0 156 1 yX1_entry cX1_entry 4 (some .int) 2 := ⟨⟨mg 1030 (by decide +kernel) rfl, cw_X1_entry, iw_X1_entry, ⟨by decide, by decide, by decide⟩⟩, nw_X1_entry, RX1, _, _, ew_X1_entry, rfl, by decide⟩
theorem cw_X1_leapOf : Jvm.Cond.code yX1_leapOf cX1_leapOf 2 (some .int) ∈ GT := mg 1034 (by decide +kernel) rfl
theorem iw_X1_leapOf : Jvm.Cond.initialized yX1_leapOf.cls ∈ GT := mg 79 (by decide +kernel) rfl
theorem nw_X1_leapOf : Jvm.Cond.instanceMethod yX1_leapOf ∈ GT := mg 1032 (by decide +kernel) rfl
theorem ew_X1_leapOf : Jvm.Cond.selects RX1 yX1_leapOf yX1_leapOf ∈ GT := mg 1033 (by decide +kernel) rfl
theorem lk_X0_160 : LkV RX0 160 1 yX1_leapOf cX1_leapOf 2 (some .int) 1 := ⟨⟨mg 1031 (by decide +kernel) rfl, cw_X1_leapOf, iw_X1_leapOf, ⟨by decide, by decide, by decide⟩⟩, nw_X1_leapOf, RX1, _, _, ew_X1_leapOf, rfl, by decide⟩
theorem cw_X6_copyFrom : Jvm.Cond.code yX6_copyFrom cX6_copyFrom 2 none ∈ GT := mg 1089 (by decide +kernel) rfl
theorem iw_X6_copyFrom : Jvm.Cond.initialized yX6_copyFrom.cls ∈ GT := mg 82 (by decide +kernel) rfl
theorem nw_X6_copyFrom : Jvm.Cond.instanceMethod yX6_copyFrom ∈ GT := mg 1087 (by decide +kernel) rfl
theorem ew_X6_copyFrom : Jvm.Cond.selects RX6 yX6_copyFrom yX6_copyFrom ∈ GT := mg 1088 (by decide +kernel) rfl
theorem lk_X0_163 : LkV RX0 163 6 yX6_copyFrom cX6_copyFrom 2 none 1 := ⟨⟨mg 1086 (by decide +kernel) rfl, cw_X6_copyFrom, iw_X6_copyFrom, ⟨by decide, by decide, by decide⟩⟩, nw_X6_copyFrom, RX6, _, _, ew_X6_copyFrom, rfl, by decide⟩
theorem lk_X0_167 : LkV RX0 167 5 yX5_copyFrom cX5_copyFrom 2 none 1 := ⟨⟨mg 1090 (by decide +kernel) rfl, cw_X5_copyFrom, iw_X5_copyFrom, ⟨by decide, by decide, by decide⟩⟩, nw_X5_copyFrom, RX5, _, _, ew_X5_copyFrom, rfl, by decide⟩
theorem cw_X1_copyFrom : Jvm.Cond.code yX1_copyFrom cX1_copyFrom 2 none ∈ GT := mg 1094 (by decide +kernel) rfl
theorem iw_X1_copyFrom : Jvm.Cond.initialized yX1_copyFrom.cls ∈ GT := mg 79 (by decide +kernel) rfl
theorem nw_X1_copyFrom : Jvm.Cond.instanceMethod yX1_copyFrom ∈ GT := mg 1092 (by decide +kernel) rfl
theorem ew_X1_copyFrom : Jvm.Cond.selects RX1 yX1_copyFrom yX1_copyFrom ∈ GT := mg 1093 (by decide +kernel) rfl
theorem lk_X0_170 : LkV RX0 170 1 yX1_copyFrom cX1_copyFrom 2 none 1 := ⟨⟨mg 1091 (by decide +kernel) rfl, cw_X1_copyFrom, iw_X1_copyFrom, ⟨by decide, by decide, by decide⟩⟩, nw_X1_copyFrom, RX1, _, _, ew_X1_copyFrom, rfl, by decide⟩
theorem cw_X2_copyFrom : Jvm.Cond.code yX2_copyFrom cX2_copyFrom 2 none ∈ GT := mg 1099 (by decide +kernel) rfl
theorem iw_X2_copyFrom : Jvm.Cond.initialized yX2_copyFrom.cls ∈ GT := mg 80 (by decide +kernel) rfl
theorem nw_X2_copyFrom : Jvm.Cond.instanceMethod yX2_copyFrom ∈ GT := mg 1097 (by decide +kernel) rfl
theorem ew_X2_copyFrom : Jvm.Cond.selects RX2 yX2_copyFrom yX2_copyFrom ∈ GT := mg 1098 (by decide +kernel) rfl
theorem lk_X0_173 : LkV RX0 173 2 yX2_copyFrom cX2_copyFrom 2 none 1 := ⟨⟨mg 1096 (by decide +kernel) rfl, cw_X2_copyFrom, iw_X2_copyFrom, ⟨by decide, by decide, by decide⟩⟩, nw_X2_copyFrom, RX2, _, _, ew_X2_copyFrom, rfl, by decide⟩
theorem lk_X0_176 : LkV RX0 176 3 yX3_copyFrom cX3_copyFrom 2 none 1 := ⟨⟨mg 1101 (by decide +kernel) rfl, cw_X3_copyFrom, iw_X3_copyFrom, ⟨by decide, by decide, by decide⟩⟩, nw_X3_copyFrom, RX3, _, _, ew_X3_copyFrom, rfl, by decide⟩
theorem lk_X1_19 : LkV RX1 19 1 yX1_hasRoom cX1_hasRoom 1 (some .boolean) 0 := ⟨⟨mg 606 (by decide +kernel) rfl, cw_X1_hasRoom, iw_X1_hasRoom, ⟨by decide, by decide, by decide⟩⟩, nw_X1_hasRoom, RX1, _, _, ew_X1_hasRoom, rfl, by decide⟩
theorem lk_X1_23 : LkSN RX1 23 yX11_within cX11_within 3 (some .boolean) 3 := ⟨⟨⟨"PaperAger", List.mem_filter.mpr ⟨List.mem_of_getElem? (i := 942) (by decide +kernel), rfl⟩⟩, cw_X11_within, iw_X11_within, ⟨by decide, by decide, by decide⟩⟩, sw_X11_within⟩
theorem lk_X1_27 : LkV RX1 27 1 yX1_entry cX1_entry 4 (some .int) 2 := ⟨⟨mg 1035 (by decide +kernel) rfl, cw_X1_entry, iw_X1_entry, ⟨by decide, by decide, by decide⟩⟩, nw_X1_entry, RX1, _, _, ew_X1_entry, rfl, by decide⟩
theorem lk_X2_28 : LkV RX2 28 2 yX2_hasRoom cX2_hasRoom 1 (some .boolean) 0 := ⟨⟨mg 955 (by decide +kernel) rfl, cw_X2_hasRoom, iw_X2_hasRoom, ⟨by decide, by decide, by decide⟩⟩, nw_X2_hasRoom, RX2, _, _, ew_X2_hasRoom, rfl, by decide⟩
theorem cw_X3_isFull : Jvm.Cond.code yX3_isFull cX3_isFull 1 (some .boolean) ∈ GT := mg 825 (by decide +kernel) rfl
theorem iw_X3_isFull : Jvm.Cond.initialized yX3_isFull.cls ∈ GT := mg 81 (by decide +kernel) rfl
theorem nw_X3_isFull : Jvm.Cond.instanceMethod yX3_isFull ∈ GT := mg 823 (by decide +kernel) rfl
theorem ew_X3_isFull : Jvm.Cond.selects RX3 yX3_isFull yX3_isFull ∈ GT := mg 824 (by decide +kernel) rfl
theorem lk_X3_36 : LkV RX3 36 3 yX3_isFull cX3_isFull 1 (some .boolean) 0 := ⟨⟨mg 830 (by decide +kernel) rfl, cw_X3_isFull, iw_X3_isFull, ⟨by decide, by decide, by decide⟩⟩, nw_X3_isFull, RX3, _, _, ew_X3_isFull, rfl, by decide⟩
theorem cw_X3_add : Jvm.Cond.code yX3_add cX3_add 2 none ∈ GT := mg 838 (by decide +kernel) rfl
theorem iw_X3_add : Jvm.Cond.initialized yX3_add.cls ∈ GT := mg 81 (by decide +kernel) rfl
theorem nw_X3_add : Jvm.Cond.instanceMethod yX3_add ∈ GT := mg 836 (by decide +kernel) rfl
theorem ew_X3_add : Jvm.Cond.selects RX3 yX3_add yX3_add ∈ GT := mg 837 (by decide +kernel) rfl
theorem lk_X3_42 : LkV RX3 42 3 yX3_add cX3_add 2 none 1 := ⟨⟨mg 846 (by decide +kernel) rfl, cw_X3_add, iw_X3_add, ⟨by decide, by decide, by decide⟩⟩, nw_X3_add, RX3, _, _, ew_X3_add, rfl, by decide⟩
theorem cw_X3_work : Jvm.Cond.code yX3_work cX3_work 7 (some .int) ∈ GT := mg 570 (by decide +kernel) rfl
theorem iw_X3_work : Jvm.Cond.initialized yX3_work.cls ∈ GT := mg 81 (by decide +kernel) rfl
theorem nw_X3_work : Jvm.Cond.instanceMethod yX3_work ∈ GT := mg 569 (by decide +kernel) rfl
theorem ew_X3_work : Jvm.Cond.selects RX3 yX3_work yX3_work ∈ GT := mg 0 (by decide +kernel) rfl
theorem lk_X3_46 : LkV RX3 46 3 yX3_work cX3_work 7 (some .int) 3 := ⟨⟨mg 567 (by decide +kernel) rfl, cw_X3_work, iw_X3_work, ⟨by decide, by decide, by decide⟩⟩, nw_X3_work, RX3, _, _, ew_X3_work, rfl, by decide⟩
theorem cw_X3_held : Jvm.Cond.code yX3_held cX3_held 1 (some .int) ∈ GT := mg 579 (by decide +kernel) rfl
theorem iw_X3_held : Jvm.Cond.initialized yX3_held.cls ∈ GT := mg 81 (by decide +kernel) rfl
theorem sw_X3_held : Jvm.Cond.static yX3_held ∈ GT := mg 578 (by decide +kernel) rfl
theorem lk_X3_50 : LkS RX3 50 yX3_held cX3_held 1 (some .int) 1 := ⟨⟨mg 577 (by decide +kernel) rfl, cw_X3_held, iw_X3_held, ⟨by decide, by decide, by decide⟩⟩, sw_X3_held⟩
theorem cw_X3_operand : Jvm.Cond.code yX3_operand cX3_operand 3 (some .int) ∈ GT := mg 573 (by decide +kernel) rfl
theorem iw_X3_operand : Jvm.Cond.initialized yX3_operand.cls ∈ GT := mg 81 (by decide +kernel) rfl
theorem sw_X3_operand : Jvm.Cond.static yX3_operand ∈ GT := mg 572 (by decide +kernel) rfl
theorem lk_X3_63 : LkS RX3 63 yX3_operand cX3_operand 3 (some .int) 2 := ⟨⟨mg 571 (by decide +kernel) rfl, cw_X3_operand, iw_X3_operand, ⟨by decide, by decide, by decide⟩⟩, sw_X3_operand⟩
theorem cw_X3_joined : Jvm.Cond.code yX3_joined cX3_joined 3 (some .int) ∈ GT := mg 576 (by decide +kernel) rfl
theorem iw_X3_joined : Jvm.Cond.initialized yX3_joined.cls ∈ GT := mg 81 (by decide +kernel) rfl
theorem sw_X3_joined : Jvm.Cond.static yX3_joined ∈ GT := mg 575 (by decide +kernel) rfl
theorem lk_X3_67 : LkS RX3 67 yX3_joined cX3_joined 3 (some .int) 3 := ⟨⟨mg 574 (by decide +kernel) rfl, cw_X3_joined, iw_X3_joined, ⟨by decide, by decide, by decide⟩⟩, sw_X3_joined⟩
theorem cw_X4_begin : Jvm.Cond.code yX4_begin cX4_begin 1 none ∈ GT := mg 669 (by decide +kernel) rfl
theorem iw_X4_begin : Jvm.Cond.initialized yX4_begin.cls ∈ GT := mg 85 (by decide +kernel) rfl
theorem nw_X4_begin : Jvm.Cond.instanceMethod yX4_begin ∈ GT := mg 668 (by decide +kernel) rfl
theorem ew_X4_begin : Jvm.Cond.selects RX4 yX4_begin yX4_begin ∈ GT := mg 4 (by decide +kernel) rfl
theorem lk_X4_49 : LkV RX4 49 4 yX4_begin cX4_begin 1 none 0 := ⟨⟨mg 666 (by decide +kernel) rfl, cw_X4_begin, iw_X4_begin, ⟨by decide, by decide, by decide⟩⟩, nw_X4_begin, RX4, _, _, ew_X4_begin, rfl, by decide⟩
theorem cw_X9_advance : Jvm.Cond.code yX9_advance cX9_advance 3 none ∈ GT := mg 681 (by decide +kernel) rfl
theorem iw_X9_advance : Jvm.Cond.initialized yX9_advance.cls ∈ GT := mg 86 (by decide +kernel) rfl
theorem nw_X9_advance : Jvm.Cond.instanceMethod yX9_advance ∈ GT := mg 679 (by decide +kernel) rfl
theorem ew_X9_advance : Jvm.Cond.selects RX9 yX9_advance yX9_advance ∈ GT := mg 680 (by decide +kernel) rfl
theorem lk_X4_54 : LkV RX4 54 9 yX9_advance cX9_advance 3 none 1 := ⟨⟨mg 678 (by decide +kernel) rfl, cw_X9_advance, iw_X9_advance, ⟨by decide, by decide, by decide⟩⟩, nw_X9_advance, RX9, _, _, ew_X9_advance, rfl, by decide⟩
theorem cw_X4_takeLine : Jvm.Cond.code yX4_takeLine cX4_takeLine 2 none ∈ GT := mg 817 (by decide +kernel) rfl
theorem iw_X4_takeLine : Jvm.Cond.initialized yX4_takeLine.cls ∈ GT := mg 85 (by decide +kernel) rfl
theorem nw_X4_takeLine : Jvm.Cond.instanceMethod yX4_takeLine ∈ GT := mg 816 (by decide +kernel) rfl
theorem ew_X4_takeLine : Jvm.Cond.selects RX4 yX4_takeLine yX4_takeLine ∈ GT := mg 8 (by decide +kernel) rfl
theorem lk_X4_61 : LkV RX4 61 4 yX4_takeLine cX4_takeLine 2 none 1 := ⟨⟨mg 814 (by decide +kernel) rfl, cw_X4_takeLine, iw_X4_takeLine, ⟨by decide, by decide, by decide⟩⟩, nw_X4_takeLine, RX4, _, _, ew_X4_takeLine, rfl, by decide⟩
theorem cw_X4_takeUnit : Jvm.Cond.code yX4_takeUnit cX4_takeUnit 2 none ∈ GT := mg 834 (by decide +kernel) rfl
theorem iw_X4_takeUnit : Jvm.Cond.initialized yX4_takeUnit.cls ∈ GT := mg 85 (by decide +kernel) rfl
theorem nw_X4_takeUnit : Jvm.Cond.instanceMethod yX4_takeUnit ∈ GT := mg 833 (by decide +kernel) rfl
theorem ew_X4_takeUnit : Jvm.Cond.selects RX4 yX4_takeUnit yX4_takeUnit ∈ GT := mg 10 (by decide +kernel) rfl
theorem lk_X4_65 : LkV RX4 65 4 yX4_takeUnit cX4_takeUnit 2 none 1 := ⟨⟨mg 831 (by decide +kernel) rfl, cw_X4_takeUnit, iw_X4_takeUnit, ⟨by decide, by decide, by decide⟩⟩, nw_X4_takeUnit, RX4, _, _, ew_X4_takeUnit, rfl, by decide⟩
theorem cw_X4_takeDivisor : Jvm.Cond.code yX4_takeDivisor cX4_takeDivisor 2 none ∈ GT := mg 850 (by decide +kernel) rfl
theorem iw_X4_takeDivisor : Jvm.Cond.initialized yX4_takeDivisor.cls ∈ GT := mg 85 (by decide +kernel) rfl
theorem nw_X4_takeDivisor : Jvm.Cond.instanceMethod yX4_takeDivisor ∈ GT := mg 849 (by decide +kernel) rfl
theorem ew_X4_takeDivisor : Jvm.Cond.selects RX4 yX4_takeDivisor yX4_takeDivisor ∈ GT := mg 11 (by decide +kernel) rfl
theorem lk_X4_68 : LkV RX4 68 4 yX4_takeDivisor cX4_takeDivisor 2 none 1 := ⟨⟨mg 847 (by decide +kernel) rfl, cw_X4_takeDivisor, iw_X4_takeDivisor, ⟨by decide, by decide, by decide⟩⟩, nw_X4_takeDivisor, RX4, _, _, ew_X4_takeDivisor, rfl, by decide⟩
theorem cw_X4_takeTest : Jvm.Cond.code yX4_takeTest cX4_takeTest 2 none ∈ GT := mg 854 (by decide +kernel) rfl
theorem iw_X4_takeTest : Jvm.Cond.initialized yX4_takeTest.cls ∈ GT := mg 85 (by decide +kernel) rfl
theorem nw_X4_takeTest : Jvm.Cond.instanceMethod yX4_takeTest ∈ GT := mg 853 (by decide +kernel) rfl
theorem ew_X4_takeTest : Jvm.Cond.selects RX4 yX4_takeTest yX4_takeTest ∈ GT := mg 12 (by decide +kernel) rfl
theorem lk_X4_71 : LkV RX4 71 4 yX4_takeTest cX4_takeTest 2 none 1 := ⟨⟨mg 851 (by decide +kernel) rfl, cw_X4_takeTest, iw_X4_takeTest, ⟨by decide, by decide, by decide⟩⟩, nw_X4_takeTest, RX4, _, _, ew_X4_takeTest, rfl, by decide⟩
theorem cw_X4_takeOperator : Jvm.Cond.code yX4_takeOperator cX4_takeOperator 2 none ∈ GT := mg 866 (by decide +kernel) rfl
theorem iw_X4_takeOperator : Jvm.Cond.initialized yX4_takeOperator.cls ∈ GT := mg 85 (by decide +kernel) rfl
theorem nw_X4_takeOperator : Jvm.Cond.instanceMethod yX4_takeOperator ∈ GT := mg 865 (by decide +kernel) rfl
theorem ew_X4_takeOperator : Jvm.Cond.selects RX4 yX4_takeOperator yX4_takeOperator ∈ GT := mg 15 (by decide +kernel) rfl
theorem lk_X4_74 : LkV RX4 74 4 yX4_takeOperator cX4_takeOperator 2 none 1 := ⟨⟨mg 863 (by decide +kernel) rfl, cw_X4_takeOperator, iw_X4_takeOperator, ⟨by decide, by decide, by decide⟩⟩, nw_X4_takeOperator, RX4, _, _, ew_X4_takeOperator, rfl, by decide⟩
theorem cw_X4_takeJoint : Jvm.Cond.code yX4_takeJoint cX4_takeJoint 3 none ∈ GT := mg 903 (by decide +kernel) rfl
theorem iw_X4_takeJoint : Jvm.Cond.initialized yX4_takeJoint.cls ∈ GT := mg 85 (by decide +kernel) rfl
theorem nw_X4_takeJoint : Jvm.Cond.instanceMethod yX4_takeJoint ∈ GT := mg 902 (by decide +kernel) rfl
theorem ew_X4_takeJoint : Jvm.Cond.selects RX4 yX4_takeJoint yX4_takeJoint ∈ GT := mg 20 (by decide +kernel) rfl
theorem lk_X4_77 : LkV RX4 77 4 yX4_takeJoint cX4_takeJoint 3 none 1 := ⟨⟨mg 900 (by decide +kernel) rfl, cw_X4_takeJoint, iw_X4_takeJoint, ⟨by decide, by decide, by decide⟩⟩, nw_X4_takeJoint, RX4, _, _, ew_X4_takeJoint, rfl, by decide⟩
theorem cw_X3_clear : Jvm.Cond.code yX3_clear cX3_clear 1 none ∈ GT := mg 673 (by decide +kernel) rfl
theorem iw_X3_clear : Jvm.Cond.initialized yX3_clear.cls ∈ GT := mg 81 (by decide +kernel) rfl
theorem nw_X3_clear : Jvm.Cond.instanceMethod yX3_clear ∈ GT := mg 671 (by decide +kernel) rfl
theorem ew_X3_clear : Jvm.Cond.selects RX3 yX3_clear yX3_clear ∈ GT := mg 672 (by decide +kernel) rfl
theorem lk_X4_80 : LkV RX4 80 3 yX3_clear cX3_clear 1 none 0 := ⟨⟨mg 670 (by decide +kernel) rfl, cw_X3_clear, iw_X3_clear, ⟨by decide, by decide, by decide⟩⟩, nw_X3_clear, RX3, _, _, ew_X3_clear, rfl, by decide⟩
theorem cw_X9_begin : Jvm.Cond.code yX9_begin cX9_begin 1 none ∈ GT := mg 677 (by decide +kernel) rfl
theorem iw_X9_begin : Jvm.Cond.initialized yX9_begin.cls ∈ GT := mg 86 (by decide +kernel) rfl
theorem nw_X9_begin : Jvm.Cond.instanceMethod yX9_begin ∈ GT := mg 675 (by decide +kernel) rfl
theorem ew_X9_begin : Jvm.Cond.selects RX9 yX9_begin yX9_begin ∈ GT := mg 676 (by decide +kernel) rfl
theorem lk_X4_83 : LkV RX4 83 9 yX9_begin cX9_begin 1 none 0 := ⟨⟨mg 674 (by decide +kernel) rfl, cw_X9_begin, iw_X9_begin, ⟨by decide, by decide, by decide⟩⟩, nw_X9_begin, RX9, _, _, ew_X9_begin, rfl, by decide⟩
theorem cw_X4_refuse : Jvm.Cond.code yX4_refuse cX4_refuse 2 none ∈ GT := mg 821 (by decide +kernel) rfl
theorem iw_X4_refuse : Jvm.Cond.initialized yX4_refuse.cls ∈ GT := mg 85 (by decide +kernel) rfl
theorem nw_X4_refuse : Jvm.Cond.instanceMethod yX4_refuse ∈ GT := mg 820 (by decide +kernel) rfl
theorem ew_X4_refuse : Jvm.Cond.selects RX4 yX4_refuse yX4_refuse ∈ GT := mg 9 (by decide +kernel) rfl
theorem lk_X4_87 : LkV RX4 87 4 yX4_refuse cX4_refuse 2 none 1 := ⟨⟨mg 818 (by decide +kernel) rfl, cw_X4_refuse, iw_X4_refuse, ⟨by decide, by decide, by decide⟩⟩, nw_X4_refuse, RX4, _, _, ew_X4_refuse, rfl, by decide⟩
theorem lk_X4_90 : LkV RX4 90 3 yX3_isFull cX3_isFull 1 (some .boolean) 0 := ⟨⟨mg 822 (by decide +kernel) rfl, cw_X3_isFull, iw_X3_isFull, ⟨by decide, by decide, by decide⟩⟩, nw_X3_isFull, RX3, _, _, ew_X3_isFull, rfl, by decide⟩
theorem cw_X3_startLine : Jvm.Cond.code yX3_startLine cX3_startLine 1 none ∈ GT := mg 829 (by decide +kernel) rfl
theorem iw_X3_startLine : Jvm.Cond.initialized yX3_startLine.cls ∈ GT := mg 81 (by decide +kernel) rfl
theorem nw_X3_startLine : Jvm.Cond.instanceMethod yX3_startLine ∈ GT := mg 827 (by decide +kernel) rfl
theorem ew_X3_startLine : Jvm.Cond.selects RX3 yX3_startLine yX3_startLine ∈ GT := mg 828 (by decide +kernel) rfl
theorem lk_X4_94 : LkV RX4 94 3 yX3_startLine cX3_startLine 1 none 0 := ⟨⟨mg 826 (by decide +kernel) rfl, cw_X3_startLine, iw_X3_startLine, ⟨by decide, by decide, by decide⟩⟩, nw_X3_startLine, RX3, _, _, ew_X3_startLine, rfl, by decide⟩
theorem lk_X4_100 : LkV RX4 100 3 yX3_add cX3_add 2 none 1 := ⟨⟨mg 835 (by decide +kernel) rfl, cw_X3_add, iw_X3_add, ⟨by decide, by decide, by decide⟩⟩, nw_X3_add, RX3, _, _, ew_X3_add, rfl, by decide⟩
theorem cw_X9_isFact : Jvm.Cond.code yX9_isFact cX9_isFact 1 (some .boolean) ∈ GT := mg 841 (by decide +kernel) rfl
theorem iw_X9_isFact : Jvm.Cond.initialized yX9_isFact.cls ∈ GT := mg 86 (by decide +kernel) rfl
theorem sw_X9_isFact : Jvm.Cond.static yX9_isFact ∈ GT := mg 840 (by decide +kernel) rfl
theorem lk_X4_103 : LkS RX4 103 yX9_isFact cX9_isFact 1 (some .boolean) 1 := ⟨⟨mg 839 (by decide +kernel) rfl, cw_X9_isFact, iw_X9_isFact, ⟨by decide, by decide, by decide⟩⟩, sw_X9_isFact⟩
theorem cw_X3_addFact : Jvm.Cond.code yX3_addFact cX3_addFact 2 none ∈ GT := mg 845 (by decide +kernel) rfl
theorem iw_X3_addFact : Jvm.Cond.initialized yX3_addFact.cls ∈ GT := mg 81 (by decide +kernel) rfl
theorem nw_X3_addFact : Jvm.Cond.instanceMethod yX3_addFact ∈ GT := mg 843 (by decide +kernel) rfl
theorem ew_X3_addFact : Jvm.Cond.selects RX3 yX3_addFact yX3_addFact ∈ GT := mg 844 (by decide +kernel) rfl
theorem lk_X4_107 : LkV RX4 107 3 yX3_addFact cX3_addFact 2 none 1 := ⟨⟨mg 842 (by decide +kernel) rfl, cw_X3_addFact, iw_X3_addFact, ⟨by decide, by decide, by decide⟩⟩, nw_X3_addFact, RX3, _, _, ew_X3_addFact, rfl, by decide⟩
theorem cw_X4_countWaiting : Jvm.Cond.code yX4_countWaiting cX4_countWaiting 4 (some .int) ∈ GT := mg 858 (by decide +kernel) rfl
theorem iw_X4_countWaiting : Jvm.Cond.initialized yX4_countWaiting.cls ∈ GT := mg 85 (by decide +kernel) rfl
theorem nw_X4_countWaiting : Jvm.Cond.instanceMethod yX4_countWaiting ∈ GT := mg 857 (by decide +kernel) rfl
theorem ew_X4_countWaiting : Jvm.Cond.selects RX4 yX4_countWaiting yX4_countWaiting ∈ GT := mg 13 (by decide +kernel) rfl
theorem lk_X4_110 : LkV RX4 110 4 yX4_countWaiting cX4_countWaiting 4 (some .int) 1 := ⟨⟨mg 855 (by decide +kernel) rfl, cw_X4_countWaiting, iw_X4_countWaiting, ⟨by decide, by decide, by decide⟩⟩, nw_X4_countWaiting, RX4, _, _, ew_X4_countWaiting, rfl, by decide⟩
theorem cw_X4_putSign : Jvm.Cond.code yX4_putSign cX4_putSign 2 none ∈ GT := mg 862 (by decide +kernel) rfl
theorem iw_X4_putSign : Jvm.Cond.initialized yX4_putSign.cls ∈ GT := mg 85 (by decide +kernel) rfl
theorem nw_X4_putSign : Jvm.Cond.instanceMethod yX4_putSign ∈ GT := mg 861 (by decide +kernel) rfl
theorem ew_X4_putSign : Jvm.Cond.selects RX4 yX4_putSign yX4_putSign ∈ GT := mg 14 (by decide +kernel) rfl
theorem lk_X4_114 : LkV RX4 114 4 yX4_putSign cX4_putSign 2 none 1 := ⟨⟨mg 859 (by decide +kernel) rfl, cw_X4_putSign, iw_X4_putSign, ⟨by decide, by decide, by decide⟩⟩, nw_X4_putSign, RX4, _, _, ew_X4_putSign, rfl, by decide⟩
theorem cw_X9_isArithmetic : Jvm.Cond.code yX9_isArithmetic cX9_isArithmetic 1 (some .boolean) ∈ GT := mg 869 (by decide +kernel) rfl
theorem iw_X9_isArithmetic : Jvm.Cond.initialized yX9_isArithmetic.cls ∈ GT := mg 86 (by decide +kernel) rfl
theorem sw_X9_isArithmetic : Jvm.Cond.static yX9_isArithmetic ∈ GT := mg 868 (by decide +kernel) rfl
theorem lk_X4_117 : LkS RX4 117 yX9_isArithmetic cX9_isArithmetic 1 (some .boolean) 1 := ⟨⟨mg 867 (by decide +kernel) rfl, cw_X9_isArithmetic, iw_X9_isArithmetic, ⟨by decide, by decide, by decide⟩⟩, sw_X9_isArithmetic⟩
theorem cw_X4_putBinding : Jvm.Cond.code yX4_putBinding cX4_putBinding 2 none ∈ GT := mg 873 (by decide +kernel) rfl
theorem iw_X4_putBinding : Jvm.Cond.initialized yX4_putBinding.cls ∈ GT := mg 85 (by decide +kernel) rfl
theorem nw_X4_putBinding : Jvm.Cond.instanceMethod yX4_putBinding ∈ GT := mg 872 (by decide +kernel) rfl
theorem ew_X4_putBinding : Jvm.Cond.selects RX4 yX4_putBinding yX4_putBinding ∈ GT := mg 16 (by decide +kernel) rfl
theorem lk_X4_120 : LkV RX4 120 4 yX4_putBinding cX4_putBinding 2 none 1 := ⟨⟨mg 870 (by decide +kernel) rfl, cw_X4_putBinding, iw_X4_putBinding, ⟨by decide, by decide, by decide⟩⟩, nw_X4_putBinding, RX4, _, _, ew_X4_putBinding, rfl, by decide⟩
theorem cw_X9_isComparison : Jvm.Cond.code yX9_isComparison cX9_isComparison 1 (some .boolean) ∈ GT := mg 883 (by decide +kernel) rfl
theorem iw_X9_isComparison : Jvm.Cond.initialized yX9_isComparison.cls ∈ GT := mg 86 (by decide +kernel) rfl
theorem sw_X9_isComparison : Jvm.Cond.static yX9_isComparison ∈ GT := mg 882 (by decide +kernel) rfl
theorem lk_X4_123 : LkS RX4 123 yX9_isComparison cX9_isComparison 1 (some .boolean) 1 := ⟨⟨mg 881 (by decide +kernel) rfl, cw_X9_isComparison, iw_X9_isComparison, ⟨by decide, by decide, by decide⟩⟩, sw_X9_isComparison⟩
theorem cw_X4_takeEndOfAge : Jvm.Cond.code yX4_takeEndOfAge cX4_takeEndOfAge 1 none ∈ GT := mg 887 (by decide +kernel) rfl
theorem iw_X4_takeEndOfAge : Jvm.Cond.initialized yX4_takeEndOfAge.cls ∈ GT := mg 85 (by decide +kernel) rfl
theorem nw_X4_takeEndOfAge : Jvm.Cond.instanceMethod yX4_takeEndOfAge ∈ GT := mg 886 (by decide +kernel) rfl
theorem ew_X4_takeEndOfAge : Jvm.Cond.selects RX4 yX4_takeEndOfAge yX4_takeEndOfAge ∈ GT := mg 18 (by decide +kernel) rfl
theorem lk_X4_126 : LkV RX4 126 4 yX4_takeEndOfAge cX4_takeEndOfAge 1 none 0 := ⟨⟨mg 884 (by decide +kernel) rfl, cw_X4_takeEndOfAge, iw_X4_takeEndOfAge, ⟨by decide, by decide, by decide⟩⟩, nw_X4_takeEndOfAge, RX4, _, _, ew_X4_takeEndOfAge, rfl, by decide⟩
theorem cw_X4_takeEndOfLine : Jvm.Cond.code yX4_takeEndOfLine cX4_takeEndOfLine 1 none ∈ GT := mg 895 (by decide +kernel) rfl
theorem iw_X4_takeEndOfLine : Jvm.Cond.initialized yX4_takeEndOfLine.cls ∈ GT := mg 85 (by decide +kernel) rfl
theorem nw_X4_takeEndOfLine : Jvm.Cond.instanceMethod yX4_takeEndOfLine ∈ GT := mg 894 (by decide +kernel) rfl
theorem ew_X4_takeEndOfLine : Jvm.Cond.selects RX4 yX4_takeEndOfLine yX4_takeEndOfLine ∈ GT := mg 19 (by decide +kernel) rfl
theorem lk_X4_129 : LkV RX4 129 4 yX4_takeEndOfLine cX4_takeEndOfLine 1 none 0 := ⟨⟨mg 892 (by decide +kernel) rfl, cw_X4_takeEndOfLine, iw_X4_takeEndOfLine, ⟨by decide, by decide, by decide⟩⟩, nw_X4_takeEndOfLine, RX4, _, _, ew_X4_takeEndOfLine, rfl, by decide⟩
theorem cw_X4_releaseFrom : Jvm.Cond.code yX4_releaseFrom cX4_releaseFrom 2 none ∈ GT := mg 880 (by decide +kernel) rfl
theorem iw_X4_releaseFrom : Jvm.Cond.initialized yX4_releaseFrom.cls ∈ GT := mg 85 (by decide +kernel) rfl
theorem nw_X4_releaseFrom : Jvm.Cond.instanceMethod yX4_releaseFrom ∈ GT := mg 879 (by decide +kernel) rfl
theorem ew_X4_releaseFrom : Jvm.Cond.selects RX4 yX4_releaseFrom yX4_releaseFrom ∈ GT := mg 17 (by decide +kernel) rfl
theorem lk_X4_132 : LkV RX4 132 4 yX4_releaseFrom cX4_releaseFrom 2 none 1 := ⟨⟨mg 877 (by decide +kernel) rfl, cw_X4_releaseFrom, iw_X4_releaseFrom, ⟨by decide, by decide, by decide⟩⟩, nw_X4_releaseFrom, RX4, _, _, ew_X4_releaseFrom, rfl, by decide⟩
theorem cw_X3_endAge : Jvm.Cond.code yX3_endAge cX3_endAge 1 none ∈ GT := mg 891 (by decide +kernel) rfl
theorem iw_X3_endAge : Jvm.Cond.initialized yX3_endAge.cls ∈ GT := mg 81 (by decide +kernel) rfl
theorem nw_X3_endAge : Jvm.Cond.instanceMethod yX3_endAge ∈ GT := mg 889 (by decide +kernel) rfl
theorem ew_X3_endAge : Jvm.Cond.selects RX3 yX3_endAge yX3_endAge ∈ GT := mg 890 (by decide +kernel) rfl
theorem lk_X4_135 : LkV RX4 135 3 yX3_endAge cX3_endAge 1 none 0 := ⟨⟨mg 888 (by decide +kernel) rfl, cw_X3_endAge, iw_X3_endAge, ⟨by decide, by decide, by decide⟩⟩, nw_X3_endAge, RX3, _, _, ew_X3_endAge, rfl, by decide⟩
theorem cw_X3_endLine : Jvm.Cond.code yX3_endLine cX3_endLine 1 none ∈ GT := mg 899 (by decide +kernel) rfl
theorem iw_X3_endLine : Jvm.Cond.initialized yX3_endLine.cls ∈ GT := mg 81 (by decide +kernel) rfl
theorem nw_X3_endLine : Jvm.Cond.instanceMethod yX3_endLine ∈ GT := mg 897 (by decide +kernel) rfl
theorem ew_X3_endLine : Jvm.Cond.selects RX3 yX3_endLine yX3_endLine ∈ GT := mg 898 (by decide +kernel) rfl
theorem lk_X4_138 : LkV RX4 138 3 yX3_endLine cX3_endLine 1 none 0 := ⟨⟨mg 896 (by decide +kernel) rfl, cw_X3_endLine, iw_X3_endLine, ⟨by decide, by decide, by decide⟩⟩, nw_X3_endLine, RX3, _, _, ew_X3_endLine, rfl, by decide⟩
theorem cw_X9_bindingOf : Jvm.Cond.code yX9_bindingOf cX9_bindingOf 1 (some .int) ∈ GT := mg 876 (by decide +kernel) rfl
theorem iw_X9_bindingOf : Jvm.Cond.initialized yX9_bindingOf.cls ∈ GT := mg 86 (by decide +kernel) rfl
theorem sw_X9_bindingOf : Jvm.Cond.static yX9_bindingOf ∈ GT := mg 875 (by decide +kernel) rfl
theorem lk_X4_141 : LkS RX4 141 yX9_bindingOf cX9_bindingOf 1 (some .int) 1 := ⟨⟨mg 874 (by decide +kernel) rfl, cw_X9_bindingOf, iw_X9_bindingOf, ⟨by decide, by decide, by decide⟩⟩, sw_X9_bindingOf⟩
theorem lk_X5_24 : LkV RX5 24 5 yX5_becomeUnread cX5_becomeUnread 2 none 1 := ⟨⟨mg 509 (by decide +kernel) rfl, cw_X5_becomeUnread, iw_X5_becomeUnread, ⟨by decide, by decide, by decide⟩⟩, nw_X5_becomeUnread, RX5, _, _, ew_X5_becomeUnread, rfl, by decide⟩
theorem lk_X6_27 : LkSN RX6 27 yX11_within cX11_within 3 (some .boolean) 3 := ⟨⟨⟨"PaperAger", List.mem_filter.mpr ⟨List.mem_of_getElem? (i := 497) (by decide +kernel), rfl⟩⟩, cw_X11_within, iw_X11_within, ⟨by decide, by decide, by decide⟩⟩, sw_X11_within⟩
theorem lk_X7_19 : LkV RX7 19 7 yX7_hasRoom cX7_hasRoom 2 (some .boolean) 1 := ⟨⟨mg 653 (by decide +kernel) rfl, cw_X7_hasRoom, iw_X7_hasRoom, ⟨by decide, by decide, by decide⟩⟩, nw_X7_hasRoom, RX7, _, _, ew_X7_hasRoom, rfl, by decide⟩
theorem lk_X7_23 : LkSN RX7 23 yX11_within cX11_within 3 (some .boolean) 3 := ⟨⟨⟨"PaperAger", List.mem_filter.mpr ⟨List.mem_of_getElem? (i := 686) (by decide +kernel), rfl⟩⟩, cw_X11_within, iw_X11_within, ⟨by decide, by decide, by decide⟩⟩, sw_X11_within⟩
theorem cw_X8_claimsStand : Jvm.Cond.code yX8_claimsStand cX8_claimsStand 5 (some .boolean) ∈ GT := mg 971 (by decide +kernel) rfl
theorem iw_X8_claimsStand : Jvm.Cond.initialized yX8_claimsStand.cls ∈ GT := mg 88 (by decide +kernel) rfl
theorem nw_X8_claimsStand : Jvm.Cond.instanceMethod yX8_claimsStand ∈ GT := mg 970 (by decide +kernel) rfl
theorem ew_X8_claimsStand : Jvm.Cond.selects RX8 yX8_claimsStand yX8_claimsStand ∈ GT := mg 21 (by decide +kernel) rfl
theorem lk_X8_41 : LkV RX8 41 8 yX8_claimsStand cX8_claimsStand 5 (some .boolean) 2 := ⟨⟨mg 968 (by decide +kernel) rfl, cw_X8_claimsStand, iw_X8_claimsStand, ⟨by decide, by decide, by decide⟩⟩, nw_X8_claimsStand, RX8, _, _, ew_X8_claimsStand, rfl, by decide⟩
theorem cw_X8_imagine : Jvm.Cond.code yX8_imagine cX8_imagine 6 (some (.object "PaperAger$Paper")) ∈ GT := mg 977 (by decide +kernel) rfl
theorem iw_X8_imagine : Jvm.Cond.initialized yX8_imagine.cls ∈ GT := mg 88 (by decide +kernel) rfl
theorem nw_X8_imagine : Jvm.Cond.instanceMethod yX8_imagine ∈ GT := mg 976 (by decide +kernel) rfl
theorem ew_X8_imagine : Jvm.Cond.selects RX8 yX8_imagine yX8_imagine ∈ GT := mg 22 (by decide +kernel) rfl
theorem lk_X8_51 : LkV RX8 51 8 yX8_imagine cX8_imagine 6 (some (.object "PaperAger$Paper")) 4 := ⟨⟨mg 974 (by decide +kernel) rfl, cw_X8_imagine, iw_X8_imagine, ⟨by decide, by decide, by decide⟩⟩, nw_X8_imagine, RX8, _, _, ew_X8_imagine, rfl, by decide⟩
theorem lk_X8_55 : LkV RX8 55 0 yX0_readerAt cX0_readerAt 2 (some (.object "PaperAger$Reader")) 1 := ⟨⟨mg 978 (by decide +kernel) rfl, cw_X0_readerAt, iw_X0_readerAt, ⟨by decide, by decide, by decide⟩⟩, nw_X0_readerAt, RX0, _, _, ew_X0_readerAt, rfl, by decide⟩
theorem lk_X8_59 : LkV RX8 59 6 yX6_livesOn cX6_livesOn 2 (some .boolean) 1 := ⟨⟨mg 979 (by decide +kernel) rfl, cw_X6_livesOn, iw_X6_livesOn, ⟨by decide, by decide, by decide⟩⟩, nw_X6_livesOn, RX6, _, _, ew_X6_livesOn, rfl, by decide⟩
theorem lk_X8_65 : LkV RX8 65 5 yX5_copyFrom cX5_copyFrom 2 none 1 := ⟨⟨mg 980 (by decide +kernel) rfl, cw_X5_copyFrom, iw_X5_copyFrom, ⟨by decide, by decide, by decide⟩⟩, nw_X5_copyFrom, RX5, _, _, ew_X5_copyFrom, rfl, by decide⟩
theorem lk_X8_69 : LkV RX8 69 6 yX6_yearsOn cX6_yearsOn 2 (some .int) 1 := ⟨⟨mg 981 (by decide +kernel) rfl, cw_X6_yearsOn, iw_X6_yearsOn, ⟨by decide, by decide, by decide⟩⟩, nw_X6_yearsOn, RX6, _, _, ew_X6_yearsOn, rfl, by decide⟩
theorem lk_X8_73 : LkV RX8 73 5 yX5_takeReading cX5_takeReading 4 none 3 := ⟨⟨mg 982 (by decide +kernel) rfl, cw_X5_takeReading, iw_X5_takeReading, ⟨by decide, by decide, by decide⟩⟩, nw_X5_takeReading, RX5, _, _, ew_X5_takeReading, rfl, by decide⟩
theorem lk_X8_94 : LkV RX8 94 0 yX0_ageOf cX0_ageOf 4 (some .int) 2 := ⟨⟨mg 972 (by decide +kernel) rfl, cw_X0_ageOf, iw_X0_ageOf, ⟨by decide, by decide, by decide⟩⟩, nw_X0_ageOf, RX0, _, _, ew_X0_ageOf, rfl, by decide⟩
theorem lk_X8_104 : LkSN RX8 104 yX11_within cX11_within 3 (some .boolean) 3 := ⟨⟨⟨"PaperAger", List.mem_filter.mpr ⟨List.mem_of_getElem? (i := 973) (by decide +kernel), rfl⟩⟩, cw_X11_within, iw_X11_within, ⟨by decide, by decide, by decide⟩⟩, sw_X11_within⟩
theorem cw_J6_bitCount_0f7a4 : Jvm.Cond.code yJ6_bitCount_0f7a4 cJ6_bitCount_0f7a4 1 (some .int) ∈ GT := mg 989 (by decide +kernel) rfl
theorem iw_J6_bitCount_0f7a4 : Jvm.Cond.initialized yJ6_bitCount_0f7a4.cls ∈ GT := mg 97 (by decide +kernel) rfl
theorem sw_J6_bitCount_0f7a4 : Jvm.Cond.static yJ6_bitCount_0f7a4 ∈ GT := mg 988 (by decide +kernel) rfl
theorem lk_X8_108 : LkS RX8 108 yJ6_bitCount_0f7a4 cJ6_bitCount_0f7a4 1 (some .int) 1 := ⟨⟨mg 987 (by decide +kernel) rfl, cw_J6_bitCount_0f7a4, iw_J6_bitCount_0f7a4, ⟨by decide, by decide, by decide⟩⟩, sw_J6_bitCount_0f7a4⟩
theorem cw_X8_suffices : Jvm.Cond.code yX8_suffices cX8_suffices 4 (some .boolean) ∈ GT := mg 996 (by decide +kernel) rfl
theorem iw_X8_suffices : Jvm.Cond.initialized yX8_suffices.cls ∈ GT := mg 88 (by decide +kernel) rfl
theorem nw_X8_suffices : Jvm.Cond.instanceMethod yX8_suffices ∈ GT := mg 995 (by decide +kernel) rfl
theorem ew_X8_suffices : Jvm.Cond.selects RX8 yX8_suffices yX8_suffices ∈ GT := mg 23 (by decide +kernel) rfl
theorem lk_X8_113 : LkV RX8 113 8 yX8_suffices cX8_suffices 4 (some .boolean) 2 := ⟨⟨mg 993 (by decide +kernel) rfl, cw_X8_suffices, iw_X8_suffices, ⟨by decide, by decide, by decide⟩⟩, nw_X8_suffices, RX8, _, _, ew_X8_suffices, rfl, by decide⟩
theorem cw_J6_numberOfTrailingZeros_0f7a4 : Jvm.Cond.code yJ6_numberOfTrailingZeros_0f7a4 cJ6_numberOfTrailingZeros_0f7a4 2 (some .int) ∈ GT := mg 1003 (by decide +kernel) rfl
theorem iw_J6_numberOfTrailingZeros_0f7a4 : Jvm.Cond.initialized yJ6_numberOfTrailingZeros_0f7a4.cls ∈ GT := mg 97 (by decide +kernel) rfl
theorem sw_J6_numberOfTrailingZeros_0f7a4 : Jvm.Cond.static yJ6_numberOfTrailingZeros_0f7a4 ∈ GT := mg 1002 (by decide +kernel) rfl
theorem lk_X8_117 : LkS RX8 117 yJ6_numberOfTrailingZeros_0f7a4 cJ6_numberOfTrailingZeros_0f7a4 2 (some .int) 1 := ⟨⟨mg 1001 (by decide +kernel) rfl, cw_J6_numberOfTrailingZeros_0f7a4, iw_J6_numberOfTrailingZeros_0f7a4, ⟨by decide, by decide, by decide⟩⟩, sw_J6_numberOfTrailingZeros_0f7a4⟩
theorem cw_X8_countThumb : Jvm.Cond.code yX8_countThumb cX8_countThumb 3 none ∈ GT := mg 1017 (by decide +kernel) rfl
theorem iw_X8_countThumb : Jvm.Cond.initialized yX8_countThumb.cls ∈ GT := mg 88 (by decide +kernel) rfl
theorem nw_X8_countThumb : Jvm.Cond.instanceMethod yX8_countThumb ∈ GT := mg 1016 (by decide +kernel) rfl
theorem ew_X8_countThumb : Jvm.Cond.selects RX8 yX8_countThumb yX8_countThumb ∈ GT := mg 24 (by decide +kernel) rfl
theorem lk_X8_129 : LkV RX8 129 8 yX8_countThumb cX8_countThumb 3 none 2 := ⟨⟨mg 1014 (by decide +kernel) rfl, cw_X8_countThumb, iw_X8_countThumb, ⟨by decide, by decide, by decide⟩⟩, nw_X8_countThumb, RX8, _, _, ew_X8_countThumb, rfl, by decide⟩
theorem cw_X7_signAt : Jvm.Cond.code yX7_signAt cX7_signAt 2 (some .int) ∈ GT := mg 685 (by decide +kernel) rfl
theorem iw_X7_signAt : Jvm.Cond.initialized yX7_signAt.cls ∈ GT := mg 84 (by decide +kernel) rfl
theorem nw_X7_signAt : Jvm.Cond.instanceMethod yX7_signAt ∈ GT := mg 683 (by decide +kernel) rfl
theorem ew_X7_signAt : Jvm.Cond.selects RX7 yX7_signAt yX7_signAt ∈ GT := mg 684 (by decide +kernel) rfl
theorem lk_X9_29 : LkV RX9 29 7 yX7_signAt cX7_signAt 2 (some .int) 1 := ⟨⟨mg 682 (by decide +kernel) rfl, cw_X7_signAt, iw_X7_signAt, ⟨by decide, by decide, by decide⟩⟩, nw_X7_signAt, RX7, _, _, ew_X7_signAt, rfl, by decide⟩
theorem cw_X9_isBlank : Jvm.Cond.code yX9_isBlank cX9_isBlank 1 (some .boolean) ∈ GT := mg 689 (by decide +kernel) rfl
theorem iw_X9_isBlank : Jvm.Cond.initialized yX9_isBlank.cls ∈ GT := mg 86 (by decide +kernel) rfl
theorem sw_X9_isBlank : Jvm.Cond.static yX9_isBlank ∈ GT := mg 688 (by decide +kernel) rfl
theorem lk_X9_33 : LkS RX9 33 yX9_isBlank cX9_isBlank 1 (some .boolean) 1 := ⟨⟨mg 687 (by decide +kernel) rfl, cw_X9_isBlank, iw_X9_isBlank, ⟨by decide, by decide, by decide⟩⟩, sw_X9_isBlank⟩
theorem cw_X9_isLetter : Jvm.Cond.code yX9_isLetter cX9_isLetter 1 (some .boolean) ∈ GT := mg 692 (by decide +kernel) rfl
theorem iw_X9_isLetter : Jvm.Cond.initialized yX9_isLetter.cls ∈ GT := mg 86 (by decide +kernel) rfl
theorem sw_X9_isLetter : Jvm.Cond.static yX9_isLetter ∈ GT := mg 691 (by decide +kernel) rfl
theorem lk_X9_37 : LkS RX9 37 yX9_isLetter cX9_isLetter 1 (some .boolean) 1 := ⟨⟨mg 690 (by decide +kernel) rfl, cw_X9_isLetter, iw_X9_isLetter, ⟨by decide, by decide, by decide⟩⟩, sw_X9_isLetter⟩
theorem cw_X9_takeWord : Jvm.Cond.code yX9_takeWord cX9_takeWord 7 none ∈ GT := mg 697 (by decide +kernel) rfl
theorem iw_X9_takeWord : Jvm.Cond.initialized yX9_takeWord.cls ∈ GT := mg 86 (by decide +kernel) rfl
theorem nw_X9_takeWord : Jvm.Cond.instanceMethod yX9_takeWord ∈ GT := mg 696 (by decide +kernel) rfl
theorem ew_X9_takeWord : Jvm.Cond.selects RX9 yX9_takeWord yX9_takeWord ∈ GT := mg 5 (by decide +kernel) rfl
theorem lk_X9_40 : LkV RX9 40 9 yX9_takeWord cX9_takeWord 7 none 1 := ⟨⟨mg 694 (by decide +kernel) rfl, cw_X9_takeWord, iw_X9_takeWord, ⟨by decide, by decide, by decide⟩⟩, nw_X9_takeWord, RX9, _, _, ew_X9_takeWord, rfl, by decide⟩
theorem cw_X9_isDigit : Jvm.Cond.code yX9_isDigit cX9_isDigit 1 (some .boolean) ∈ GT := mg 749 (by decide +kernel) rfl
theorem iw_X9_isDigit : Jvm.Cond.initialized yX9_isDigit.cls ∈ GT := mg 86 (by decide +kernel) rfl
theorem sw_X9_isDigit : Jvm.Cond.static yX9_isDigit ∈ GT := mg 748 (by decide +kernel) rfl
theorem lk_X9_44 : LkS RX9 44 yX9_isDigit cX9_isDigit 1 (some .boolean) 1 := ⟨⟨mg 747 (by decide +kernel) rfl, cw_X9_isDigit, iw_X9_isDigit, ⟨by decide, by decide, by decide⟩⟩, sw_X9_isDigit⟩
theorem cw_X9_takeNumber : Jvm.Cond.code yX9_takeNumber cX9_takeNumber 2 none ∈ GT := mg 753 (by decide +kernel) rfl
theorem iw_X9_takeNumber : Jvm.Cond.initialized yX9_takeNumber.cls ∈ GT := mg 86 (by decide +kernel) rfl
theorem nw_X9_takeNumber : Jvm.Cond.instanceMethod yX9_takeNumber ∈ GT := mg 752 (by decide +kernel) rfl
theorem ew_X9_takeNumber : Jvm.Cond.selects RX9 yX9_takeNumber yX9_takeNumber ∈ GT := mg 6 (by decide +kernel) rfl
theorem lk_X9_47 : LkV RX9 47 9 yX9_takeNumber cX9_takeNumber 2 none 1 := ⟨⟨mg 750 (by decide +kernel) rfl, cw_X9_takeNumber, iw_X9_takeNumber, ⟨by decide, by decide, by decide⟩⟩, nw_X9_takeNumber, RX9, _, _, ew_X9_takeNumber, rfl, by decide⟩
theorem cw_X9_takeSign : Jvm.Cond.code yX9_takeSign cX9_takeSign 3 none ∈ GT := mg 757 (by decide +kernel) rfl
theorem iw_X9_takeSign : Jvm.Cond.initialized yX9_takeSign.cls ∈ GT := mg 86 (by decide +kernel) rfl
theorem nw_X9_takeSign : Jvm.Cond.instanceMethod yX9_takeSign ∈ GT := mg 756 (by decide +kernel) rfl
theorem ew_X9_takeSign : Jvm.Cond.selects RX9 yX9_takeSign yX9_takeSign ∈ GT := mg 7 (by decide +kernel) rfl
theorem lk_X9_50 : LkV RX9 50 9 yX9_takeSign cX9_takeSign 3 none 1 := ⟨⟨mg 754 (by decide +kernel) rfl, cw_X9_takeSign, iw_X9_takeSign, ⟨by decide, by decide, by decide⟩⟩, nw_X9_takeSign, RX9, _, _, ew_X9_takeSign, rfl, by decide⟩
theorem cw_J0_length_8abf5 : Jvm.Cond.code yJ0_length_8abf5 cJ0_length_8abf5 1 (some .int) ∈ GT := mg 702 (by decide +kernel) rfl
theorem iw_J0_length_8abf5 : Jvm.Cond.initialized yJ0_length_8abf5.cls ∈ GT := mg 91 (by decide +kernel) rfl
theorem nw_J0_length_8abf5 : Jvm.Cond.instanceMethod yJ0_length_8abf5 ∈ GT := mg 700 (by decide +kernel) rfl
theorem ew_J0_length_8abf5 : Jvm.Cond.selects "java/lang/String" yJ0_length_8abf5 yJ0_length_8abf5 ∈ GT := mg 701 (by decide +kernel) rfl
theorem lk_X9_56 : LkT RX9 56 yJ0_length_8abf5 cJ0_length_8abf5 1 (some .int) 0 := ⟨⟨mg 699 (by decide +kernel) rfl, cw_J0_length_8abf5, iw_J0_length_8abf5, ⟨by decide, by decide, by decide⟩⟩, nw_J0_length_8abf5, ew_J0_length_8abf5⟩
theorem cw_J0_charAt_5068e : Jvm.Cond.code yJ0_charAt_5068e cJ0_charAt_5068e 2 (some .char) ∈ GT := mg 712 (by decide +kernel) rfl
theorem iw_J0_charAt_5068e : Jvm.Cond.initialized yJ0_charAt_5068e.cls ∈ GT := mg 91 (by decide +kernel) rfl
theorem nw_J0_charAt_5068e : Jvm.Cond.instanceMethod yJ0_charAt_5068e ∈ GT := mg 710 (by decide +kernel) rfl
theorem ew_J0_charAt_5068e : Jvm.Cond.selects "java/lang/String" yJ0_charAt_5068e yJ0_charAt_5068e ∈ GT := mg 711 (by decide +kernel) rfl
theorem lk_X9_62 : LkT RX9 62 yJ0_charAt_5068e cJ0_charAt_5068e 2 (some .char) 1 := ⟨⟨mg 709 (by decide +kernel) rfl, cw_J0_charAt_5068e, iw_J0_charAt_5068e, ⟨by decide, by decide, by decide⟩⟩, nw_J0_charAt_5068e, ew_J0_charAt_5068e⟩
theorem cw_J0_indexOf_0f7a4 : Jvm.Cond.code yJ0_indexOf_0f7a4 cJ0_indexOf_0f7a4 2 (some .int) ∈ GT := mg 762 (by decide +kernel) rfl
theorem iw_J0_indexOf_0f7a4 : Jvm.Cond.initialized yJ0_indexOf_0f7a4.cls ∈ GT := mg 91 (by decide +kernel) rfl
theorem nw_J0_indexOf_0f7a4 : Jvm.Cond.instanceMethod yJ0_indexOf_0f7a4 ∈ GT := mg 760 (by decide +kernel) rfl
theorem ew_J0_indexOf_0f7a4 : Jvm.Cond.selects "java/lang/String" yJ0_indexOf_0f7a4 yJ0_indexOf_0f7a4 ∈ GT := mg 761 (by decide +kernel) rfl
theorem lk_X9_68 : LkT RX9 68 yJ0_indexOf_0f7a4 cJ0_indexOf_0f7a4 2 (some .int) 1 := ⟨⟨mg 759 (by decide +kernel) rfl, cw_J0_indexOf_0f7a4, iw_J0_indexOf_0f7a4, ⟨by decide, by decide, by decide⟩⟩, nw_J0_indexOf_0f7a4, ew_J0_indexOf_0f7a4⟩
theorem lk_X9_71 : LkSN RX9 71 yX11_within cX11_within 3 (some .boolean) 3 := ⟨⟨⟨"PaperAger", List.mem_filter.mpr ⟨List.mem_of_getElem? (i := 693) (by decide +kernel), rfl⟩⟩, cw_X11_within, iw_X11_within, ⟨by decide, by decide, by decide⟩⟩, sw_X11_within⟩
theorem lk_X10_27 : LkV RX10 27 5 yX5_copyFrom cX5_copyFrom 2 none 1 := ⟨⟨mg 592 (by decide +kernel) rfl, cw_X5_copyFrom, iw_X5_copyFrom, ⟨by decide, by decide, by decide⟩⟩, nw_X5_copyFrom, RX5, _, _, ew_X5_copyFrom, rfl, by decide⟩
theorem cw_X12_isIn : Jvm.Cond.code yX12_isIn cX12_isIn 4 (some .boolean) ∈ GT := mg 1290 (by decide +kernel) rfl
theorem iw_X12_isIn : Jvm.Cond.initialized yX12_isIn.cls ∈ GT := mg 89 (by decide +kernel) rfl
theorem nw_X12_isIn : Jvm.Cond.instanceMethod yX12_isIn ∈ GT := mg 1289 (by decide +kernel) rfl
theorem ew_X12_isIn : Jvm.Cond.selects RX12 yX12_isIn yX12_isIn ∈ GT := mg 26 (by decide +kernel) rfl
theorem lk_X12_116 : LkV RX12 116 12 yX12_isIn cX12_isIn 4 (some .boolean) 3 := ⟨⟨mg 1287 (by decide +kernel) rfl, cw_X12_isIn, iw_X12_isIn, ⟨by decide, by decide, by decide⟩⟩, nw_X12_isIn, RX12, _, _, ew_X12_isIn, rfl, by decide⟩
theorem cw_X12_isReader : Jvm.Cond.code yX12_isReader cX12_isReader 2 (some .boolean) ∈ GT := mg 1298 (by decide +kernel) rfl
theorem iw_X12_isReader : Jvm.Cond.initialized yX12_isReader.cls ∈ GT := mg 89 (by decide +kernel) rfl
theorem nw_X12_isReader : Jvm.Cond.instanceMethod yX12_isReader ∈ GT := mg 1297 (by decide +kernel) rfl
theorem ew_X12_isReader : Jvm.Cond.selects RX12 yX12_isReader yX12_isReader ∈ GT := mg 27 (by decide +kernel) rfl
theorem lk_X12_123 : LkV RX12 123 12 yX12_isReader cX12_isReader 2 (some .boolean) 1 := ⟨⟨mg 1295 (by decide +kernel) rfl, cw_X12_isReader, iw_X12_isReader, ⟨by decide, by decide, by decide⟩⟩, nw_X12_isReader, RX12, _, _, ew_X12_isReader, rfl, by decide⟩
theorem cw_X12_isShelf : Jvm.Cond.code yX12_isShelf cX12_isShelf 2 (some .boolean) ∈ GT := mg 1306 (by decide +kernel) rfl
theorem iw_X12_isShelf : Jvm.Cond.initialized yX12_isShelf.cls ∈ GT := mg 89 (by decide +kernel) rfl
theorem nw_X12_isShelf : Jvm.Cond.instanceMethod yX12_isShelf ∈ GT := mg 1305 (by decide +kernel) rfl
theorem ew_X12_isShelf : Jvm.Cond.selects RX12 yX12_isShelf yX12_isShelf ∈ GT := mg 28 (by decide +kernel) rfl
theorem lk_X12_133 : LkV RX12 133 12 yX12_isShelf cX12_isShelf 2 (some .boolean) 1 := ⟨⟨mg 1303 (by decide +kernel) rfl, cw_X12_isShelf, iw_X12_isShelf, ⟨by decide, by decide, by decide⟩⟩, nw_X12_isShelf, RX12, _, _, ew_X12_isShelf, rfl, by decide⟩
theorem cw_X12_isUnread : Jvm.Cond.code yX12_isUnread cX12_isUnread 2 none ∈ GT := mg 1310 (by decide +kernel) rfl
theorem iw_X12_isUnread : Jvm.Cond.initialized yX12_isUnread.cls ∈ GT := mg 89 (by decide +kernel) rfl
theorem nw_X12_isUnread : Jvm.Cond.instanceMethod yX12_isUnread ∈ GT := mg 1309 (by decide +kernel) rfl
theorem ew_X12_isUnread : Jvm.Cond.selects RX12 yX12_isUnread yX12_isUnread ∈ GT := mg 29 (by decide +kernel) rfl
theorem lk_X12_136 : LkV RX12 136 12 yX12_isUnread cX12_isUnread 2 none 1 := ⟨⟨mg 1307 (by decide +kernel) rfl, cw_X12_isUnread, iw_X12_isUnread, ⟨by decide, by decide, by decide⟩⟩, nw_X12_isUnread, RX12, _, _, ew_X12_isUnread, rfl, by decide⟩
theorem cw_X12_isPaper : Jvm.Cond.code yX12_isPaper cX12_isPaper 2 (some .boolean) ∈ GT := mg 1318 (by decide +kernel) rfl
theorem iw_X12_isPaper : Jvm.Cond.initialized yX12_isPaper.cls ∈ GT := mg 89 (by decide +kernel) rfl
theorem nw_X12_isPaper : Jvm.Cond.instanceMethod yX12_isPaper ∈ GT := mg 1317 (by decide +kernel) rfl
theorem ew_X12_isPaper : Jvm.Cond.selects RX12 yX12_isPaper yX12_isPaper ∈ GT := mg 30 (by decide +kernel) rfl
theorem lk_X12_140 : LkV RX12 140 12 yX12_isPaper cX12_isPaper 2 (some .boolean) 1 := ⟨⟨mg 1315 (by decide +kernel) rfl, cw_X12_isPaper, iw_X12_isPaper, ⟨by decide, by decide, by decide⟩⟩, nw_X12_isPaper, RX12, _, _, ew_X12_isPaper, rfl, by decide⟩
theorem cw_X12_doesLive : Jvm.Cond.code yX12_doesLive cX12_doesLive 3 (some .boolean) ∈ GT := mg 1334 (by decide +kernel) rfl
theorem iw_X12_doesLive : Jvm.Cond.initialized yX12_doesLive.cls ∈ GT := mg 89 (by decide +kernel) rfl
theorem nw_X12_doesLive : Jvm.Cond.instanceMethod yX12_doesLive ∈ GT := mg 1333 (by decide +kernel) rfl
theorem ew_X12_doesLive : Jvm.Cond.selects RX12 yX12_doesLive yX12_doesLive ∈ GT := mg 31 (by decide +kernel) rfl
theorem lk_X12_143 : LkV RX12 143 12 yX12_doesLive cX12_doesLive 3 (some .boolean) 2 := ⟨⟨mg 1331 (by decide +kernel) rfl, cw_X12_doesLive, iw_X12_doesLive, ⟨by decide, by decide, by decide⟩⟩, nw_X12_doesLive, RX12, _, _, ew_X12_doesLive, rfl, by decide⟩
theorem cw_X12_types : Jvm.Cond.code yX12_types cX12_types 3 none ∈ GT := mg 1342 (by decide +kernel) rfl
theorem iw_X12_types : Jvm.Cond.initialized yX12_types.cls ∈ GT := mg 89 (by decide +kernel) rfl
theorem nw_X12_types : Jvm.Cond.instanceMethod yX12_types ∈ GT := mg 1341 (by decide +kernel) rfl
theorem ew_X12_types : Jvm.Cond.selects RX12 yX12_types yX12_types ∈ GT := mg 32 (by decide +kernel) rfl
theorem lk_X12_150 : LkV RX12 150 12 yX12_types cX12_types 3 none 1 := ⟨⟨mg 1339 (by decide +kernel) rfl, cw_X12_types, iw_X12_types, ⟨by decide, by decide, by decide⟩⟩, nw_X12_types, RX12, _, _, ew_X12_types, rfl, by decide⟩
theorem cw_X12_raw : Jvm.Cond.code yX12_raw cX12_raw 2 (some .int) ∈ GT := mg 1358 (by decide +kernel) rfl
theorem iw_X12_raw : Jvm.Cond.initialized yX12_raw.cls ∈ GT := mg 89 (by decide +kernel) rfl
theorem nw_X12_raw : Jvm.Cond.instanceMethod yX12_raw ∈ GT := mg 1357 (by decide +kernel) rfl
theorem ew_X12_raw : Jvm.Cond.selects RX12 yX12_raw yX12_raw ∈ GT := mg 34 (by decide +kernel) rfl
theorem lk_X12_156 : LkV RX12 156 12 yX12_raw cX12_raw 2 (some .int) 1 := ⟨⟨mg 1355 (by decide +kernel) rfl, cw_X12_raw, iw_X12_raw, ⟨by decide, by decide, by decide⟩⟩, nw_X12_raw, RX12, _, _, ew_X12_raw, rfl, by decide⟩
theorem cw_X12_isLetter : Jvm.Cond.code yX12_isLetter cX12_isLetter 2 (some .boolean) ∈ GT := mg 1362 (by decide +kernel) rfl
theorem iw_X12_isLetter : Jvm.Cond.initialized yX12_isLetter.cls ∈ GT := mg 89 (by decide +kernel) rfl
theorem nw_X12_isLetter : Jvm.Cond.instanceMethod yX12_isLetter ∈ GT := mg 1361 (by decide +kernel) rfl
theorem ew_X12_isLetter : Jvm.Cond.selects RX12 yX12_isLetter yX12_isLetter ∈ GT := mg 35 (by decide +kernel) rfl
theorem lk_X12_169 : LkV RX12 169 12 yX12_isLetter cX12_isLetter 2 (some .boolean) 1 := ⟨⟨mg 1359 (by decide +kernel) rfl, cw_X12_isLetter, iw_X12_isLetter, ⟨by decide, by decide, by decide⟩⟩, nw_X12_isLetter, RX12, _, _, ew_X12_isLetter, rfl, by decide⟩
theorem cw_X12_wordAt : Jvm.Cond.code yX12_wordAt cX12_wordAt 6 (some .int) ∈ GT := mg 1366 (by decide +kernel) rfl
theorem iw_X12_wordAt : Jvm.Cond.initialized yX12_wordAt.cls ∈ GT := mg 89 (by decide +kernel) rfl
theorem nw_X12_wordAt : Jvm.Cond.instanceMethod yX12_wordAt ∈ GT := mg 1365 (by decide +kernel) rfl
theorem ew_X12_wordAt : Jvm.Cond.selects RX12 yX12_wordAt yX12_wordAt ∈ GT := mg 36 (by decide +kernel) rfl
theorem lk_X12_172 : LkV RX12 172 12 yX12_wordAt cX12_wordAt 6 (some .int) 2 := ⟨⟨mg 1363 (by decide +kernel) rfl, cw_X12_wordAt, iw_X12_wordAt, ⟨by decide, by decide, by decide⟩⟩, nw_X12_wordAt, RX12, _, _, ew_X12_wordAt, rfl, by decide⟩
theorem cw_X12_isDigit : Jvm.Cond.code yX12_isDigit cX12_isDigit 2 (some .boolean) ∈ GT := mg 1370 (by decide +kernel) rfl
theorem iw_X12_isDigit : Jvm.Cond.initialized yX12_isDigit.cls ∈ GT := mg 89 (by decide +kernel) rfl
theorem nw_X12_isDigit : Jvm.Cond.instanceMethod yX12_isDigit ∈ GT := mg 1369 (by decide +kernel) rfl
theorem ew_X12_isDigit : Jvm.Cond.selects RX12 yX12_isDigit yX12_isDigit ∈ GT := mg 37 (by decide +kernel) rfl
theorem lk_X12_176 : LkV RX12 176 12 yX12_isDigit cX12_isDigit 2 (some .boolean) 1 := ⟨⟨mg 1367 (by decide +kernel) rfl, cw_X12_isDigit, iw_X12_isDigit, ⟨by decide, by decide, by decide⟩⟩, nw_X12_isDigit, RX12, _, _, ew_X12_isDigit, rfl, by decide⟩
theorem cw_X12_isMarkSign : Jvm.Cond.code yX12_isMarkSign cX12_isMarkSign 2 (some .boolean) ∈ GT := mg 1374 (by decide +kernel) rfl
theorem iw_X12_isMarkSign : Jvm.Cond.initialized yX12_isMarkSign.cls ∈ GT := mg 89 (by decide +kernel) rfl
theorem nw_X12_isMarkSign : Jvm.Cond.instanceMethod yX12_isMarkSign ∈ GT := mg 1373 (by decide +kernel) rfl
theorem ew_X12_isMarkSign : Jvm.Cond.selects RX12 yX12_isMarkSign yX12_isMarkSign ∈ GT := mg 38 (by decide +kernel) rfl
theorem lk_X12_179 : LkV RX12 179 12 yX12_isMarkSign cX12_isMarkSign 2 (some .boolean) 1 := ⟨⟨mg 1371 (by decide +kernel) rfl, cw_X12_isMarkSign, iw_X12_isMarkSign, ⟨by decide, by decide, by decide⟩⟩, nw_X12_isMarkSign, RX12, _, _, ew_X12_isMarkSign, rfl, by decide⟩
theorem cw_X12_errs : Jvm.Cond.code yX12_errs cX12_errs 2 (some .int) ∈ GT := mg 1386 (by decide +kernel) rfl
theorem iw_X12_errs : Jvm.Cond.initialized yX12_errs.cls ∈ GT := mg 89 (by decide +kernel) rfl
theorem nw_X12_errs : Jvm.Cond.instanceMethod yX12_errs ∈ GT := mg 1385 (by decide +kernel) rfl
theorem ew_X12_errs : Jvm.Cond.selects RX12 yX12_errs yX12_errs ∈ GT := mg 41 (by decide +kernel) rfl
theorem lk_X12_191 : LkV RX12 191 12 yX12_errs cX12_errs 2 (some .int) 1 := ⟨⟨mg 1383 (by decide +kernel) rfl, cw_X12_errs, iw_X12_errs, ⟨by decide, by decide, by decide⟩⟩, nw_X12_errs, RX12, _, _, ew_X12_errs, rfl, by decide⟩
theorem cw_X12_emits : Jvm.Cond.code yX12_emits cX12_emits 3 none ∈ GT := mg 1402 (by decide +kernel) rfl
theorem iw_X12_emits : Jvm.Cond.initialized yX12_emits.cls ∈ GT := mg 89 (by decide +kernel) rfl
theorem nw_X12_emits : Jvm.Cond.instanceMethod yX12_emits ∈ GT := mg 1401 (by decide +kernel) rfl
theorem ew_X12_emits : Jvm.Cond.selects RX12 yX12_emits yX12_emits ∈ GT := mg 45 (by decide +kernel) rfl
theorem lk_X12_194 : LkV RX12 194 12 yX12_emits cX12_emits 3 none 2 := ⟨⟨mg 1399 (by decide +kernel) rfl, cw_X12_emits, iw_X12_emits, ⟨by decide, by decide, by decide⟩⟩, nw_X12_emits, RX12, _, _, ew_X12_emits, rfl, by decide⟩
theorem cw_X12_reads : Jvm.Cond.code yX12_reads cX12_reads 2 none ∈ GT := mg 1354 (by decide +kernel) rfl
theorem iw_X12_reads : Jvm.Cond.initialized yX12_reads.cls ∈ GT := mg 89 (by decide +kernel) rfl
theorem nw_X12_reads : Jvm.Cond.instanceMethod yX12_reads ∈ GT := mg 1353 (by decide +kernel) rfl
theorem ew_X12_reads : Jvm.Cond.selects RX12 yX12_reads yX12_reads ∈ GT := mg 33 (by decide +kernel) rfl
theorem lk_X12_198 : LkV RX12 198 12 yX12_reads cX12_reads 2 none 0 := ⟨⟨mg 1351 (by decide +kernel) rfl, cw_X12_reads, iw_X12_reads, ⟨by decide, by decide, by decide⟩⟩, nw_X12_reads, RX12, _, _, ew_X12_reads, rfl, by decide⟩
theorem cw_X12_readUnit : Jvm.Cond.code yX12_readUnit cX12_readUnit 2 (some .int) ∈ GT := mg 1398 (by decide +kernel) rfl
theorem iw_X12_readUnit : Jvm.Cond.initialized yX12_readUnit.cls ∈ GT := mg 89 (by decide +kernel) rfl
theorem nw_X12_readUnit : Jvm.Cond.instanceMethod yX12_readUnit ∈ GT := mg 1397 (by decide +kernel) rfl
theorem ew_X12_readUnit : Jvm.Cond.selects RX12 yX12_readUnit yX12_readUnit ∈ GT := mg 44 (by decide +kernel) rfl
theorem lk_X12_201 : LkV RX12 201 12 yX12_readUnit cX12_readUnit 2 (some .int) 0 := ⟨⟨mg 1395 (by decide +kernel) rfl, cw_X12_readUnit, iw_X12_readUnit, ⟨by decide, by decide, by decide⟩⟩, nw_X12_readUnit, RX12, _, _, ew_X12_readUnit, rfl, by decide⟩
theorem cw_X12_isSign : Jvm.Cond.code yX12_isSign cX12_isSign 2 (some .boolean) ∈ GT := mg 1406 (by decide +kernel) rfl
theorem iw_X12_isSign : Jvm.Cond.initialized yX12_isSign.cls ∈ GT := mg 89 (by decide +kernel) rfl
theorem nw_X12_isSign : Jvm.Cond.instanceMethod yX12_isSign ∈ GT := mg 1405 (by decide +kernel) rfl
theorem ew_X12_isSign : Jvm.Cond.selects RX12 yX12_isSign yX12_isSign ∈ GT := mg 46 (by decide +kernel) rfl
theorem lk_X12_205 : LkV RX12 205 12 yX12_isSign cX12_isSign 2 (some .boolean) 1 := ⟨⟨mg 1403 (by decide +kernel) rfl, cw_X12_isSign, iw_X12_isSign, ⟨by decide, by decide, by decide⟩⟩, nw_X12_isSign, RX12, _, _, ew_X12_isSign, rfl, by decide⟩
theorem cw_X12_readProduct : Jvm.Cond.code yX12_readProduct cX12_readProduct 2 (some .int) ∈ GT := mg 1394 (by decide +kernel) rfl
theorem iw_X12_readProduct : Jvm.Cond.initialized yX12_readProduct.cls ∈ GT := mg 89 (by decide +kernel) rfl
theorem nw_X12_readProduct : Jvm.Cond.instanceMethod yX12_readProduct ∈ GT := mg 1393 (by decide +kernel) rfl
theorem ew_X12_readProduct : Jvm.Cond.selects RX12 yX12_readProduct yX12_readProduct ∈ GT := mg 43 (by decide +kernel) rfl
theorem lk_X12_208 : LkV RX12 208 12 yX12_readProduct cX12_readProduct 2 (some .int) 0 := ⟨⟨mg 1391 (by decide +kernel) rfl, cw_X12_readProduct, iw_X12_readProduct, ⟨by decide, by decide, by decide⟩⟩, nw_X12_readProduct, RX12, _, _, ew_X12_readProduct, rfl, by decide⟩
theorem cw_X12_readSum : Jvm.Cond.code yX12_readSum cX12_readSum 2 (some .int) ∈ GT := mg 1390 (by decide +kernel) rfl
theorem iw_X12_readSum : Jvm.Cond.initialized yX12_readSum.cls ∈ GT := mg 89 (by decide +kernel) rfl
theorem nw_X12_readSum : Jvm.Cond.instanceMethod yX12_readSum ∈ GT := mg 1389 (by decide +kernel) rfl
theorem ew_X12_readSum : Jvm.Cond.selects RX12 yX12_readSum yX12_readSum ∈ GT := mg 42 (by decide +kernel) rfl
theorem lk_X12_211 : LkV RX12 211 12 yX12_readSum cX12_readSum 2 (some .int) 0 := ⟨⟨mg 1387 (by decide +kernel) rfl, cw_X12_readSum, iw_X12_readSum, ⟨by decide, by decide, by decide⟩⟩, nw_X12_readSum, RX12, _, _, ew_X12_readSum, rfl, by decide⟩
theorem cw_X12_isWord : Jvm.Cond.code yX12_isWord cX12_isWord 2 (some .boolean) ∈ GT := mg 1382 (by decide +kernel) rfl
theorem iw_X12_isWord : Jvm.Cond.initialized yX12_isWord.cls ∈ GT := mg 89 (by decide +kernel) rfl
theorem nw_X12_isWord : Jvm.Cond.instanceMethod yX12_isWord ∈ GT := mg 1381 (by decide +kernel) rfl
theorem ew_X12_isWord : Jvm.Cond.selects RX12 yX12_isWord yX12_isWord ∈ GT := mg 40 (by decide +kernel) rfl
theorem lk_X12_220 : LkV RX12 220 12 yX12_isWord cX12_isWord 2 (some .boolean) 1 := ⟨⟨mg 1379 (by decide +kernel) rfl, cw_X12_isWord, iw_X12_isWord, ⟨by decide, by decide, by decide⟩⟩, nw_X12_isWord, RX12, _, _, ew_X12_isWord, rfl, by decide⟩
theorem cw_X12_waits : Jvm.Cond.code yX12_waits cX12_waits 2 none ∈ GT := mg 1414 (by decide +kernel) rfl
theorem iw_X12_waits : Jvm.Cond.initialized yX12_waits.cls ∈ GT := mg 89 (by decide +kernel) rfl
theorem nw_X12_waits : Jvm.Cond.instanceMethod yX12_waits ∈ GT := mg 1413 (by decide +kernel) rfl
theorem ew_X12_waits : Jvm.Cond.selects RX12 yX12_waits yX12_waits ∈ GT := mg 48 (by decide +kernel) rfl
theorem lk_X12_223 : LkV RX12 223 12 yX12_waits cX12_waits 2 none 1 := ⟨⟨mg 1411 (by decide +kernel) rfl, cw_X12_waits, iw_X12_waits, ⟨by decide, by decide, by decide⟩⟩, nw_X12_waits, RX12, _, _, ew_X12_waits, rfl, by decide⟩
theorem cw_X12_readCompared : Jvm.Cond.code yX12_readCompared cX12_readCompared 2 (some .int) ∈ GT := mg 1418 (by decide +kernel) rfl
theorem iw_X12_readCompared : Jvm.Cond.initialized yX12_readCompared.cls ∈ GT := mg 89 (by decide +kernel) rfl
theorem nw_X12_readCompared : Jvm.Cond.instanceMethod yX12_readCompared ∈ GT := mg 1417 (by decide +kernel) rfl
theorem ew_X12_readCompared : Jvm.Cond.selects RX12 yX12_readCompared yX12_readCompared ∈ GT := mg 49 (by decide +kernel) rfl
theorem lk_X12_226 : LkV RX12 226 12 yX12_readCompared cX12_readCompared 2 (some .int) 0 := ⟨⟨mg 1415 (by decide +kernel) rfl, cw_X12_readCompared, iw_X12_readCompared, ⟨by decide, by decide, by decide⟩⟩, nw_X12_readCompared, RX12, _, _, ew_X12_readCompared, rfl, by decide⟩
theorem cw_X12_settles : Jvm.Cond.code yX12_settles cX12_settles 2 none ∈ GT := mg 1422 (by decide +kernel) rfl
theorem iw_X12_settles : Jvm.Cond.initialized yX12_settles.cls ∈ GT := mg 89 (by decide +kernel) rfl
theorem nw_X12_settles : Jvm.Cond.instanceMethod yX12_settles ∈ GT := mg 1421 (by decide +kernel) rfl
theorem ew_X12_settles : Jvm.Cond.selects RX12 yX12_settles yX12_settles ∈ GT := mg 50 (by decide +kernel) rfl
theorem lk_X12_229 : LkV RX12 229 12 yX12_settles cX12_settles 2 none 1 := ⟨⟨mg 1419 (by decide +kernel) rfl, cw_X12_settles, iw_X12_settles, ⟨by decide, by decide, by decide⟩⟩, nw_X12_settles, RX12, _, _, ew_X12_settles, rfl, by decide⟩
theorem cw_X12_readAny : Jvm.Cond.code yX12_readAny cX12_readAny 4 (some .int) ∈ GT := mg 1410 (by decide +kernel) rfl
theorem iw_X12_readAny : Jvm.Cond.initialized yX12_readAny.cls ∈ GT := mg 89 (by decide +kernel) rfl
theorem nw_X12_readAny : Jvm.Cond.instanceMethod yX12_readAny ∈ GT := mg 1409 (by decide +kernel) rfl
theorem ew_X12_readAny : Jvm.Cond.selects RX12 yX12_readAny yX12_readAny ∈ GT := mg 47 (by decide +kernel) rfl
theorem lk_X12_232 : LkV RX12 232 12 yX12_readAny cX12_readAny 4 (some .int) 0 := ⟨⟨mg 1407 (by decide +kernel) rfl, cw_X12_readAny, iw_X12_readAny, ⟨by decide, by decide, by decide⟩⟩, nw_X12_readAny, RX12, _, _, ew_X12_readAny, rfl, by decide⟩
theorem cw_X12_readText : Jvm.Cond.code yX12_readText cX12_readText 3 (some .int) ∈ GT := mg 1378 (by decide +kernel) rfl
theorem iw_X12_readText : Jvm.Cond.initialized yX12_readText.cls ∈ GT := mg 89 (by decide +kernel) rfl
theorem nw_X12_readText : Jvm.Cond.instanceMethod yX12_readText ∈ GT := mg 1377 (by decide +kernel) rfl
theorem ew_X12_readText : Jvm.Cond.selects RX12 yX12_readText yX12_readText ∈ GT := mg 39 (by decide +kernel) rfl
theorem lk_X12_238 : LkV RX12 238 12 yX12_readText cX12_readText 3 (some .int) 0 := ⟨⟨mg 1375 (by decide +kernel) rfl, cw_X12_readText, iw_X12_readText, ⟨by decide, by decide, by decide⟩⟩, nw_X12_readText, RX12, _, _, ew_X12_readText, rfl, by decide⟩
theorem cw_X12_twoOf : Jvm.Cond.code yX12_twoOf cX12_twoOf 4 (some .int) ∈ GT := mg 1450 (by decide +kernel) rfl
theorem iw_X12_twoOf : Jvm.Cond.initialized yX12_twoOf.cls ∈ GT := mg 89 (by decide +kernel) rfl
theorem nw_X12_twoOf : Jvm.Cond.instanceMethod yX12_twoOf ∈ GT := mg 1449 (by decide +kernel) rfl
theorem ew_X12_twoOf : Jvm.Cond.selects RX12 yX12_twoOf yX12_twoOf ∈ GT := mg 55 (by decide +kernel) rfl
theorem lk_X12_244 : LkV RX12 244 12 yX12_twoOf cX12_twoOf 4 (some .int) 3 := ⟨⟨mg 1447 (by decide +kernel) rfl, cw_X12_twoOf, iw_X12_twoOf, ⟨by decide, by decide, by decide⟩⟩, nw_X12_twoOf, RX12, _, _, ew_X12_twoOf, rfl, by decide⟩
theorem cw_X12_runs : Jvm.Cond.code yX12_runs cX12_runs 5 (some .int) ∈ GT := mg 1446 (by decide +kernel) rfl
theorem iw_X12_runs : Jvm.Cond.initialized yX12_runs.cls ∈ GT := mg 89 (by decide +kernel) rfl
theorem nw_X12_runs : Jvm.Cond.instanceMethod yX12_runs ∈ GT := mg 1445 (by decide +kernel) rfl
theorem ew_X12_runs : Jvm.Cond.selects RX12 yX12_runs yX12_runs ∈ GT := mg 54 (by decide +kernel) rfl
theorem lk_X12_248 : LkV RX12 248 12 yX12_runs cX12_runs 5 (some .int) 2 := ⟨⟨mg 1443 (by decide +kernel) rfl, cw_X12_runs, iw_X12_runs, ⟨by decide, by decide, by decide⟩⟩, nw_X12_runs, RX12, _, _, ew_X12_runs, rfl, by decide⟩
theorem cw_X12_yearsOf : Jvm.Cond.code yX12_yearsOf cX12_yearsOf 3 (some .int) ∈ GT := mg 1438 (by decide +kernel) rfl
theorem iw_X12_yearsOf : Jvm.Cond.initialized yX12_yearsOf.cls ∈ GT := mg 89 (by decide +kernel) rfl
theorem nw_X12_yearsOf : Jvm.Cond.instanceMethod yX12_yearsOf ∈ GT := mg 1437 (by decide +kernel) rfl
theorem ew_X12_yearsOf : Jvm.Cond.selects RX12 yX12_yearsOf yX12_yearsOf ∈ GT := mg 52 (by decide +kernel) rfl
theorem lk_X12_251 : LkV RX12 251 12 yX12_yearsOf cX12_yearsOf 3 (some .int) 2 := ⟨⟨mg 1435 (by decide +kernel) rfl, cw_X12_yearsOf, iw_X12_yearsOf, ⟨by decide, by decide, by decide⟩⟩, nw_X12_yearsOf, RX12, _, _, ew_X12_yearsOf, rfl, by decide⟩
theorem cw_X12_isSo : Jvm.Cond.code yX12_isSo cX12_isSo 2 (some .boolean) ∈ GT := mg 1442 (by decide +kernel) rfl
theorem iw_X12_isSo : Jvm.Cond.initialized yX12_isSo.cls ∈ GT := mg 89 (by decide +kernel) rfl
theorem nw_X12_isSo : Jvm.Cond.instanceMethod yX12_isSo ∈ GT := mg 1441 (by decide +kernel) rfl
theorem ew_X12_isSo : Jvm.Cond.selects RX12 yX12_isSo yX12_isSo ∈ GT := mg 53 (by decide +kernel) rfl
theorem lk_X12_254 : LkV RX12 254 12 yX12_isSo cX12_isSo 2 (some .boolean) 1 := ⟨⟨mg 1439 (by decide +kernel) rfl, cw_X12_isSo, iw_X12_isSo, ⟨by decide, by decide, by decide⟩⟩, nw_X12_isSo, RX12, _, _, ew_X12_isSo, rfl, by decide⟩
theorem cw_X12_ageOf : Jvm.Cond.code yX12_ageOf cX12_ageOf 7 (some .int) ∈ GT := mg 1434 (by decide +kernel) rfl
theorem iw_X12_ageOf : Jvm.Cond.initialized yX12_ageOf.cls ∈ GT := mg 89 (by decide +kernel) rfl
theorem nw_X12_ageOf : Jvm.Cond.instanceMethod yX12_ageOf ∈ GT := mg 1433 (by decide +kernel) rfl
theorem ew_X12_ageOf : Jvm.Cond.selects RX12 yX12_ageOf yX12_ageOf ∈ GT := mg 51 (by decide +kernel) rfl
theorem lk_X12_257 : LkV RX12 257 12 yX12_ageOf cX12_ageOf 7 (some .int) 3 := ⟨⟨mg 1431 (by decide +kernel) rfl, cw_X12_ageOf, iw_X12_ageOf, ⟨by decide, by decide, by decide⟩⟩, nw_X12_ageOf, RX12, _, _, ew_X12_ageOf, rfl, by decide⟩
theorem cw_X12_keepsAhead : Jvm.Cond.code yX12_keepsAhead cX12_keepsAhead 3 none ∈ GT := mg 1462 (by decide +kernel) rfl
theorem iw_X12_keepsAhead : Jvm.Cond.initialized yX12_keepsAhead.cls ∈ GT := mg 89 (by decide +kernel) rfl
theorem nw_X12_keepsAhead : Jvm.Cond.instanceMethod yX12_keepsAhead ∈ GT := mg 1461 (by decide +kernel) rfl
theorem ew_X12_keepsAhead : Jvm.Cond.selects RX12 yX12_keepsAhead yX12_keepsAhead ∈ GT := mg 56 (by decide +kernel) rfl
theorem lk_X12_263 : LkV RX12 263 12 yX12_keepsAhead cX12_keepsAhead 3 none 1 := ⟨⟨mg 1459 (by decide +kernel) rfl, cw_X12_keepsAhead, iw_X12_keepsAhead, ⟨by decide, by decide, by decide⟩⟩, nw_X12_keepsAhead, RX12, _, _, ew_X12_keepsAhead, rfl, by decide⟩
theorem cw_X12_isRead : Jvm.Cond.code yX12_isRead cX12_isRead 4 none ∈ GT := mg 1466 (by decide +kernel) rfl
theorem iw_X12_isRead : Jvm.Cond.initialized yX12_isRead.cls ∈ GT := mg 89 (by decide +kernel) rfl
theorem nw_X12_isRead : Jvm.Cond.instanceMethod yX12_isRead ∈ GT := mg 1465 (by decide +kernel) rfl
theorem ew_X12_isRead : Jvm.Cond.selects RX12 yX12_isRead yX12_isRead ∈ GT := mg 57 (by decide +kernel) rfl
theorem lk_X12_266 : LkV RX12 266 12 yX12_isRead cX12_isRead 4 none 3 := ⟨⟨mg 1463 (by decide +kernel) rfl, cw_X12_isRead, iw_X12_isRead, ⟨by decide, by decide, by decide⟩⟩, nw_X12_isRead, RX12, _, _, ew_X12_isRead, rfl, by decide⟩
theorem cw_X12_leasesOf : Jvm.Cond.code yX12_leasesOf cX12_leasesOf 4 (some .int) ∈ GT := mg 1488 (by decide +kernel) rfl
theorem iw_X12_leasesOf : Jvm.Cond.initialized yX12_leasesOf.cls ∈ GT := mg 89 (by decide +kernel) rfl
theorem nw_X12_leasesOf : Jvm.Cond.instanceMethod yX12_leasesOf ∈ GT := mg 1487 (by decide +kernel) rfl
theorem ew_X12_leasesOf : Jvm.Cond.selects RX12 yX12_leasesOf yX12_leasesOf ∈ GT := mg 61 (by decide +kernel) rfl
theorem lk_X12_270 : LkV RX12 270 12 yX12_leasesOf cX12_leasesOf 4 (some .int) 1 := ⟨⟨mg 1485 (by decide +kernel) rfl, cw_X12_leasesOf, iw_X12_leasesOf, ⟨by decide, by decide, by decide⟩⟩, nw_X12_leasesOf, RX12, _, _, ew_X12_leasesOf, rfl, by decide⟩
theorem cw_X12_draw : Jvm.Cond.code yX12_draw cX12_draw 2 (some .int) ∈ GT := mg 1478 (by decide +kernel) rfl
theorem iw_X12_draw : Jvm.Cond.initialized yX12_draw.cls ∈ GT := mg 89 (by decide +kernel) rfl
theorem nw_X12_draw : Jvm.Cond.instanceMethod yX12_draw ∈ GT := mg 1477 (by decide +kernel) rfl
theorem ew_X12_draw : Jvm.Cond.selects RX12 yX12_draw yX12_draw ∈ GT := mg 59 (by decide +kernel) rfl
theorem lk_X12_273 : LkV RX12 273 12 yX12_draw cX12_draw 2 (some .int) 1 := ⟨⟨mg 1475 (by decide +kernel) rfl, cw_X12_draw, iw_X12_draw, ⟨by decide, by decide, by decide⟩⟩, nw_X12_draw, RX12, _, _, ew_X12_draw, rfl, by decide⟩
theorem cw_X12_nextOne : Jvm.Cond.code yX12_nextOne cX12_nextOne 3 (some .int) ∈ GT := mg 1484 (by decide +kernel) rfl
theorem iw_X12_nextOne : Jvm.Cond.initialized yX12_nextOne.cls ∈ GT := mg 89 (by decide +kernel) rfl
theorem nw_X12_nextOne : Jvm.Cond.instanceMethod yX12_nextOne ∈ GT := mg 1483 (by decide +kernel) rfl
theorem ew_X12_nextOne : Jvm.Cond.selects RX12 yX12_nextOne yX12_nextOne ∈ GT := mg 60 (by decide +kernel) rfl
theorem lk_X12_279 : LkV RX12 279 12 yX12_nextOne cX12_nextOne 3 (some .int) 0 := ⟨⟨mg 1481 (by decide +kernel) rfl, cw_X12_nextOne, iw_X12_nextOne, ⟨by decide, by decide, by decide⟩⟩, nw_X12_nextOne, RX12, _, _, ew_X12_nextOne, rfl, by decide⟩
theorem cw_X12_ends : Jvm.Cond.code yX12_ends cX12_ends 2 none ∈ GT := mg 1474 (by decide +kernel) rfl
theorem iw_X12_ends : Jvm.Cond.initialized yX12_ends.cls ∈ GT := mg 89 (by decide +kernel) rfl
theorem nw_X12_ends : Jvm.Cond.instanceMethod yX12_ends ∈ GT := mg 1473 (by decide +kernel) rfl
theorem ew_X12_ends : Jvm.Cond.selects RX12 yX12_ends yX12_ends ∈ GT := mg 58 (by decide +kernel) rfl
theorem lk_X12_282 : LkV RX12 282 12 yX12_ends cX12_ends 2 none 0 := ⟨⟨mg 1471 (by decide +kernel) rfl, cw_X12_ends, iw_X12_ends, ⟨by decide, by decide, by decide⟩⟩, nw_X12_ends, RX12, _, _, ew_X12_ends, rfl, by decide⟩
theorem cw_X12_staysFor : Jvm.Cond.code yX12_staysFor cX12_staysFor 4 (some .int) ∈ GT := mg 1496 (by decide +kernel) rfl
theorem iw_X12_staysFor : Jvm.Cond.initialized yX12_staysFor.cls ∈ GT := mg 89 (by decide +kernel) rfl
theorem nw_X12_staysFor : Jvm.Cond.instanceMethod yX12_staysFor ∈ GT := mg 1495 (by decide +kernel) rfl
theorem ew_X12_staysFor : Jvm.Cond.selects RX12 yX12_staysFor yX12_staysFor ∈ GT := mg 62 (by decide +kernel) rfl
theorem lk_X12_285 : LkV RX12 285 12 yX12_staysFor cX12_staysFor 4 (some .int) 1 := ⟨⟨mg 1493 (by decide +kernel) rfl, cw_X12_staysFor, iw_X12_staysFor, ⟨by decide, by decide, by decide⟩⟩, nw_X12_staysFor, RX12, _, _, ew_X12_staysFor, rfl, by decide⟩
theorem cw_X12_thinksOf : Jvm.Cond.code yX12_thinksOf cX12_thinksOf 2 none ∈ GT := mg 1525 (by decide +kernel) rfl
theorem iw_X12_thinksOf : Jvm.Cond.initialized yX12_thinksOf.cls ∈ GT := mg 89 (by decide +kernel) rfl
theorem nw_X12_thinksOf : Jvm.Cond.instanceMethod yX12_thinksOf ∈ GT := mg 1524 (by decide +kernel) rfl
theorem ew_X12_thinksOf : Jvm.Cond.selects RX12 yX12_thinksOf yX12_thinksOf ∈ GT := mg 65 (by decide +kernel) rfl
theorem lk_X12_292 : LkV RX12 292 12 yX12_thinksOf cX12_thinksOf 2 none 1 := ⟨⟨mg 1522 (by decide +kernel) rfl, cw_X12_thinksOf, iw_X12_thinksOf, ⟨by decide, by decide, by decide⟩⟩, nw_X12_thinksOf, RX12, _, _, ew_X12_thinksOf, rfl, by decide⟩
theorem cw_X12_doStand : Jvm.Cond.code yX12_doStand cX12_doStand 3 (some .boolean) ∈ GT := mg 1529 (by decide +kernel) rfl
theorem iw_X12_doStand : Jvm.Cond.initialized yX12_doStand.cls ∈ GT := mg 89 (by decide +kernel) rfl
theorem nw_X12_doStand : Jvm.Cond.instanceMethod yX12_doStand ∈ GT := mg 1528 (by decide +kernel) rfl
theorem ew_X12_doStand : Jvm.Cond.selects RX12 yX12_doStand yX12_doStand ∈ GT := mg 66 (by decide +kernel) rfl
theorem lk_X12_295 : LkV RX12 295 12 yX12_doStand cX12_doStand 3 (some .boolean) 1 := ⟨⟨mg 1526 (by decide +kernel) rfl, cw_X12_doStand, iw_X12_doStand, ⟨by decide, by decide, by decide⟩⟩, nw_X12_doStand, RX12, _, _, ew_X12_doStand, rfl, by decide⟩
theorem cw_X12_claimed : Jvm.Cond.code yX12_claimed cX12_claimed 3 (some .int) ∈ GT := mg 1517 (by decide +kernel) rfl
theorem iw_X12_claimed : Jvm.Cond.initialized yX12_claimed.cls ∈ GT := mg 89 (by decide +kernel) rfl
theorem nw_X12_claimed : Jvm.Cond.instanceMethod yX12_claimed ∈ GT := mg 1516 (by decide +kernel) rfl
theorem ew_X12_claimed : Jvm.Cond.selects RX12 yX12_claimed yX12_claimed ∈ GT := mg 63 (by decide +kernel) rfl
theorem lk_X12_298 : LkV RX12 298 12 yX12_claimed cX12_claimed 3 (some .int) 0 := ⟨⟨mg 1514 (by decide +kernel) rfl, cw_X12_claimed, iw_X12_claimed, ⟨by decide, by decide, by decide⟩⟩, nw_X12_claimed, RX12, _, _, ew_X12_claimed, rfl, by decide⟩
theorem cw_X12_findsStanding : Jvm.Cond.code yX12_findsStanding cX12_findsStanding 4 (some .int) ∈ GT := mg 1521 (by decide +kernel) rfl
theorem iw_X12_findsStanding : Jvm.Cond.initialized yX12_findsStanding.cls ∈ GT := mg 89 (by decide +kernel) rfl
theorem nw_X12_findsStanding : Jvm.Cond.instanceMethod yX12_findsStanding ∈ GT := mg 1520 (by decide +kernel) rfl
theorem ew_X12_findsStanding : Jvm.Cond.selects RX12 yX12_findsStanding yX12_findsStanding ∈ GT := mg 64 (by decide +kernel) rfl
theorem lk_X12_301 : LkV RX12 301 12 yX12_findsStanding cX12_findsStanding 4 (some .int) 1 := ⟨⟨mg 1518 (by decide +kernel) rfl, cw_X12_findsStanding, iw_X12_findsStanding, ⟨by decide, by decide, by decide⟩⟩, nw_X12_findsStanding, RX12, _, _, ew_X12_findsStanding, rfl, by decide⟩
theorem cw_X12_livingNow : Jvm.Cond.code yX12_livingNow cX12_livingNow 3 (some .int) ∈ GT := mg 1533 (by decide +kernel) rfl
theorem iw_X12_livingNow : Jvm.Cond.initialized yX12_livingNow.cls ∈ GT := mg 89 (by decide +kernel) rfl
theorem nw_X12_livingNow : Jvm.Cond.instanceMethod yX12_livingNow ∈ GT := mg 1532 (by decide +kernel) rfl
theorem ew_X12_livingNow : Jvm.Cond.selects RX12 yX12_livingNow yX12_livingNow ∈ GT := mg 67 (by decide +kernel) rfl
theorem lk_X12_304 : LkV RX12 304 12 yX12_livingNow cX12_livingNow 3 (some .int) 0 := ⟨⟨mg 1530 (by decide +kernel) rfl, cw_X12_livingNow, iw_X12_livingNow, ⟨by decide, by decide, by decide⟩⟩, nw_X12_livingNow, RX12, _, _, ew_X12_livingNow, rfl, by decide⟩
theorem cw_X12_ones : Jvm.Cond.code yX12_ones cX12_ones 4 (some .int) ∈ GT := mg 1537 (by decide +kernel) rfl
theorem iw_X12_ones : Jvm.Cond.initialized yX12_ones.cls ∈ GT := mg 89 (by decide +kernel) rfl
theorem nw_X12_ones : Jvm.Cond.instanceMethod yX12_ones ∈ GT := mg 1536 (by decide +kernel) rfl
theorem ew_X12_ones : Jvm.Cond.selects RX12 yX12_ones yX12_ones ∈ GT := mg 68 (by decide +kernel) rfl
theorem lk_X12_307 : LkV RX12 307 12 yX12_ones cX12_ones 4 (some .int) 1 := ⟨⟨mg 1534 (by decide +kernel) rfl, cw_X12_ones, iw_X12_ones, ⟨by decide, by decide, by decide⟩⟩, nw_X12_ones, RX12, _, _, ew_X12_ones, rfl, by decide⟩
theorem cw_X12_areEnough : Jvm.Cond.code yX12_areEnough cX12_areEnough 3 (some .boolean) ∈ GT := mg 1541 (by decide +kernel) rfl
theorem iw_X12_areEnough : Jvm.Cond.initialized yX12_areEnough.cls ∈ GT := mg 89 (by decide +kernel) rfl
theorem nw_X12_areEnough : Jvm.Cond.instanceMethod yX12_areEnough ∈ GT := mg 1540 (by decide +kernel) rfl
theorem ew_X12_areEnough : Jvm.Cond.selects RX12 yX12_areEnough yX12_areEnough ∈ GT := mg 69 (by decide +kernel) rfl
theorem lk_X12_310 : LkV RX12 310 12 yX12_areEnough cX12_areEnough 3 (some .boolean) 1 := ⟨⟨mg 1538 (by decide +kernel) rfl, cw_X12_areEnough, iw_X12_areEnough, ⟨by decide, by decide, by decide⟩⟩, nw_X12_areEnough, RX12, _, _, ew_X12_areEnough, rfl, by decide⟩
theorem cw_X12_without : Jvm.Cond.code yX12_without cX12_without 2 (some .int) ∈ GT := mg 1553 (by decide +kernel) rfl
theorem iw_X12_without : Jvm.Cond.initialized yX12_without.cls ∈ GT := mg 89 (by decide +kernel) rfl
theorem nw_X12_without : Jvm.Cond.instanceMethod yX12_without ∈ GT := mg 1552 (by decide +kernel) rfl
theorem ew_X12_without : Jvm.Cond.selects RX12 yX12_without yX12_without ∈ GT := mg 70 (by decide +kernel) rfl
theorem lk_X12_313 : LkV RX12 313 12 yX12_without cX12_without 2 (some .int) 1 := ⟨⟨mg 1550 (by decide +kernel) rfl, cw_X12_without, iw_X12_without, ⟨by decide, by decide, by decide⟩⟩, nw_X12_without, RX12, _, _, ew_X12_without, rfl, by decide⟩
theorem cw_X12_papersOn : Jvm.Cond.code yX12_papersOn cX12_papersOn 4 (some .int) ∈ GT := mg 1565 (by decide +kernel) rfl
theorem iw_X12_papersOn : Jvm.Cond.initialized yX12_papersOn.cls ∈ GT := mg 89 (by decide +kernel) rfl
theorem nw_X12_papersOn : Jvm.Cond.instanceMethod yX12_papersOn ∈ GT := mg 1564 (by decide +kernel) rfl
theorem ew_X12_papersOn : Jvm.Cond.selects RX12 yX12_papersOn yX12_papersOn ∈ GT := mg 71 (by decide +kernel) rfl
theorem lk_X12_316 : LkV RX12 316 12 yX12_papersOn cX12_papersOn 4 (some .int) 1 := ⟨⟨mg 1562 (by decide +kernel) rfl, cw_X12_papersOn, iw_X12_papersOn, ⟨by decide, by decide, by decide⟩⟩, nw_X12_papersOn, RX12, _, _, ew_X12_papersOn, rfl, by decide⟩
theorem cw_X12_agesOn : Jvm.Cond.code yX12_agesOn cX12_agesOn 4 (some .int) ∈ GT := mg 1569 (by decide +kernel) rfl
theorem iw_X12_agesOn : Jvm.Cond.initialized yX12_agesOn.cls ∈ GT := mg 89 (by decide +kernel) rfl
theorem nw_X12_agesOn : Jvm.Cond.instanceMethod yX12_agesOn ∈ GT := mg 1568 (by decide +kernel) rfl
theorem ew_X12_agesOn : Jvm.Cond.selects RX12 yX12_agesOn yX12_agesOn ∈ GT := mg 72 (by decide +kernel) rfl
theorem lk_X12_319 : LkV RX12 319 12 yX12_agesOn cX12_agesOn 4 (some .int) 1 := ⟨⟨mg 1566 (by decide +kernel) rfl, cw_X12_agesOn, iw_X12_agesOn, ⟨by decide, by decide, by decide⟩⟩, nw_X12_agesOn, RX12, _, _, ew_X12_agesOn, rfl, by decide⟩
theorem cw_X12_kept : Jvm.Cond.code yX12_kept cX12_kept 2 (some .int) ∈ GT := mg 1581 (by decide +kernel) rfl
theorem iw_X12_kept : Jvm.Cond.initialized yX12_kept.cls ∈ GT := mg 89 (by decide +kernel) rfl
theorem nw_X12_kept : Jvm.Cond.instanceMethod yX12_kept ∈ GT := mg 1580 (by decide +kernel) rfl
theorem ew_X12_kept : Jvm.Cond.selects RX12 yX12_kept yX12_kept ∈ GT := mg 73 (by decide +kernel) rfl
theorem lk_X12_329 : LkV RX12 329 12 yX12_kept cX12_kept 2 (some .int) 1 := ⟨⟨mg 1578 (by decide +kernel) rfl, cw_X12_kept, iw_X12_kept, ⟨by decide, by decide, by decide⟩⟩, nw_X12_kept, RX12, _, _, ew_X12_kept, rfl, by decide⟩
theorem cw_X12_keepsPapers : Jvm.Cond.code yX12_keepsPapers cX12_keepsPapers 2 none ∈ GT := mg 1585 (by decide +kernel) rfl
theorem iw_X12_keepsPapers : Jvm.Cond.initialized yX12_keepsPapers.cls ∈ GT := mg 89 (by decide +kernel) rfl
theorem nw_X12_keepsPapers : Jvm.Cond.instanceMethod yX12_keepsPapers ∈ GT := mg 1584 (by decide +kernel) rfl
theorem ew_X12_keepsPapers : Jvm.Cond.selects RX12 yX12_keepsPapers yX12_keepsPapers ∈ GT := mg 74 (by decide +kernel) rfl
theorem lk_X12_335 : LkV RX12 335 12 yX12_keepsPapers cX12_keepsPapers 2 none 0 := ⟨⟨mg 1582 (by decide +kernel) rfl, cw_X12_keepsPapers, iw_X12_keepsPapers, ⟨by decide, by decide, by decide⟩⟩, nw_X12_keepsPapers, RX12, _, _, ew_X12_keepsPapers, rfl, by decide⟩
theorem cw_X12_keepsLaw : Jvm.Cond.code yX12_keepsLaw cX12_keepsLaw 2 none ∈ GT := mg 1589 (by decide +kernel) rfl
theorem iw_X12_keepsLaw : Jvm.Cond.initialized yX12_keepsLaw.cls ∈ GT := mg 89 (by decide +kernel) rfl
theorem nw_X12_keepsLaw : Jvm.Cond.instanceMethod yX12_keepsLaw ∈ GT := mg 1588 (by decide +kernel) rfl
theorem ew_X12_keepsLaw : Jvm.Cond.selects RX12 yX12_keepsLaw yX12_keepsLaw ∈ GT := mg 75 (by decide +kernel) rfl
theorem lk_X12_338 : LkV RX12 338 12 yX12_keepsLaw cX12_keepsLaw 2 none 0 := ⟨⟨mg 1586 (by decide +kernel) rfl, cw_X12_keepsLaw, iw_X12_keepsLaw, ⟨by decide, by decide, by decide⟩⟩, nw_X12_keepsLaw, RX12, _, _, ew_X12_keepsLaw, rfl, by decide⟩
theorem cw_J0_coder_7d493 : Jvm.Cond.code yJ0_coder_7d493 cJ0_coder_7d493 1 (some .byte) ∈ GT := mg 706 (by decide +kernel) rfl
theorem iw_J0_coder_7d493 : Jvm.Cond.initialized yJ0_coder_7d493.cls ∈ GT := mg 91 (by decide +kernel) rfl
theorem nw_J0_coder_7d493 : Jvm.Cond.instanceMethod yJ0_coder_7d493 ∈ GT := mg 704 (by decide +kernel) rfl
theorem ew_J0_coder_7d493 : Jvm.Cond.selects "java/lang/String" yJ0_coder_7d493 yJ0_coder_7d493 ∈ GT := mg 705 (by decide +kernel) rfl
theorem lk_J0_335 : LkT RJ0 335 yJ0_coder_7d493 cJ0_coder_7d493 1 (some .byte) 0 := ⟨⟨mg 703 (by decide +kernel) rfl, cw_J0_coder_7d493, iw_J0_coder_7d493, ⟨by decide, by decide, by decide⟩⟩, nw_J0_coder_7d493, ew_J0_coder_7d493⟩
theorem cw_J0_isLatin1_aae02 : Jvm.Cond.code yJ0_isLatin1_aae02 cJ0_isLatin1_aae02 1 (some .boolean) ∈ GT := mg 716 (by decide +kernel) rfl
theorem iw_J0_isLatin1_aae02 : Jvm.Cond.initialized yJ0_isLatin1_aae02.cls ∈ GT := mg 91 (by decide +kernel) rfl
theorem nw_J0_isLatin1_aae02 : Jvm.Cond.instanceMethod yJ0_isLatin1_aae02 ∈ GT := mg 714 (by decide +kernel) rfl
theorem ew_J0_isLatin1_aae02 : Jvm.Cond.selects "java/lang/String" yJ0_isLatin1_aae02 yJ0_isLatin1_aae02 ∈ GT := mg 715 (by decide +kernel) rfl
theorem lk_J0_492 : LkT RJ0 492 yJ0_isLatin1_aae02 cJ0_isLatin1_aae02 1 (some .boolean) 0 := ⟨⟨mg 713 (by decide +kernel) rfl, cw_J0_isLatin1_aae02, iw_J0_isLatin1_aae02, ⟨by decide, by decide, by decide⟩⟩, nw_J0_isLatin1_aae02, ew_J0_isLatin1_aae02⟩
theorem cw_J1_charAt_3b067 : Jvm.Cond.code yJ1_charAt_3b067 cJ1_charAt_3b067 2 (some .char) ∈ GT := mg 719 (by decide +kernel) rfl
theorem iw_J1_charAt_3b067 : Jvm.Cond.initialized yJ1_charAt_3b067.cls ∈ GT := mg 92 (by decide +kernel) rfl
theorem sw_J1_charAt_3b067 : Jvm.Cond.static yJ1_charAt_3b067 ∈ GT := mg 718 (by decide +kernel) rfl
theorem lk_J0_495 : LkS RJ0 495 yJ1_charAt_3b067 cJ1_charAt_3b067 2 (some .char) 2 := ⟨⟨mg 717 (by decide +kernel) rfl, cw_J1_charAt_3b067, iw_J1_charAt_3b067, ⟨by decide, by decide, by decide⟩⟩, sw_J1_charAt_3b067⟩
theorem lk_J0_505 : LkT RJ0 505 yJ0_length_8abf5 cJ0_length_8abf5 1 (some .int) 0 := ⟨⟨mg 767 (by decide +kernel) rfl, cw_J0_length_8abf5, iw_J0_length_8abf5, ⟨by decide, by decide, by decide⟩⟩, nw_J0_length_8abf5, ew_J0_length_8abf5⟩
theorem cw_J0_indexOf_7cf53 : Jvm.Cond.code yJ0_indexOf_7cf53 cJ0_indexOf_7cf53 3 (some .int) ∈ GT := mg 766 (by decide +kernel) rfl
theorem iw_J0_indexOf_7cf53 : Jvm.Cond.initialized yJ0_indexOf_7cf53.cls ∈ GT := mg 91 (by decide +kernel) rfl
theorem nw_J0_indexOf_7cf53 : Jvm.Cond.instanceMethod yJ0_indexOf_7cf53 ∈ GT := mg 764 (by decide +kernel) rfl
theorem ew_J0_indexOf_7cf53 : Jvm.Cond.selects "java/lang/String" yJ0_indexOf_7cf53 yJ0_indexOf_7cf53 ∈ GT := mg 765 (by decide +kernel) rfl
theorem lk_J0_633 : LkT RJ0 633 yJ0_indexOf_7cf53 cJ0_indexOf_7cf53 3 (some .int) 2 := ⟨⟨mg 763 (by decide +kernel) rfl, cw_J0_indexOf_7cf53, iw_J0_indexOf_7cf53, ⟨by decide, by decide, by decide⟩⟩, nw_J0_indexOf_7cf53, ew_J0_indexOf_7cf53⟩
theorem cw_J1_indexOf_4cfef : Jvm.Cond.code yJ1_indexOf_4cfef cJ1_indexOf_4cfef 4 (some .int) ∈ GT := mg 770 (by decide +kernel) rfl
theorem iw_J1_indexOf_4cfef : Jvm.Cond.initialized yJ1_indexOf_4cfef.cls ∈ GT := mg 92 (by decide +kernel) rfl
theorem sw_J1_indexOf_4cfef : Jvm.Cond.static yJ1_indexOf_4cfef ∈ GT := mg 769 (by decide +kernel) rfl
theorem lk_J0_637 : LkS RJ0 637 yJ1_indexOf_4cfef cJ1_indexOf_4cfef 4 (some .int) 4 := ⟨⟨mg 768 (by decide +kernel) rfl, cw_J1_indexOf_4cfef, iw_J1_indexOf_4cfef, ⟨by decide, by decide, by decide⟩⟩, sw_J1_indexOf_4cfef⟩
theorem cw_J3_checkIndex_8e157 : Jvm.Cond.code yJ3_checkIndex_8e157 cJ3_checkIndex_8e157 3 (some .int) ∈ GT := mg 727 (by decide +kernel) rfl
theorem iw_J3_checkIndex_8e157 : Jvm.Cond.initialized yJ3_checkIndex_8e157.cls ∈ GT := mg 93 (by decide +kernel) rfl
theorem sw_J3_checkIndex_8e157 : Jvm.Cond.static yJ3_checkIndex_8e157 ∈ GT := mg 726 (by decide +kernel) rfl
theorem lk_J0_1059 : LkS RJ0 1059 yJ3_checkIndex_8e157 cJ3_checkIndex_8e157 3 (some .int) 3 := ⟨⟨mg 725 (by decide +kernel) rfl, cw_J3_checkIndex_8e157, iw_J3_checkIndex_8e157, ⟨by decide, by decide, by decide⟩⟩, sw_J3_checkIndex_8e157⟩
theorem cw_J0_checkIndex_df160 : Jvm.Cond.code yJ0_checkIndex_df160 cJ0_checkIndex_df160 2 none ∈ GT := mg 722 (by decide +kernel) rfl
theorem iw_J0_checkIndex_df160 : Jvm.Cond.initialized yJ0_checkIndex_df160.cls ∈ GT := mg 91 (by decide +kernel) rfl
theorem sw_J0_checkIndex_df160 : Jvm.Cond.static yJ0_checkIndex_df160 ∈ GT := mg 721 (by decide +kernel) rfl
theorem lk_J1_9 : LkS RJ1 9 yJ0_checkIndex_df160 cJ0_checkIndex_df160 2 none 2 := ⟨⟨mg 720 (by decide +kernel) rfl, cw_J0_checkIndex_df160, iw_J0_checkIndex_df160, ⟨by decide, by decide, by decide⟩⟩, sw_J0_checkIndex_df160⟩
theorem cw_J1_canEncode_9a6ad : Jvm.Cond.code yJ1_canEncode_9a6ad cJ1_canEncode_9a6ad 1 (some .boolean) ∈ GT := mg 773 (by decide +kernel) rfl
theorem iw_J1_canEncode_9a6ad : Jvm.Cond.initialized yJ1_canEncode_9a6ad.cls ∈ GT := mg 92 (by decide +kernel) rfl
theorem sw_J1_canEncode_9a6ad : Jvm.Cond.static yJ1_canEncode_9a6ad ∈ GT := mg 772 (by decide +kernel) rfl
theorem lk_J1_88 : LkS RJ1 88 yJ1_canEncode_9a6ad cJ1_canEncode_9a6ad 1 (some .boolean) 1 := ⟨⟨mg 771 (by decide +kernel) rfl, cw_J1_canEncode_9a6ad, iw_J1_canEncode_9a6ad, ⟨by decide, by decide, by decide⟩⟩, sw_J1_canEncode_9a6ad⟩
theorem cw_J1_indexOfChar_4cfef : Jvm.Cond.code yJ1_indexOfChar_4cfef cJ1_indexOfChar_4cfef 6 (some .int) ∈ GT := mg 778 (by decide +kernel) rfl
theorem iw_J1_indexOfChar_4cfef : Jvm.Cond.initialized yJ1_indexOfChar_4cfef.cls ∈ GT := mg 92 (by decide +kernel) rfl
theorem sw_J1_indexOfChar_4cfef : Jvm.Cond.static yJ1_indexOfChar_4cfef ∈ GT := mg 777 (by decide +kernel) rfl
theorem lk_J1_95 : LkS RJ1 95 yJ1_indexOfChar_4cfef cJ1_indexOfChar_4cfef 6 (some .int) 4 := ⟨⟨mg 776 (by decide +kernel) rfl, cw_J1_indexOfChar_4cfef, iw_J1_indexOfChar_4cfef, ⟨by decide, by decide, by decide⟩⟩, sw_J1_indexOfChar_4cfef⟩
end
